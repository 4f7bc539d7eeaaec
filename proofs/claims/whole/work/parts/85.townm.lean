/-! TEXTS: the reference's lines of a TOWN -/
section TownM
variable {tb : Nat → Nat} {tl : Nat} {M : Mem}
theorem plain_m {x : Nat × Nat} {e r : Nat} {M0 : Mem} (h : MLs tb tl e 0 x M) (hF : FT2 M0 M) (hr : r = 1 ∨ r = 2) : LR tb tl e 1 (fun M' => MLs tb tl e 1 (xPace tb tl e x) M' ∧ FM M0 M' ∧ gI M' 100 21 = gI M0 100 21 ∧ ∀ j, gA M' 100 19 j = if j = r then nI (vN tb tl e 0) else gA M0 100 19 j) M0 (f_X10_plainLine M (nI r) (nI 1) (nI 9)) := by
  unfold f_X10_plainLine
  refine take_LR h (FT2_FM hF) (by omega) (by omega) (by omega) (by omega) fun M3 b1 b2 b3 b4 b5 => ?_
  have F : FT2 M0 M3 := FT2_tr hF b2
  have e19 : gA M3 100 19 = gA M0 100 19 := F.2 19 (by omega)
  rw [gin_n (by omega) (by omega), gin_n (by omega) (by omega), ix_n (by omega), ix_n (by omega), b3, nm_s]
  refine LR_e b1.2.2.2.2 ⟨MLs_A b1 (by omega), FM_tr (FT2_FM F) (FM_sA _ (by omega)), F.1 21 (by omega), fun j => ?_⟩
  rw [gA_sA, e19]
  by_cases q : j = r
  · rw [if_pos ⟨rfl, rfl, q⟩, if_pos q]
  · rw [if_neg (fun z => q z.2.2), if_neg q]
theorem speed_m {x : Nat × Nat} {e : Nat} (h : MSt tb tl e x M) : LR tb tl e 1 (fun M' => MLs tb tl e 1 (xPace tb tl e x) M' ∧ FM M M' ∧ gA M' 100 19 0 = gA M 100 19 0 ∧ gI M' 100 21 = gI M 100 21 ∧ ∀ T, TR1 M T → TR1 M' (setTS T (vN tb tl e 0))) M (f_X10_townLine M (lN (wC 10)) (nI (tkF tb tl e))) := by
  obtain ⟨M2, a2, a3, a4⟩ := plain_first h
  obtain ⟨-, -, -, -, -, -, -, -, -, -, w10, -⟩ := wC_all
  rw [w10]
  unfold f_X10_townLine f_X10_townLine_45 f_X10_townLine_61 f_X10_townLine_81 f_X10_townLine_95
  rw [if_pos (by decide +kernel), if_neg (by decide +kernel), a2, bn_s, if_pos (by decide +kernel), if_pos (by decide +kernel)]
  refine LR_b ?_
  refine LR_mono (plain_m a3 a4 (Or.inl rfl)) fun M' z => ⟨z.1, z.2.1, by rw [z.2.2.2, if_neg (by omega)], z.2.2.1, ?_⟩
  rintro T ⟨⟨h0, h1, h2, h3, h4⟩, h5, h6⟩
  have g := z.2.2.2
  refine ⟨⟨?_, ?_, ?_, ?_, ?_⟩, fun w hw => ?_, fun w hw => ?_⟩
  · rw [g, if_neg (by omega)]; exact h0
  · rw [g, if_pos rfl]; rfl
  · rw [g, if_neg (by omega)]; exact h2
  · rw [g, if_neg (by omega)]; exact h3
  · rw [g, if_neg (by omega)]; exact h4
  · rw [g, g, g, g, if_neg (by omega), if_neg (by omega), if_neg (by omega), if_neg (by omega)]; exact h5 w hw
  · rw [g, g, if_neg (by omega), if_neg (by omega)]; exact h6 w hw
theorem miles_m {x : Nat × Nat} {e : Nat} (h : MSt tb tl e x M) : LR tb tl e 1 (fun M' => MLs tb tl e 1 (xPace tb tl e x) M' ∧ FM M M' ∧ gA M' 100 19 0 = gA M 100 19 0 ∧ gI M' 100 21 = gI M 100 21 ∧ ∀ T, TR1 M T → TR1 M' (setTM T (vN tb tl e 0))) M (f_X10_townLine M (lN (wC 11)) (nI (tkF tb tl e))) := by
  obtain ⟨M2, a2, a3, a4⟩ := plain_first h
  obtain ⟨-, -, -, -, -, -, -, -, -, -, -, w11, -⟩ := wC_all
  rw [w11]
  unfold f_X10_townLine f_X10_townLine_45 f_X10_townLine_61 f_X10_townLine_81 f_X10_townLine_95
  rw [if_neg (by decide +kernel), if_pos (by decide +kernel), if_neg (by decide +kernel), a2, bn_s, if_neg (by decide +kernel), if_pos (by decide +kernel), if_neg (by decide +kernel)]
  refine LR_b ?_
  refine LR_mono (plain_m a3 a4 (Or.inr rfl)) fun M' z => ⟨z.1, z.2.1, by rw [z.2.2.2, if_neg (by omega)], z.2.2.1, ?_⟩
  rintro T ⟨⟨h0, h1, h2, h3, h4⟩, h5, h6⟩
  have g := z.2.2.2
  refine ⟨⟨?_, ?_, ?_, ?_, ?_⟩, fun w hw => ?_, fun w hw => ?_⟩
  · rw [g, if_neg (by omega)]; exact h0
  · rw [g, if_neg (by omega)]; exact h1
  · rw [g, if_pos rfl]; rfl
  · rw [g, if_neg (by omega)]; exact h3
  · rw [g, if_neg (by omega)]; exact h4
  · rw [g, g, g, g, if_neg (by omega), if_neg (by omega), if_neg (by omega), if_neg (by omega)]; exact h5 w hw
  · rw [g, g, if_neg (by omega), if_neg (by omega)]; exact h6 w hw
theorem tailor_m {x : Nat × Nat} {e : Nat} (h : MSt tb tl e x M) : LR tb tl e 2 (fun M' => MLs tb tl e 2 (xTa tb tl e x) M' ∧ FM M M' ∧ gA M' 100 19 0 = gA M 100 19 0 ∧ gI M' 100 21 = gI M 100 21 ∧ ∀ T, TR1 M T → TR1 M' (setTP T (vN tb tl e 0) (vN tb tl e 1))) M (f_X10_townLine M (lN (wC 12)) (nI (tkF tb tl e))) := by
  obtain ⟨M2, a2, a3, a4⟩ := plain_first h
  obtain ⟨-, -, -, -, -, -, -, -, -, -, -, -, w12, -⟩ := wC_all
  rw [w12]
  unfold f_X10_townLine f_X10_townLine_45 f_X10_townLine_61
  rw [if_neg (by decide +kernel), if_neg (by decide +kernel), if_pos (by decide +kernel), if_neg (by decide +kernel), a2, bn_s, if_neg (by decide +kernel), if_neg (by decide +kernel), if_pos (by decide +kernel)]
  refine take_LR a3 (FT2_FM a4) (by omega) (by omega) (by omega) (by omega) fun M3 b1 b2 b3 b4 b5 => ?_
  refine take_LR b1 (FT2_FM (FT2_tr a4 b2)) (by omega) (by omega) (by omega) (by omega) fun M4 c1 c2 c3 c4 c5 => ?_
  have F : FT2 M M4 := FT2_tr a4 (FT2_tr b2 c2)
  have e19 : gA M4 100 19 = gA M 100 19 := F.2 19 (by omega)
  have s0 : gA M4 100 20 0 = nI (vN tb tl e 0) := by rw [c4 0 (by omega)]; exact b3
  have s1 : gA M4 100 20 1 = nI (vN tb tl e 1) := c3
  rw [gin_n (by omega) (by omega), gin_n (by omega) (by omega), ix_n (by omega), ix_n (by omega), s0, nm_s, gin_n (by omega) (by omega), gin_n (by omega) (by omega), ix_n (by omega), ix_n (by omega), gA_sA, if_neg (by omega), s1, nm_s]
  refine LR_e c1.2.2.2.2 ⟨MLs_A (MLs_A c1 (by omega)) (by omega), FM_tr (FT2_FM F) (FM_tr (FM_sA _ (by omega)) (FM_sA _ (by omega))), by rw [gA_sA, if_neg (by omega), gA_sA, if_neg (by omega), e19], F.1 21 (by omega), fun T hR => ?_⟩
  obtain ⟨⟨h0, h1, h2, h3, h4⟩, h5, h6⟩ := TR1_cg e19 hR
  refine ⟨⟨?_, ?_, ?_, ?_, ?_⟩, fun w hw => ?_, fun w hw => ?_⟩
  · rw [gA_sA, if_neg (by omega), gA_sA, if_neg (by omega)]; exact h0
  · rw [gA_sA, if_neg (by omega), gA_sA, if_neg (by omega)]; exact h1
  · rw [gA_sA, if_neg (by omega), gA_sA, if_neg (by omega)]; exact h2
  · rw [gA_sA, if_neg (by omega), gA_sA, if_pos ⟨rfl, rfl, rfl⟩]; rfl
  · rw [gA_sA, if_pos ⟨rfl, rfl, rfl⟩]; rfl
  · simp only [gA_sA]
    rw [if_neg (by omega), if_neg (by omega), if_neg (by omega), if_neg (by omega), if_neg (by omega), if_neg (by omega), if_neg (by omega), if_neg (by omega)]; exact h5 w hw
  · simp only [gA_sA]
    rw [if_neg (by omega), if_neg (by omega), if_neg (by omega), if_neg (by omega)]; exact h6 w hw
theorem wearer_m {x : Nat × Nat} {e n : Nat} (h : MSt tb tl e x M) (hn : gA M 100 19 0 = nI n) (n9 : n ≤ 6) : LR tb tl e 4 (fun M' => MLs tb tl e 4 (xWe tb tl e n x) M' ∧ FM M M' ∧ gA M' 100 19 0 = nI (min (n + 1) 6) ∧ gI M' 100 21 = gI M 100 21 ∧ ∀ T, tW T = n → n < 6 → TR1 M T → TR1 M' (setTW T (vN tb tl e 0) (vN tb tl e 1) (vN tb tl e 2) (vN tb tl e 3))) M (f_X10_townLine M (lN (wC 13)) (nI (tkF tb tl e))) := by
  obtain ⟨M1, M2, a1, a2, a3, a4⟩ := full_first h hn n9 (by omega)
  obtain ⟨-, -, -, -, -, -, -, -, -, -, -, -, -, w13, -⟩ := wC_all
  rw [w13]
  unfold f_X10_townLine f_X10_townLine_45 f_X10_townLine_61
  rw [if_neg (by decide +kernel), if_neg (by decide +kernel), if_neg (by decide +kernel), if_pos (by decide +kernel), if_pos (by decide +kernel), a1, bn_s, a2, bn_s, if_neg (by decide +kernel), if_neg (by decide +kernel), if_neg (by decide +kernel), if_pos (by decide +kernel)]
  refine LR_b ?_
  unfold f_X10_wearerLine
  refine take_LR a3 (FT2_FM a4) (by omega) (by omega) (by omega) (by omega) fun M3 b1 b2 b3 b4 b5 => ?_
  refine take_LR b1 (FT2_FM (FT2_tr a4 b2)) (by omega) (by omega) (by omega) (by omega) fun M4 c1 c2 c3 c4 c5 => ?_
  refine take_LR c1 (FT2_FM (FT2_tr a4 (FT2_tr b2 c2))) (by omega) (by omega) (by omega) (by omega) fun M5 d1 d2 d3 d4 d5 => ?_
  refine take_LR d1 (FT2_FM (FT2_tr a4 (FT2_tr b2 (FT2_tr c2 d2)))) (by omega) (by omega) (by omega) (by omega) fun M6 f1 f2 f3 f4 f5 => ?_
  have F : FT2 M M6 := FT2_tr a4 (FT2_tr b2 (FT2_tr c2 (FT2_tr d2 f2)))
  have e19 : gA M6 100 19 = gA M 100 19 := F.2 19 (by omega)
  have s0 : gA M6 100 20 0 = nI (vN tb tl e 0) := by rw [f4 0 (by omega), d4 0 (by omega), c4 0 (by omega)]; exact b3
  have s1 : gA M6 100 20 1 = nI (vN tb tl e 1) := by rw [f4 1 (by omega), d4 1 (by omega)]; exact c3
  have s2 : gA M6 100 20 2 = nI (vN tb tl e 2) := by rw [f4 2 (by omega)]; exact d3
  have s3 : gA M6 100 20 3 = nI (vN tb tl e 3) := f3
  rw [gin_n (by omega) (by omega), ix_n (by omega), e19, hn, nm_s, ite_p (le_n (by omega) (by omega))]
  by_cases p : 6 ≤ n
  · rw [if_pos p]
    refine LR_e f1.2.2.2.2 ⟨f1, FT2_FM F, by rw [e19, hn, show min (n + 1) 6 = n by omega], F.1 21 (by omega), fun C _ z => by omega⟩
  · have hi : ∀ k : Nat, k < 4 → ix (nI k) = k := fun k hk => ix_n (by omega)
    rw [if_neg p, gin_n (by omega) (by omega), nI_add, gin_n (by omega) (by omega), ix_n (a := 5 + n) (by omega), s0, nm_s, gin_n (by omega) (by omega), nI_add, gin_n (by omega) (by omega), ix_n (a := 11 + n) (by omega), hi 1 (by omega), gA_sA, if_neg (by omega), s1, nm_s, gin_n (by omega) (by omega), nI_add, gin_n (by omega) (by omega), ix_n (a := 17 + n) (by omega), hi 2 (by omega), gA_sA, if_neg (by omega), gA_sA, if_neg (by omega), s2, nm_s, gin_n (by omega) (by omega), nI_add, gin_n (by omega) (by omega), ix_n (a := 23 + n) (by omega), hi 3 (by omega), gA_sA, if_neg (by omega), gA_sA, if_neg (by omega), gA_sA, if_neg (by omega), s3, nm_s, gin_n (by omega) (by omega), gin_n (by omega) (by omega), gA_sA, if_neg (by omega), gA_sA, if_neg (by omega), gA_sA, if_neg (by omega), gA_sA, if_neg (by omega), e19, hn, nI_add, nm_s]
    refine LR_e f1.2.2.2.2 ⟨MLs_A (MLs_A (MLs_A (MLs_A (MLs_A f1 (by omega)) (by omega)) (by omega)) (by omega)) (by omega), FM_tr (FT2_FM F) (FM_tr (FM_sA _ (by omega)) (FM_tr (FM_sA _ (by omega)) (FM_tr (FM_sA _ (by omega)) (FM_tr (FM_sA _ (by omega)) (FM_sA _ (by omega)))))), ?_, F.1 21 (by omega), ?_⟩
    · rw [gA_sA, if_pos ⟨rfl, rfl, rfl⟩, show min (n + 1) 6 = n + 1 by omega]
    · rintro T hT - hR
      obtain ⟨⟨h0, h1, h2, h3, h4⟩, h5, h6⟩ := TR1_cg e19 hR
      have far : ∀ j, 1 ≤ j → ¬ j = 5 + n → ¬ j = 11 + n → ¬ j = 17 + n → ¬ j = 23 + n → gA (sA (sA (sA (sA (sA M6 100 19 (5 + n) (nI (vN tb tl e 0))) 100 19 (11 + n) (nI (vN tb tl e 1))) 100 19 (17 + n) (nI (vN tb tl e 2))) 100 19 (23 + n) (nI (vN tb tl e 3))) 100 19 0 (nI (n + 1))) 100 19 j = gA M6 100 19 j := by
        intro j j1 j2 j3 j4 j5
        rw [gA_sA, if_neg (by omega), gA_sA, if_neg (by omega), gA_sA, if_neg (by omega), gA_sA, if_neg (by omega), gA_sA, if_neg (by omega)]
      refine ⟨⟨?_, ?_, ?_, ?_, ?_⟩, fun w hw => ?_, fun w hw => ?_⟩
      · rw [gA_sA, if_pos ⟨rfl, rfl, rfl⟩]; show nI (n + 1) = nI (tW T + 1); rw [hT]
      · rw [far 1 (by omega) (by omega) (by omega) (by omega) (by omega)]; exact h1
      · rw [far 2 (by omega) (by omega) (by omega) (by omega) (by omega)]; exact h2
      · rw [far 3 (by omega) (by omega) (by omega) (by omega) (by omega)]; exact h3
      · rw [far 4 (by omega) (by omega) (by omega) (by omega) (by omega)]; exact h4
      · have hw2 : w < tW T + 1 := hw
        show _ = nI (if w = tW T then vN tb tl e 0 else tXs T w) ∧ _ = nI (if w = tW T then vN tb tl e 1 else tYs T w) ∧ _ = nI (if w = tW T then vN tb tl e 2 else tSt T w) ∧ _ = nI (if w = tW T then vN tb tl e 3 else tDu T w)
        by_cases q : w = n
        · have q2 : w = tW T := by omega
          rw [if_pos q2, if_pos q2, if_pos q2, if_pos q2, q]
          refine ⟨?_, ?_, ?_, ?_⟩
          · rw [gA_sA, if_neg (by omega), gA_sA, if_neg (by omega), gA_sA, if_neg (by omega), gA_sA, if_neg (by omega), gA_sA, if_pos ⟨rfl, rfl, rfl⟩]
          · rw [gA_sA, if_neg (by omega), gA_sA, if_neg (by omega), gA_sA, if_neg (by omega), gA_sA, if_pos ⟨rfl, rfl, rfl⟩]
          · rw [gA_sA, if_neg (by omega), gA_sA, if_neg (by omega), gA_sA, if_pos ⟨rfl, rfl, rfl⟩]
          · rw [gA_sA, if_neg (by omega), gA_sA, if_pos ⟨rfl, rfl, rfl⟩]
        · have q2 : ¬ w = tW T := by omega
          rw [if_neg q2, if_neg q2, if_neg q2, if_neg q2, far (5 + w) (by omega) (by omega) (by omega) (by omega) (by omega), far (11 + w) (by omega) (by omega) (by omega) (by omega) (by omega), far (17 + w) (by omega) (by omega) (by omega) (by omega) (by omega), far (23 + w) (by omega) (by omega) (by omega) (by omega) (by omega)]
          exact h5 w (by omega)
      · rw [far (29 + w) (by omega) (by omega) (by omega) (by omega) (by omega), far (35 + w) (by omega) (by omega) (by omega) (by omega) (by omega)]
        exact h6 w hw
theorem away_m {x : Nat × Nat} {e fo : Nat} (h : MSt tb tl e x M) (hf : (xAw tb tl e x).1 = 0 → gI M 100 21 = farI fo ∧ fo ≤ 9) : LR tb tl e 3 (fun M' => MLs tb tl e 3 (xAw tb tl e x) M' ∧ FM M M' ∧ gA M' 100 19 0 = gA M 100 19 0 ∧ ((xAw tb tl e x).1 = 0 → gI M' 100 21 = farI (max fo (vN tb tl e 0 + 1)) ∧ ∀ T, tW T ≤ 6 → TR1 M T → TR1 M' (setTA T (vN tb tl e 0) (vN tb tl e 1) (vN tb tl e 2)))) M (f_X10_townLine M (lN (wC 14)) (nI (tkF tb tl e))) := by
  obtain ⟨M2, a2, a3, a4⟩ := plain_first h
  obtain ⟨-, -, -, -, -, -, -, -, -, -, -, -, -, -, w14, -⟩ := wC_all
  rw [w14]
  unfold f_X10_townLine f_X10_townLine_45 f_X10_townLine_61
  rw [if_neg (by decide +kernel), if_neg (by decide +kernel), if_neg (by decide +kernel), if_neg (by decide +kernel), if_pos (by decide +kernel), if_neg (by decide +kernel), a2, bn_s, if_neg (by decide +kernel), if_neg (by decide +kernel), if_neg (by decide +kernel), if_neg (by decide +kernel)]
  refine LR_b ?_
  unfold f_X10_awayLine
  refine take_LR a3 (FT2_FM a4) (by omega) (by omega) (by omega) (by omega) fun M3 b1 b2 b3 b4 b5 => ?_
  refine take_LR b1 (FT2_FM (FT2_tr a4 b2)) (by omega) (by omega) (by omega) (by omega) fun M4 c1 c2 c3 c4 c5 => ?_
  rw [gin_n (by omega) (by omega), ix_n (a := 1) (by omega), c3]
  refine take_LR c1 (FT2_FM (FT2_tr a4 (FT2_tr b2 c2))) (by omega) (by omega) (by omega) (by omega) fun M5 d1 d2 d3 d4 d5 => ?_
  have F : FT2 M M5 := FT2_tr a4 (FT2_tr b2 (FT2_tr c2 d2))
  have e19 : gA M5 100 19 = gA M 100 19 := F.2 19 (by omega)
  have s0 : gA M5 100 20 0 = nI (vN tb tl e 0) := by rw [d4 0 (by omega), c4 0 (by omega)]; exact b3
  have s1 : gA M5 100 20 1 = nI (vN tb tl e 1) := by rw [d4 1 (by omega)]; exact c3
  have s2 : gA M5 100 20 2 = nI (vN tb tl e 2) := d3
  have v0 : vN tb tl e 0 ≤ 99 := b5
  have d1' : MLs tb tl e 3 (xAw tb tl e x) M5 := d1
  obtain ⟨g, hg⟩ : ∃ g, f_X10_greater (gI M5 100 21) (nI (vN tb tl e 0)) = some g := by
    unfold f_X10_greater
    split
    · exact ⟨_, rfl⟩
    · exact ⟨_, rfl⟩
  have hi : ∀ k : Nat, k < 4 → ix (nI k) = k := fun k hk => ix_n (by omega)
  have hgi : ∀ (j : Nat) (z : Option (Bool × Mem)), j < 4 → gin (nI j) 4 z = z := fun j z hj => gin_n hj (by omega)
  rw [hgi _ _ (by omega), hi 0 (by omega), s0, hg, bn_s, nm_s, show gI (sI M5 100 21 g) 100 22 = gI M5 100 22 by rw [gI_sI, if_neg (by omega)]]
  have hfar : (xAw tb tl e x).1 = 0 → g = farI (max fo (vN tb tl e 0 + 1)) := by
    intro z
    obtain ⟨z1, z2⟩ := hf z
    rw [F.1 21 (by omega), z1, far_n (by omega) (by omega)] at hg
    exact (Option.some.inj hg).symm
  by_cases gd : gI M5 100 22 = nI 0
  · rw [if_pos gd]
    refine LR_e d1'.2.2.2.2 ⟨MLs_I d1', FM_tr (FT2_FM F) (FM_sI _), by rw [gA_sI, e19], fun z => ?_⟩
    exact absurd ((d1'.2.2.2.1 z).symm.trans gd) (by decide)
  · rw [if_neg gd, hgi _ _ (by omega), hgi _ _ (by omega), gA_sI, s0, nI_add, gin_n (by omega) (by omega), ix_n (a := 29 + vN tb tl e 0) (by omega), s1, nm_s, hgi _ _ (by omega), hgi _ _ (by omega), gA_sA, if_neg (by omega), gA_sI, s0, nI_add, gin_n (by omega) (by omega), ix_n (a := 35 + vN tb tl e 0) (by omega), hi 2 (by omega), gA_sA, if_neg (by omega), gA_sI, s2, nm_s]
    refine LR_e d1'.2.2.2.2 ⟨MLs_A (MLs_A (MLs_I d1') (by omega)) (by omega), FM_tr (FT2_FM F) (FM_tr (FM_sI _) (FM_tr (FM_sA _ (by omega)) (FM_sA _ (by omega)))), by rw [gA_sA, if_neg (by omega), gA_sA, if_neg (by omega), gA_sI, e19], fun z => ⟨?_, fun T hT hR => ?_⟩⟩
    · rw [gI_sA, gI_sA, gI_sI, if_pos ⟨rfl, rfl⟩, hfar z]
    · obtain ⟨p1, p2⟩ := ntc_0 (by omega) z
      obtain ⟨p3, p4⟩ := ntc_0 (by omega) p1
      obtain ⟨p5, p6⟩ := ntc_0 (by omega) p3
      obtain ⟨⟨h0, h1, h2, h3, h4⟩, h5, h6⟩ := hR
      have far : ∀ j, ¬ j = 29 + vN tb tl e 0 → ¬ j = 35 + vN tb tl e 0 → gA (sA (sA (sI M5 100 21 g) 100 19 (29 + vN tb tl e 0) (nI (vN tb tl e 1))) 100 19 (35 + vN tb tl e 0) (nI (vN tb tl e 2))) 100 19 j = gA M 100 19 j := by
        intro j j1 j2
        rw [gA_sA, if_neg (by omega), gA_sA, if_neg (by omega), gA_sI, e19]
      refine ⟨⟨?_, ?_, ?_, ?_, ?_⟩, fun w hw => ?_, fun w hw => ?_⟩
      · rw [far 0 (by omega) (by omega)]; exact h0
      · rw [far 1 (by omega) (by omega)]; exact h1
      · rw [far 2 (by omega) (by omega)]; exact h2
      · rw [far 3 (by omega) (by omega)]; exact h3
      · rw [far 4 (by omega) (by omega)]; exact h4
      · have hw2 : w < tW T := hw
        rw [far (5 + w) (by omega) (by omega), far (11 + w) (by omega) (by omega), far (17 + w) (by omega) (by omega), far (23 + w) (by omega) (by omega)]
        exact h5 w hw
      · show _ = (if w = vN tb tl e 0 then nI (vN tb tl e 1) else tFr T w) ∧ _ = if w = vN tb tl e 0 then nI (vN tb tl e 2) else tTo T w
        by_cases q : w = vN tb tl e 0
        · rw [if_pos q, if_pos q, q]
          refine ⟨?_, ?_⟩
          · rw [gA_sA, if_neg (by omega), gA_sA, if_pos ⟨rfl, rfl, rfl⟩]
          · rw [gA_sA, if_pos ⟨rfl, rfl, rfl⟩]
        · rw [if_neg q, if_neg q, far (29 + w) (by omega) (by omega), far (35 + w) (by omega) (by omega)]
          exact h6 w hw
end TownM
