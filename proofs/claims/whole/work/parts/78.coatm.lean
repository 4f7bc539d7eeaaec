/-! TEXTS: the reference's lines of a COAT -/
def CR (M : Mem) (C : CoatA) : Prop := gA M 100 19 0 = nI (cN C) ∧ gA M 100 19 1 = nI (cP C) ∧ (∀ s, s < cN C → gA M 100 19 (2 + s) = nI (cSt C s) ∧ gA M 100 19 (11 + s) = nI (cCo C s) ∧ gA M 100 19 (20 + s) = nI (cEs C s)) ∧ (∀ s, s < 9 → gA M 100 19 (29 + s) = nI (cAf C s)) ∧ ∀ d, d < 100 → gA M 100 19 (38 + d) = nI (cGr C d)
theorem CR_cg {M M' : Mem} {C : CoatA} (h : gA M' 100 19 = gA M 100 19) (H : CR M C) : CR M' C := by
  unfold CR at H ⊢
  rw [h]
  exact H
theorem MLs_A {tb : Nat → Nat} {tl e n k j : Nat} {v : Int32} {x : Nat × Nat} {M : Mem} (h : MLs tb tl e n x M) (hk : 2 ≤ k) : MLs tb tl e n x (sA M 100 k j v) := ⟨MTk_A h.1 hk, h.2.1, h.2.2.1, h.2.2.2.1, h.2.2.2.2⟩
theorem MLs_I {tb : Nat → Nat} {tl e n : Nat} {v : Int32} {x : Nat × Nat} {M : Mem} (h : MLs tb tl e n x M) : MLs tb tl e n x (sI M 100 21 v) := ⟨MTk_I h.1 (by omega), ⟨h.2.1.1, by rw [gI_sI, if_neg (by omega)]; exact h.2.1.2.1, fun z => by rw [gI_sI, if_neg (by omega)]; exact h.2.1.2.2 z⟩, h.2.2.1, fun z => by rw [gI_sI, if_neg (by omega)]; exact h.2.2.2.1 z, h.2.2.2.2⟩
section CoatM
variable {tb : Nat → Nat} {tl : Nat} {M : Mem}
/-- the reference at the beginning of a line -/
def MSt (tb : Nat → Nat) (tl e : Nat) (x : Nat × Nat) (M : Mem) : Prop := MTk tb tl e M ∧ FPm M x ∧ PB x (tkF tb tl e) ∧ gI M 100 22 = nI 1 ∧ tkK tb tl e = 1
theorem MSt_b {e : Nat} {x : Nat × Nat} (h : MSt tb tl e x M) : tkF tb tl e < 10000 ∧ tkF tb tl e < tkF tb tl (ps tb tl e 1) := by
  obtain ⟨⟨h1, h2, -⟩, -, -, -, h5⟩ := h
  have := h1.2.2
  obtain ⟨a, b⟩ := tkF_b (tb := tb) h2
  obtain ⟨c, d, g⟩ := tkT_b (tb := tb) h2
  have g := g (by omega)
  obtain ⟨i, -⟩ := tkF_b (tb := tb) c
  refine ⟨by omega, ?_⟩
  show _ < tkF tb tl (tkT tb tl e)
  omega
theorem first_v {e : Nat} {x : Nat × Nat} (h : MTk tb tl e M) (hx : FPm M x) (hb : PB x (tkF tb tl (ps tb tl e 1))) (hg : gI M 100 22 = nI 1) : ∃ M', f_X10_token M = some M' ∧ MLs tb tl e 0 x M' ∧ FTm M M' := by
  obtain ⟨M', a1, a2, a3⟩ := tok_n h
  exact ⟨M', a1, ⟨a3, ⟨hx.1, by rw [a2.1 100 17 (by omega)]; exact hx.2.1, fun z => by rw [a2.1 100 18 (by omega)]; exact hx.2.2 z⟩, hb, fun _ => by rw [a2.1 100 22 (by omega)]; exact hg, fun j hj => by omega⟩, a2⟩
theorem full_first {e n m : Nat} {x : Nat × Nat} (h : MSt tb tl e x M) (hn : gA M 100 19 0 = nI n) (hnm : n ≤ m) (hm : m < 100) : ∃ M1 M', f_X10_full M (nI 0) (nI m) (nI (tkF tb tl e)) = some M1 ∧ f_X10_token M1 = some M' ∧ MLs tb tl e 0 (ntc (m ≤ n) 3 (tkF tb tl e) x) M' ∧ FT2 M M' := by
  obtain ⟨b1, b2⟩ := MSt_b h
  obtain ⟨h1, h2, h3, h4, h5⟩ := h
  obtain ⟨M1, a1, a2, a3, a4, a5, a6⟩ := full_v (tb := tb) (tl := tl) h2 hn hnm hm h3 b1
  obtain ⟨M2, c1, c2, c3⟩ := first_v (a6 _ h1) a2 (ntc_PB (PB_le h3 (by omega)) b2) (by rw [a4]; exact h4)
  exact ⟨M1, M2, a1, c1, c2, FT2_tr a3 (FT2_T c3)⟩
theorem plain_first {e : Nat} {x : Nat × Nat} (h : MSt tb tl e x M) : ∃ M', f_X10_token M = some M' ∧ MLs tb tl e 0 x M' ∧ FT2 M M' := by
  obtain ⟨b1, b2⟩ := MSt_b h
  obtain ⟨h1, h2, h3, h4, h5⟩ := h
  obtain ⟨M2, c1, c2, c3⟩ := first_v h1 h2 (PB_le h3 (by omega)) h4
  exact ⟨M2, c1, c2, FT2_T c3⟩
theorem seam_m {x : Nat × Nat} {e n : Nat} (h : MSt tb tl e x M) (hn : gA M 100 19 0 = nI n) (n9 : n ≤ 9) : LR tb tl e 3 (fun M' => MLs tb tl e 3 (xSeam tb tl e n x) M' ∧ FM M M' ∧ gA M' 100 19 0 = nI (min (n + 1) 9) ∧ gI M' 100 21 = gI M 100 21 ∧ ∀ C, cN C = n → n < 9 → CR M C → CR M' (setS C (vN tb tl e 0) (vN tb tl e 1) (vN tb tl e 2))) M (f_X10_coatLine M (lN (wC 0)) (nI (tkF tb tl e))) := by
  obtain ⟨M1, M2, a1, a2, a3, a4⟩ := full_first h hn n9 (by omega)
  rw [wC_all.1]
  unfold f_X10_coatLine f_X10_coatLine_37 f_X10_coatLine_53
  rw [if_pos (by decide +kernel), if_pos (by decide +kernel), a1, bn_s, a2, bn_s, if_neg (by decide +kernel), if_neg (by decide +kernel), if_pos (by decide +kernel)]
  refine LR_b ?_
  unfold f_X10_seamLine
  refine take_LR a3 (FT2_FM a4) (by omega) (by omega) (by omega) (by omega) fun M3 b1 b2 b3 b4 b5 => ?_
  refine take_LR b1 (FT2_FM (FT2_tr a4 b2)) (by omega) (by omega) (by omega) (by omega) fun M4 c1 c2 c3 c4 c5 => ?_
  refine take_LR c1 (FT2_FM (FT2_tr a4 (FT2_tr b2 c2))) (by omega) (by omega) (by omega) (by omega) fun M5 d1 d2 d3 d4 d5 => ?_
  have F : FT2 M M5 := FT2_tr a4 (FT2_tr b2 (FT2_tr c2 d2))
  have e19 : gA M5 100 19 = gA M 100 19 := F.2 19 (by omega)
  have s0 : gA M5 100 20 0 = nI (vN tb tl e 0) := by rw [d4 0 (by omega), c4 0 (by omega)]; exact b3
  have s1 : gA M5 100 20 1 = nI (vN tb tl e 1) := by rw [d4 1 (by omega)]; exact c3
  have s2 : gA M5 100 20 2 = nI (vN tb tl e 2) := d3
  rw [gin_n (by omega) (by omega), ix_n (by omega), e19, hn, nm_s, ite_p (le_n (by omega) (by omega))]
  by_cases p : 9 ≤ n
  · rw [if_pos p]
    refine LR_e d1.2.2.2.2 ⟨d1, FT2_FM F, by rw [e19, hn, show min (n + 1) 9 = n by omega], F.1 21 (by omega), fun C _ z => by omega⟩
  · rw [if_neg p, gin_n (by omega) (by omega), nI_add, gin_n (by omega) (by omega), ix_n (by omega), ix_n (by omega), s0, nm_s, gin_n (by omega) (by omega), nI_add, gin_n (by omega) (by omega), ix_n (by omega), ix_n (by omega), gA_sA, if_neg (by omega), s1, nm_s, gin_n (by omega) (by omega), nI_add, gin_n (by omega) (by omega), ix_n (by omega), gA_sA, if_neg (by omega), gA_sA, if_neg (by omega), s2, nm_s, gin_n (by omega) (by omega), gin_n (by omega) (by omega), gA_sA, if_neg (by omega), gA_sA, if_neg (by omega), gA_sA, if_neg (by omega), e19, hn, nI_add, nm_s]
    refine LR_e d1.2.2.2.2 ⟨MLs_A (MLs_A (MLs_A (MLs_A d1 (by omega)) (by omega)) (by omega)) (by omega), FM_tr (FT2_FM F) (FM_tr (FM_sA _ (by omega)) (FM_tr (FM_sA _ (by omega)) (FM_tr (FM_sA _ (by omega)) (FM_sA _ (by omega))))), ?_, F.1 21 (by omega), ?_⟩
    · rw [gA_sA, if_pos ⟨rfl, rfl, rfl⟩, show min (n + 1) 9 = n + 1 by omega]
    · rintro C hC - hR
      obtain ⟨h1, h2, h3, h4, h5⟩ := CR_cg e19 hR
      refine ⟨?_, ?_, fun s hs => ?_, fun s hs => ?_, fun d hd => ?_⟩
      · rw [gA_sA, if_pos ⟨rfl, rfl, rfl⟩]; show nI (n + 1) = nI (cN C + 1); rw [hC]
      · rw [gA_sA, if_neg (by omega), gA_sA, if_neg (by omega), gA_sA, if_neg (by omega), gA_sA, if_neg (by omega)]; exact h2
      · have hs2 : s < cN C + 1 := hs
        show _ = nI (if s = cN C then vN tb tl e 0 else cSt C s) ∧ _ = nI (if s = cN C then vN tb tl e 1 else cCo C s) ∧ _ = nI (if s = cN C then vN tb tl e 2 else cEs C s)
        simp only [gA_sA]
        by_cases q : s = n
        · subst q
          rw [if_pos hC.symm, if_pos hC.symm, if_pos hC.symm]
          refine ⟨?_, ?_, ?_⟩
          · rw [if_neg (by omega), if_neg (by omega), if_neg (by omega), if_pos (by simp)]
          · rw [if_neg (by omega), if_neg (by omega), if_pos (by simp)]
          · rw [if_neg (by omega), if_pos (by simp)]
        · have hs3 := h3 s (by omega)
          rw [if_neg (show ¬ s = cN C by omega), if_neg (show ¬ s = cN C by omega), if_neg (show ¬ s = cN C by omega)]
          refine ⟨?_, ?_, ?_⟩
          · rw [if_neg (by omega), if_neg (by omega), if_neg (by omega), if_neg (by omega)]; exact hs3.1
          · rw [if_neg (by omega), if_neg (by omega), if_neg (by omega), if_neg (by omega)]; exact hs3.2.1
          · rw [if_neg (by omega), if_neg (by omega), if_neg (by omega), if_neg (by omega)]; exact hs3.2.2
      · simp only [gA_sA]
        rw [if_neg (by omega), if_neg (by omega), if_neg (by omega), if_neg (by omega)]; exact h4 s hs
      · simp only [gA_sA]
        rw [if_neg (by omega), if_neg (by omega), if_neg (by omega), if_neg (by omega)]; exact h5 d hd
theorem pace_m {x : Nat × Nat} {e : Nat} (h : MSt tb tl e x M) : LR tb tl e 1 (fun M' => MLs tb tl e 1 (xPace tb tl e x) M' ∧ FM M M' ∧ gA M' 100 19 0 = gA M 100 19 0 ∧ gI M' 100 21 = gI M 100 21 ∧ ∀ C, CR M C → CR M' (setP C (vN tb tl e 0))) M (f_X10_coatLine M (lN (wC 3)) (nI (tkF tb tl e))) := by
  obtain ⟨M2, a2, a3, a4⟩ := plain_first h
  rw [wC_all.2.2.2.1]
  unfold f_X10_coatLine f_X10_coatLine_37 f_X10_coatLine_53
  rw [if_neg (by decide +kernel), if_neg (by decide +kernel), if_neg (by decide +kernel), if_pos (by decide +kernel), if_neg (by decide +kernel), a2, bn_s, if_pos (by decide +kernel)]
  refine LR_b ?_
  unfold f_X10_plainLine
  refine take_LR a3 (FT2_FM a4) (by omega) (by omega) (by omega) (by omega) fun M3 b1 b2 b3 b4 b5 => ?_
  have F : FT2 M M3 := FT2_tr a4 b2
  have e19 : gA M3 100 19 = gA M 100 19 := F.2 19 (by omega)
  rw [gin_n (by omega) (by omega), gin_n (by omega) (by omega), ix_n (by omega), ix_n (by omega), b3, nm_s]
  refine LR_e b1.2.2.2.2 ⟨MLs_A b1 (by omega), FM_tr (FT2_FM F) (FM_sA _ (by omega)), by rw [gA_sA, if_neg (by omega), e19], F.1 21 (by omega), fun C hR => ?_⟩
  obtain ⟨h1, h2, h3, h4, h5⟩ := CR_cg e19 hR
  refine ⟨?_, ?_, fun s hs => ?_, fun s hs => ?_, fun d hd => ?_⟩
  · rw [gA_sA, if_neg (by omega)]; exact h1
  · rw [gA_sA, if_pos ⟨rfl, rfl, rfl⟩]; rfl
  · simp only [gA_sA]
    rw [if_neg (by omega), if_neg (by omega), if_neg (by omega)]; exact h3 s hs
  · rw [gA_sA, if_neg (by omega)]; exact h4 s hs
  · rw [gA_sA, if_neg (by omega)]; exact h5 d hd
theorem grows_m {x : Nat × Nat} {e : Nat} (h : MSt tb tl e x M) : LR tb tl e 2 (fun M' => MLs tb tl e 2 (xGrows tb tl e x) M' ∧ FM M M' ∧ gA M' 100 19 0 = gA M 100 19 0 ∧ gI M' 100 21 = gI M 100 21 ∧ ((xGrows tb tl e x).1 = 0 → ∀ C, cN C ≤ 9 → CR M C → CR M' (setG C (vN tb tl e 0) (vN tb tl e 1)))) M (f_X10_coatLine M (lN (wC 2)) (nI (tkF tb tl e))) := by
  obtain ⟨M2, a2, a3, a4⟩ := plain_first h
  rw [wC_all.2.2.1]
  unfold f_X10_coatLine f_X10_coatLine_37 f_X10_coatLine_53
  rw [if_neg (by decide +kernel), if_neg (by decide +kernel), if_pos (by decide +kernel), if_neg (by decide +kernel), a2, bn_s, if_neg (by decide +kernel), if_pos (by decide +kernel)]
  refine take_LR a3 (FT2_FM a4) (by omega) (by omega) (by omega) (by omega) fun M3 b1 b2 b3 b4 b5 => ?_
  refine take_LR b1 (FT2_FM (FT2_tr a4 b2)) (by omega) (by omega) (by omega) (by omega) fun M4 c1 c2 c3 c4 c5 => ?_
  have F : FT2 M M4 := FT2_tr a4 (FT2_tr b2 c2)
  have e19 : gA M4 100 19 = gA M 100 19 := F.2 19 (by omega)
  have s0 : gA M4 100 20 0 = nI (vN tb tl e 0) := by rw [c4 0 (by omega)]; exact b3
  have s1 : gA M4 100 20 1 = nI (vN tb tl e 1) := c3
  have v0 : vN tb tl e 0 ≤ 99 := b5
  by_cases g : gI M4 100 22 = nI 0
  · rw [if_pos g]
    refine LR_e c1.2.2.2.2 ⟨c1, FT2_FM F, by rw [e19], F.1 21 (by omega), fun z => ?_⟩
    exact absurd ((c1.2.2.2.1 z).symm.trans g) (by decide)
  · rw [if_neg g, gin_n (by omega) (by omega), gin_n (by omega) (by omega), ix_n (by omega), ix_n (by omega), s0, s1, nI_add, gin_n (by omega) (by omega), ix_n (by omega), nm_s]
    refine LR_e c1.2.2.2.2 ⟨MLs_A c1 (by omega), FM_tr (FT2_FM F) (FM_sA _ (by omega)), by rw [gA_sA, if_neg (by omega), e19], F.1 21 (by omega), fun _ C hC hR => ?_⟩
    obtain ⟨h1, h2, h3, h4, h5⟩ := CR_cg e19 hR
    refine ⟨?_, ?_, fun s hs => ?_, fun s hs => ?_, fun d hd => ?_⟩
    · rw [gA_sA, if_neg (by omega)]; exact h1
    · rw [gA_sA, if_neg (by omega)]; exact h2
    · have hs2 : s < cN C := hs
      simp only [gA_sA]
      rw [if_neg (by omega), if_neg (by omega), if_neg (by omega)]; exact h3 s hs
    · rw [gA_sA, if_neg (by omega)]; exact h4 s hs
    · rw [gA_sA]
      show _ = nI (if d = vN tb tl e 0 then vN tb tl e 1 else cGr C d)
      by_cases q : d = vN tb tl e 0
      · rw [if_pos ⟨rfl, rfl, by omega⟩, if_pos q]
      · rw [if_neg (by omega), if_neg q]; exact h5 d hd
/-- the far one, as the reference keeps it: fo less one -/
def farI (fo : Nat) : Int32 := if fo = 0 then -1 else nI (fo - 1)
theorem far_n {fo b : Nat} (hf : fo < 1000) (hb : b < 1000) : f_X10_greater (farI fo) (nI b) = some (farI (max fo (b + 1))) := by
  unfold farI
  by_cases p : fo = 0
  · rw [if_pos p, if_neg (by omega)]
    unfold f_X10_greater
    rw [if_pos (Int32.le_of_lt (neg_lt (by decide) b (by omega))), show max fo (b + 1) - 1 = b by omega]
  · rw [if_neg p, if_neg (by omega), greater_n (by omega) (by omega), show max fo (b + 1) - 1 = max (fo - 1) b by omega]
theorem after_m {x : Nat × Nat} {e fo : Nat} (h : MSt tb tl e x M) (hf : (xAfter tb tl e x).1 = 0 → gI M 100 21 = farI fo ∧ fo ≤ 9) : LR tb tl e 2 (fun M' => MLs tb tl e 2 (xAfter tb tl e x) M' ∧ FM M M' ∧ gA M' 100 19 0 = gA M 100 19 0 ∧ ((xAfter tb tl e x).1 = 0 → gI M' 100 21 = farI (max fo (max (vN tb tl e 0) (vN tb tl e 1) + 1)) ∧ ∀ C, cN C ≤ 9 → CR M C → CR M' (setA C (vN tb tl e 0) (vN tb tl e 1)))) M (f_X10_coatLine M (lN (wC 1)) (nI (tkF tb tl e))) := by
  obtain ⟨M2, a2, a3, a4⟩ := plain_first h
  rw [wC_all.2.1]
  unfold f_X10_coatLine f_X10_coatLine_37 f_X10_coatLine_53
  rw [if_neg (by decide +kernel), if_pos (by decide +kernel), if_neg (by decide +kernel), a2, bn_s, if_neg (by decide +kernel), if_neg (by decide +kernel), if_neg (by decide +kernel)]
  refine LR_b ?_
  unfold f_X10_afterLine
  refine take_LR a3 (FT2_FM a4) (by omega) (by omega) (by omega) (by omega) fun M3 b1 b2 b3 b4 b5 => ?_
  rw [gin_n (by omega) (by omega), ix_n (by omega), b3]
  refine but_LR b1 (FT2_FM (FT2_tr a4 b2)) (by omega) (by omega) (by omega) (by omega) fun M4 c1 c2 c3 c4 c5 => ?_
  have F : FT2 M M4 := FT2_tr a4 (FT2_tr b2 c2)
  have e19 : gA M4 100 19 = gA M 100 19 := F.2 19 (by omega)
  have s0 : gA M4 100 20 0 = nI (vN tb tl e 0) := by rw [c4 0 (by omega)]; exact b3
  have s1 : gA M4 100 20 1 = nI (vN tb tl e 1) := c3
  have v0 : vN tb tl e 0 ≤ 99 := b5
  have v1 : vN tb tl e 1 ≤ 99 := c5
  have c1' : MLs tb tl e 2 (xAfter tb tl e x) M4 := by
    have q := c1
    rw [ntc_cg (d := (vN tb tl e 1 < 0 ∨ 8 < vN tb tl e 1) ∨ vN tb tl e 0 = vN tb tl e 1) (by
      show ((vN tb tl e 1 < 0 ∨ 8 < vN tb tl e 1) ∨ nI (vN tb tl e 1) = nI (vN tb tl e 0)) ↔ _
      rw [eq_n (by omega) (by omega)]
      omega)] at q
    exact q
  obtain ⟨g, hg⟩ : ∃ g, f_X10_greater (gI M4 100 21) (nI (max (vN tb tl e 0) (vN tb tl e 1))) = some g := by
    unfold f_X10_greater
    split
    · exact ⟨_, rfl⟩
    · exact ⟨_, rfl⟩
  rw [gin_n (by omega) (by omega), gin_n (by omega) (by omega), ix_n (by omega), s0, s1, greater_n (by omega) (by omega), bn_s, hg, bn_s, nm_s, show gI (sI M4 100 21 g) 100 22 = gI M4 100 22 by rw [gI_sI, if_neg (by omega)]]
  have hfar : (xAfter tb tl e x).1 = 0 → g = farI (max fo (max (vN tb tl e 0) (vN tb tl e 1) + 1)) := by
    intro z
    obtain ⟨z1, z2⟩ := hf z
    rw [F.1 21 (by omega), z1, far_n (by omega) (by omega)] at hg
    exact (Option.some.inj hg).symm
  by_cases gd : gI M4 100 22 = nI 0
  · rw [if_pos gd]
    refine LR_e c1'.2.2.2.2 ⟨MLs_I c1', FM_tr (FT2_FM F) (FM_sI _), by rw [gA_sI, e19], fun z => ?_⟩
    exact absurd ((c1'.2.2.2.1 z).symm.trans gd) (by decide)
  · rw [if_neg gd, gA_sI, gA_sI, s0, s1, gin_n (by omega) (by omega), nI_add, gin_n (by omega) (by omega), gin_n (by omega) (by omega), gin_n (by omega) (by omega), ix_n (by omega), e19, nm_s]
    refine LR_e c1'.2.2.2.2 ⟨MLs_A (MLs_I c1') (by omega), FM_tr (FT2_FM F) (FM_tr (FM_sI _) (FM_sA _ (by omega))), by rw [gA_sA, if_neg (by omega), gA_sI, e19], fun z => ⟨?_, fun C hC hR => ?_⟩⟩
    · rw [gI_sA, gI_sI, if_pos ⟨rfl, rfl⟩, hfar z]
    · obtain ⟨p1, p2⟩ := ntc_0 (by omega) z
      obtain ⟨p3, p4⟩ := ntc_0 (by omega) p1
      obtain ⟨h1, h2, h3, h4, h5⟩ := hR
      have k4 := h4 (vN tb tl e 0) (by omega)
      refine ⟨?_, ?_, fun s hs => ?_, fun s hs => ?_, fun d hd => ?_⟩
      · rw [gA_sA, if_neg (by omega), gA_sI, e19]; exact h1
      · rw [gA_sA, if_neg (by omega), gA_sI, e19]; exact h2
      · have hs2 : s < cN C := hs
        simp only [gA_sA, gA_sI, e19]
        rw [if_neg (by omega), if_neg (by omega), if_neg (by omega)]; exact h3 s hs
      · simp only [gA_sA, gA_sI, e19]
        show _ = nI (if s = vN tb tl e 0 then cAf C s ||| 2 ^ vN tb tl e 1 else cAf C s)
        by_cases q : s = vN tb tl e 0
        · rw [if_pos (by simp only [true_and]; omega), if_pos q, k4, shl1_n (s := vN tb tl e 1) (by omega), or_n, q]
        · rw [if_neg (by omega), if_neg q]; exact h4 s hs
      · simp only [gA_sA, gA_sI, e19]
        rw [if_neg (by omega)]; exact h5 d hd
end CoatM
