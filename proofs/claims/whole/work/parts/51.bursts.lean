/-! the class's side of the fewest bursts -/
theorem sumGrowth_v {M : Mem} {o : Nat} {C : CoatA} (hR : gR M 17 0 = o) (ho : o < 10 ∨ o = 16) (hX : CX M o C) : ∃ M', f_X3_sumGrowthBehind M = some M' ∧ FK 17 (p1 7) M M' ∧ ∀ d, d < 100 → gA M' 17 7 d = nI (gb C d) := by
  unfold f_X3_sumGrowthBehind f_X3_sumGrowthBehind_5
  refine lpU_inv (fun i a => ∃ M', a = (nI (gSum (cGr C) 100 - gSum (cGr C) (100 - i)), dnI (100 - i), M') ∧ FK 17 (p1 7) M M' ∧ ∀ d, 100 - i ≤ d → d < 100 → gA M' 17 7 d = nI (gb C d)) 100 (fun x => ∃ M', x = some M' ∧ FK 17 (p1 7) M M' ∧ ∀ d, d < 100 → gA M' 17 7 d = nI (gb C d)) (by omega) ?_ ?_ 0 _ (Nat.zero_le _) ⟨M, by rw [Nat.sub_self]; rfl, FK_rf M, fun d h1 h2 => by omega⟩
  · rintro rc a ⟨M', rfl, hf, ht⟩
    show ∃ M'', b_X3_sumGrowthBehind_5 _ _ (dnI (100 - 100)) M' = _ ∧ _
    unfold b_X3_sumGrowthBehind_5
    rw [Nat.sub_self, if_pos dnI_0]
    exact ⟨M', rfl, hf, fun d hd => ht d (by omega) hd⟩
  · rintro rc i a hi ⟨M', rfl, hf, ht⟩
    refine Or.inr ?_
    show ∃ a', _ ∧ b_X3_sumGrowthBehind_5 _ (nI (gSum (cGr C) 100 - gSum (cGr C) (100 - i))) (dnI (100 - i)) M' = _
    unfold b_X3_sumGrowthBehind_5
    obtain ⟨v, hv⟩ : ∃ v, 100 - i = v + 1 := ⟨100 - i - 1, by omega⟩
    have e1 : gR (sA M' 17 7 v (nI (gSum (cGr C) 100 - gSum (cGr C) (v + 1)))) 17 0 = o := by
      rw [gR_sA, hf.2.1]; exact hR
    have e2 : gA (sA M' 17 7 v (nI (gSum (cGr C) 100 - gSum (cGr C) (v + 1)))) o 6 v = nI (cGr C v) := by
      rw [gA_sA, if_neg (by omega), (hf.2.2 o 6 (by omega)).1]
      exact hX.2.2.2.2 v (by omega)
    have e3 := gS_mono (cGr C) (i := v + 1) 100 (by omega)
    have e4 : gSum (cGr C) (v + 1) = gSum (cGr C) v + cGr C v := rfl
    rw [hv, dnI_s, if_neg (n_nneg (by omega)), gin_n (by omega) (by omega), ix_n (by omega), nm_s, gin_n (by omega) (by omega), e1, e2, nI_add, nm_s, dnI_n, nm_s]
    refine ⟨_, ⟨sA M' 17 7 v (nI (gSum (cGr C) 100 - gSum (cGr C) (v + 1))), ?_, FK_tr hf (FK_sA M' (p1_r 7)), fun d h1 h2 => ?_⟩, rfl⟩
    · rw [show 100 - (i + 1) = v by omega, show gSum (cGr C) 100 - gSum (cGr C) (v + 1) + cGr C v = gSum (cGr C) 100 - gSum (cGr C) v by omega]
    · rw [gA_sA]
      by_cases q : d = v
      · rw [if_pos ⟨rfl, rfl, q⟩, q]
        rfl
      · rw [if_neg (fun z => q z.2.2)]
        exact ht d (by omega) h2
theorem burstsFrom_v {M : Mem} {o : Nat} {C : CoatA} {A P : Nat → Nat} (h : SQ M o C A P) (hb : ∀ d, d < 100 → gA M 17 7 d = nI (gb C d)) {S s t : Nat} (hS : S < 2 ^ cN C) (hs : s < cN C) (ht : gA M 17 8 (S ||| 2 ^ s) = nI t) : f_X3_burstsFrom M (nI s) (nI S) = some (nI (t + bw C (S ||| 2 ^ s) s)) := by
  obtain ⟨hR, -, hX, hV, h17, -⟩ := h
  have hn := hV.1
  have w := (pw9 (cN C) (by omega)).2.1
  have h1 := or_lt hS hs
  have h2 := st_pos hV (S := S ||| 2 ^ s) hs (Nat.le_refl _) (by rw [or_tb]; simp)
  have h3 := st_le hV (S ||| 2 ^ s) (Nat.le_refl _)
  have h4 := hV.2.1
  have h5 := dv_lt hV (S ||| 2 ^ s)
  have h6 := gb_le hV ((stS C (S ||| 2 ^ s) (cN C) - 1) / cP C)
  have h7 := (hV.2.2.1 s hs).2.2.1
  unfold f_X3_burstsFrom bw
  rw [or_nI (by omega), nm_s, hR, stitchesOf_v hX hV (by omega), bn_s, hX.2.1, begun_v (by omega) (by omega) (by omega), bn_s, upd_div h2 (by omega), sub_n (Nat.le_add_left 1 _), Nat.add_sub_cancel, nm_s, if_neg (n_nneg (Nat.lt_trans h5 (by omega))), if_neg (nI_ge h5 (by omega)), gin_n h5 (by omega), gin_n (by omega) (by omega), ix_n (by omega), ix_n (Nat.lt_trans h5 (by omega)), (hX.2.2.1 s hs).2.2, hb _ h5, ite_p (lt_n (by omega) (by omega))]
  unfold f_X3_burstsFrom_59 f_X3_burstsFrom_64
  by_cases q : cEs C s < gb C ((stS C (S ||| 2 ^ s) (cN C) - 1) / cP C)
  · rw [if_pos q, if_pos q, gin_n (by omega) (by omega), ix_n (by omega), ht, nI_add, nI_add, if_neg (by decide)]
  · rw [if_neg q, if_neg q]
    show gin (nI (S ||| 2 ^ s)) 512 (some (gA M 17 8 (ix (nI (S ||| 2 ^ s))) + nI 0)) = _
    rw [gin_n (by omega) (by omega), ix_n (by omega), ht, nI_add]
def pB : Nat → Bool := fun k => k == 4 || k == 7 || k == 8
theorem fewestBursts_v {M : Mem} {o : Nat} {C : CoatA} {r : Nat → Nat} (h : SQ M o C (cAf C) (fun _ => 511)) (hO : Od C r) : ∃ M', f_X3_fewestBursts M = some (nI (lsv C 0), M') ∧ FK 17 pB M M' ∧ ∀ i, i < cN C → gA M' 17 4 i = nI (rwL C i) := by
  have hV := hO.1
  have hn := hV.1
  obtain ⟨w1, w2, w3⟩ := pw9 (cN C) (by omega)
  have h17 : gI M 17 1 = nI (cN C) := h.2.2.2.2.1
  obtain ⟨M0, l1, l2, l3⟩ := sumGrowth_v h.1 h.2.1 h.2.2.1
  have hf0 : FK 17 pB M M0 := FK_mo l2 (fun b hb => by have : b = 7 := by simpa [p1] using hb
                                                       rw [this]; rfl)
  unfold f_X3_fewestBursts
  rw [l1, bn_s, hf0.1, h17, w1, nm_s]
  generalize eA : 2 ^ cN C - 1 = all
  have eA2 : 2 ^ cN C = all + 1 := by omega
  unfold f_X3_fewestBursts_15
  refine lpU_inv (fun i a => ∃ M', a = (dnI (all + 1 - i), M') ∧ FK 17 pB M M' ∧ (∀ d, d < 100 → gA M' 17 7 d = nI (gb C d)) ∧ ∀ j, all + 1 - i ≤ j → j ≤ all → gA M' 17 8 j = nI (lsv C j)) (all + 1) (fun x => ∃ M', x = some (nI (lsv C 0), M') ∧ FK 17 pB M M' ∧ ∀ i, i < cN C → gA M' 17 4 i = nI (rwL C i)) (by omega) ?_ ?_ 0 _ (Nat.zero_le _) ⟨M0, by rw [Nat.sub_zero, dnI_s], hf0, l3, fun j h1 h2 => by omega⟩
  · rintro rc a ⟨M1, rfl, hf, hg, ht⟩
    show ∃ M'', b_X3_fewestBursts_15 (nI all) _ (dnI (all + 1 - (all + 1))) M1 = _ ∧ _
    unfold b_X3_fewestBursts_15
    rw [Nat.sub_self, if_pos dnI_0]
    unfold f_X3_fewestBursts_88
    refine lpU_inv (fun i a => ∃ M', a = (nI (gsL C i), nI i, M') ∧ FK 17 pB M M' ∧ (∀ d, d < 100 → gA M' 17 7 d = nI (gb C d)) ∧ (∀ j, j ≤ all → gA M' 17 8 j = nI (lsv C j)) ∧ ∀ j, j < i → gA M' 17 4 j = nI (rwL C j)) (cN C) (fun x => ∃ M', x = some (nI (lsv C 0), M') ∧ FK 17 pB M M' ∧ ∀ i, i < cN C → gA M' 17 4 i = nI (rwL C i)) (by omega) ?_ ?_ 0 _ (Nat.zero_le _) ⟨M1, rfl, hf, hg, fun j hj => ht j (by omega) hj, fun j hj => by omega⟩
    · rintro rc2 a ⟨M2, rfl, hf2, hg2, ht2, hr2⟩
      show ∃ M'', b_X3_fewestBursts_88 _ _ (nI (cN C)) M2 = _ ∧ _
      unfold b_X3_fewestBursts_88
      rw [hf2.1, h17, if_pos (nI_le (Nat.le_refl _) (by omega)), gin_n (by omega) (by omega), ix0, ht2 0 (by omega)]
      exact ⟨M2, rfl, hf2, hr2⟩
    · rintro rc2 i a hi ⟨M2, rfl, hf2, hg2, ht2, hr2⟩
      refine Or.inr ?_
      show ∃ a', _ ∧ b_X3_fewestBursts_88 _ (nI (gsL C i)) (nI i) M2 = _
      unfold b_X3_fewestBursts_88
      have hS2 := SQ_cg h hf2 rfl rfl
      obtain ⟨g1, g2⟩ := gsL_v hO (i := i) (by omega)
      have g3 := g2 (by omega)
      have g4 := g1.1
      have g5 : pkL C (gsL C i) (rwL C i) = true := nx_hit g3
      rw [hf2.1, h17, if_neg (nI_ge hi (by omega))]
      refine ⟨(nI (gsL C (i + 1)), nI (i + 1), sA M2 17 4 i (nI (rwL C i))), ⟨_, rfl, FK_tr hf2 (FK_sA M2 rfl), fun d hd => ?_, fun j hj => ?_, fun j hj => ?_⟩, ?_⟩
      · rw [gA_sA, if_neg (by omega)]; exact hg2 d hd
      · rw [gA_sA, if_neg (by omega)]; exact ht2 j hj
      · rw [gA_sA]
        by_cases q : j = i
        · rw [if_pos ⟨rfl, rfl, q⟩, q]
        · rw [if_neg (fun z => q z.2.2)]
          exact hr2 j (by omega)
      · unfold f_X3_fewestBursts_99
        refine lpU_for (fun s => (nI s, M2)) (rwL C i) _ (by omega) 0 (Nat.zero_le _) ?_ ?_
        · intro rc3
          show b_X3_fewestBursts_99 _ (nI (gsL C i)) (nI i) _ (nI (rwL C i)) M2 = _
          unfold b_X3_fewestBursts_99
          have h1 := or_lt g4 g3
          have g6 := g5
          rw [pkL_t] at g6
          have e0 : mayP (cAf C) (fun _ => 511) (gsL C i) (rwL C i) = true := by rw [mayP_B (n := 9) (by omega)]; exact g6.1
          rw [hf2.1, h17, if_neg (nI_ge g3 (by omega)), mayCome_v hS2 (by omega) g3, bn_s, if_pos e0, burstsFrom_v hS2 hg2 g4 g3 (ht2 _ (by omega)), bn_s, gin_n (by omega) (by omega), ix_n (by omega), ht2 _ (by omega), if_pos (by rw [g6.2]), gin_n (by omega) (by omega), ix_n (by omega), nm_s, or_nI (by omega), nm_s]
          unfold f_X3_fewestBursts_158
          rw [nI_add, nm_s]
          rfl
        · intro rc3 s _ hs
          show b_X3_fewestBursts_99 _ (nI (gsL C i)) (nI i) _ (nI s) M2 = _
          unfold b_X3_fewestBursts_99
          have hsn : s < cN C := by omega
          have h1 := or_lt g4 hsn
          have g6 := nx_min (p := pkL C (gsL C i)) hs
          rw [hf2.1, h17, if_neg (nI_ge hsn (by omega)), mayCome_v hS2 (by omega) hsn, bn_s, mayP_B (n := 9) (by omega)]
          unfold f_X3_fewestBursts_152
          by_cases q : mayB (cAf C) (gsL C i) s = true
          · have b1 := lsv_b hn (S := gsL C i ||| 2 ^ s) (by omega)
            have b2 := bw_le C (gsL C i ||| 2 ^ s) s
            have b3 := lsv_b hn (S := gsL C i) (by omega)
            have g7 : ¬ lsv C (gsL C i ||| 2 ^ s) + bw C (gsL C i ||| 2 ^ s) s = lsv C (gsL C i) := fun e => by
              have : pkL C (gsL C i) s = true := by rw [pkL_t]; exact ⟨q, e⟩
              rw [this] at g6
              exact absurd g6 (by decide)
            rw [if_pos q, burstsFrom_v hS2 hg2 g4 hsn (ht2 _ (by omega)), bn_s, gin_n (by omega) (by omega), ix_n (by omega), ht2 _ (by omega), if_neg (ne_n g7 (by omega) (by omega)), nI_add, nm_s]
          · rw [if_neg q, nI_add, nm_s]
  · rintro rc i a hi ⟨M1, rfl, hf, hg, ht⟩
    refine Or.inr ?_
    show ∃ a', _ ∧ b_X3_fewestBursts_15 (nI all) _ (dnI (all + 1 - i)) M1 = _
    unfold b_X3_fewestBursts_15
    obtain ⟨v, hv⟩ : ∃ v, all + 1 - i = v + 1 := ⟨all + 1 - i - 1, by omega⟩
    have hS1 := SQ_cg h hf rfl rfl
    have e0 : v < 2 ^ cN C := by omega
    have hb0 : ∀ b : Nat, (b = if v = all then 0 else 1000000) → ∃ a', (∃ M', a' = (dnI (all + 1 - (i + 1)), M') ∧ FK 17 pB M M' ∧ (∀ d, d < 100 → gA M' 17 7 d = nI (gb C d)) ∧ ∀ j, all + 1 - (i + 1) ≤ j → j ≤ all → gA M' 17 8 j = nI (lsv C j)) ∧ f_X3_fewestBursts_30 (nI all) (fun x0 x1 => rc (x0, x1)) (nI v) (nI b) M1 = rc a' := by
      intro b hb
      unfold f_X3_fewestBursts_30 f_X3_fewestBursts_34
      refine lpU_inv (fun s a => a = (nI (mnS (mayB (cAf C) v) b (fun s => lsv C (v ||| 2 ^ s) + bw C (v ||| 2 ^ s) s) s), nI s, M1)) (cN C) (fun x => ∃ a', (∃ M', a' = (dnI (all + 1 - (i + 1)), M') ∧ FK 17 pB M M' ∧ (∀ d, d < 100 → gA M' 17 7 d = nI (gb C d)) ∧ ∀ j, all + 1 - (i + 1) ≤ j → j ≤ all → gA M' 17 8 j = nI (lsv C j)) ∧ x = rc a') (by omega) ?_ ?_ 0 _ (Nat.zero_le _) rfl
      · rintro rc2 a rfl
        show ∃ a', _ ∧ b_X3_fewestBursts_34 (nI all) _ (nI v) _ _ (nI (cN C)) M1 = _
        unfold b_X3_fewestBursts_34
        rw [hf.1, h17, if_pos (nI_le (Nat.le_refl _) (by omega)), gin_n (by omega) (by omega), ix_n (by omega), nm_s, dnI_n, nm_s]
        have ev : all + 1 - (i + 1) = v := by omega
        refine ⟨_, ⟨_, by rw [ev], FK_tr hf (FK_sA M1 rfl), fun d hd => ?_, fun j h1 h2 => ?_⟩, rfl⟩
        · rw [gA_sA, if_neg (by omega)]; exact hg d hd
        · rw [gA_sA]
          by_cases q : j = v
          · rw [if_pos ⟨rfl, rfl, q⟩, q, lsv_eq hn (by omega)]
            unfold lsF
            rw [eA, hb]
          · rw [if_neg (fun z => q z.2.2)]
            exact ht j (by omega) h2
      · rintro rc2 s a hs rfl
        refine Or.inr ⟨(nI (mnS (mayB (cAf C) v) b (fun s => lsv C (v ||| 2 ^ s) + bw C (v ||| 2 ^ s) s) (s + 1)), nI (s + 1), M1), rfl, ?_⟩
        show b_X3_fewestBursts_34 (nI all) _ (nI v) _ _ (nI s) M1 = rc2 (nI (if _ then _ else _), nI (s + 1), M1)
        unfold b_X3_fewestBursts_34
        have hb2 := mnS_b (mayB (cAf C) v) b (fun s => lsv C (v ||| 2 ^ s) + bw C (v ||| 2 ^ s) s) s
        have hb3 : b ≤ 1000000 := by rw [hb]; split <;> omega
        rw [hf.1, h17, if_neg (nI_ge hs (by omega)), mayCome_v hS1 (by omega) hs, bn_s, mayP_B (n := 9) (by omega)]
        unfold f_X3_fewestBursts_65
        by_cases q : mayB (cAf C) v s = true
        · have h1 := or_lt e0 hs
          have h2 := or_gt (mayB_n v s q)
          have h3 := lsv_b hn (S := v ||| 2 ^ s) (by omega)
          have h4 := bw_le C (v ||| 2 ^ s) s
          rw [if_pos q, if_pos q, burstsFrom_v hS1 hg e0 hs (ht _ (by omega) (by omega)), bn_s, mn_n (by omega) (by omega), nm_s, nI_add, nm_s]
        · rw [if_neg q, if_neg q, nI_add, nm_s]
    rw [hv, dnI_s, if_neg (n_nneg (by omega))]
    by_cases q : v = all
    · rw [if_pos (by rw [q])]
      exact hb0 0 (by rw [if_pos q])
    · rw [if_neg (ne_n q (by omega) (by omega))]
      exact hb0 1000000 (by rw [if_neg q])
