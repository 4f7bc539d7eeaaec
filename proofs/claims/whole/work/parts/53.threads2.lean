/-! the class's side of the fewest changes -/
theorem p1_mo {k : Nat} {q : Nat → Bool} (h : q k = true) : ∀ b, p1 k b = true → q b = true := by
  intro b hb
  have : b = k := by simpa [p1] using hb
  rw [this]
  exact h
def TbX (M : Mem) (C : CoatA) : Prop := ∀ j, 0 < j → j < 2 ^ cN C → ∀ c, c < 4 → gA M 17 9 (j * 4 + c) = nI (chv C j c)
/-- the last colour as the class holds it -/
def lcX (C : CoatA) (i last : Nat) : Int32 := if i = 0 then (-1) else nI (cCo C last)
theorem changesFrom_v {M : Mem} {o : Nat} {C : CoatA} {A P : Nat → Nat} (h : SQ M o C A P) {S s c t : Nat} (hS : S < 2 ^ cN C) (hs : s < cN C) {l : Int32} (hl : (l = -1 ∧ c = 0) ∨ ∃ d, d < 4 ∧ l = nI d ∧ c = chg C d s) (ht : gA M 17 9 ((S ||| 2 ^ s) * 4 + cCo C s) = nI t) : f_X3_changesFrom M (nI s) (nI S) l = some (nI (t + c)) := by
  obtain ⟨hR, -, hX, hV, h17, -⟩ := h
  have hn := hV.1
  have w := (pw9 (cN C) (by omega)).2.1
  have h1 := or_lt hS hs
  have h2 := (hV.2.2.1 s hs).2.1
  have fin : ∀ z : Bool, f_X3_changesFrom_27 M (nI s) (nI S) l (nI (cCo C s)) z = some (b2i z + nI t) := by
    intro z
    unfold f_X3_changesFrom_27
    rw [or_nI (by omega), pk_mul, nI_add, gin_n (by omega) (by omega), ix_n (by omega), ht]
  have b0 : b2i false + nI t = nI (t + 0) := by
    show nI 0 + nI t = _
    rw [nI_add, Nat.add_comm]
  have b1 : b2i true + nI t = nI (t + 1) := by
    show nI 1 + nI t = _
    rw [nI_add, Nat.add_comm]
  unfold f_X3_changesFrom f_X3_changesFrom_22
  rw [gin_n (by omega) (by omega), ix_n (by omega), hR, (hX.2.2.1 s hs).2.1, nm_s]
  rcases hl with ⟨rfl, rfl⟩ | ⟨d, hd, rfl, rfl⟩
  · rw [if_pos rfl, ← b0]
    exact fin false
  · rw [if_neg (m1_ne (by omega)), ite_p (eq_n (by omega) (by omega))]
    unfold chg
    by_cases q : d = cCo C s
    · rw [if_pos q, if_pos q, ← b0]
      exact fin false
    · rw [if_neg q, if_neg q, ← b1]
      exact fin true
def pT : Nat → Bool := fun k => k == 4 || k == 9
theorem layThreaded_v {M : Mem} {o : Nat} {C : CoatA} {r : Nat → Nat} (h : SQ M o C (cAf C) (fun _ => 511)) (hO : Od C r) (hT : TbX M C) : ∃ M', f_X3_layThreaded M (nI (th C)) = some M' ∧ FK 17 pT M M' ∧ ∀ i, i < cN C → gA M' 17 4 i = nI (rwT C i) := by
  have hV := hO.1
  have hn := hV.1
  have w := (pw9 (cN C) (by omega)).2.1
  have h17 : gI M 17 1 = nI (cN C) := h.2.2.2.2.1
  unfold f_X3_layThreaded f_X3_layThreaded_10
  refine lpU_inv (fun i a => ∃ M', a = (nI (tq C i).1, lcX C i (tq C i).2.1, nI (tq C i).2.2, nI i, M') ∧ FK 17 (p1 4) M M' ∧ ∀ j, j < i → gA M' 17 4 j = nI (rwT C j)) (cN C) (fun x => ∃ M', x = some M' ∧ FK 17 pT M M' ∧ ∀ i, i < cN C → gA M' 17 4 i = nI (rwT C i)) (by omega) ?_ ?_ 0 _ (Nat.zero_le _) ⟨M, rfl, FK_rf M, fun j h => by omega⟩
  · rintro rc a ⟨M2, rfl, hf, hr⟩
    show ∃ M'', b_X3_layThreaded_10 _ _ _ _ _ (nI (cN C)) M2 = _ ∧ _
    unfold b_X3_layThreaded_10
    rw [hf.1, h17, if_pos (nI_le (Nat.le_refl _) (by omega))]
    exact ⟨M2, rfl, FK_mo hf (p1_mo rfl), hr⟩
  · rintro rc i a hi ⟨M2, rfl, hf, hr⟩
    refine Or.inr ⟨(nI (tq C (i + 1)).1, lcX C (i + 1) (tq C (i + 1)).2.1, nI (tq C (i + 1)).2.2, nI (i + 1), sA M2 17 4 i (nI (rwT C i))), ⟨_, rfl, FK_tr hf (FK_sA M2 (p1_r 4)), fun j hj => ?_⟩, ?_⟩
    · rw [gA_sA]
      by_cases q : j = i
      · rw [if_pos ⟨rfl, rfl, q⟩, q]
      · rw [if_neg (fun z => q z.2.2)]
        exact hr j (by omega)
    show b_X3_layThreaded_10 _ _ (nI (tq C i).1) (lcX C i (tq C i).2.1) (nI (tq C i).2.2) (nI i) M2 = _
    unfold b_X3_layThreaded_10
    have hS2 := SQ_cg h hf rfl rfl
    obtain ⟨g1, -, g2, g9, g3⟩ := tq_v hO i (by omega)
    have g3 := g3 (by omega)
    have g4 := g1.1
    have g5 : pkT C i (tq C i) (rwT C i) = true := nx_hit g3
    have hT2 : ∀ j, 0 < j → j < 2 ^ cN C → ∀ c, c < 4 → gA M2 17 9 (j * 4 + c) = nI (chv C j c) := fun j a b c d => by rw [(hf.2.2 17 9 (by decide)).1]; exact hT j a b c d
    have hl : ∀ s, (lcX C i (tq C i).2.1 = -1 ∧ chL C i (tq C i).2.1 s = 0) ∨ ∃ d, d < 4 ∧ lcX C i (tq C i).2.1 = nI d ∧ chL C i (tq C i).2.1 s = chg C d s := by
      intro s
      by_cases z : i = 0
      · exact Or.inl ⟨if_pos z, if_pos z⟩
      · have := (hV.2.2.1 _ (g2 (by omega)).1).2.1
        exact Or.inr ⟨cCo C (tq C i).2.1, by omega, if_neg z, if_neg z⟩
    rw [hf.1, h17, if_neg (nI_ge hi (by omega))]
    unfold f_X3_layThreaded_22
    refine lpU_for (fun s => (nI s, M2)) (rwT C i) _ (by omega) 0 (Nat.zero_le _) ?_ ?_
    · intro rc3
      show b_X3_layThreaded_22 _ _ (nI (tq C i).1) _ _ (nI i) _ (nI (rwT C i)) M2 = _
      unfold b_X3_layThreaded_22
      rw [pkT_t] at g5
      have h1 := or_lt g4 g3
      have h2 := or_gt (mayB_n _ _ g5.1)
      have hc := (hV.2.2.1 _ g3).2.1
      have e0 : mayP (cAf C) (fun _ => 511) (tq C i).1 (rwT C i) = true := by rw [mayP_B (n := 9) (by omega)]; exact g5.1
      have e1 : gR (sA M2 17 4 i (nI (rwT C i))) 17 0 = o := by rw [gR_sA]; exact hS2.1
      have e2 : gA (sA M2 17 4 i (nI (rwT C i))) o 3 (rwT C i) = nI (cCo C (rwT C i)) := by
        rw [gA_sA, if_neg (by omega)]
        exact (hS2.2.2.1.2.2.1 _ g3).2.1
      have e3 : gA (sA M2 17 4 i (nI (rwT C i))) 17 9 (((tq C i).1 ||| 2 ^ rwT C i) * 4 + cCo C (rwT C i)) = nI (chv C ((tq C i).1 ||| 2 ^ rwT C i) (cCo C (rwT C i))) := by
        rw [gA_sA, if_neg (by omega)]
        exact hT2 _ (by omega) h1 _ (by omega)
      rw [hf.1, h17, if_neg (nI_ge g3 (by omega)), mayCome_v hS2 (by omega) g3, bn_s, if_pos e0, changesFrom_v hS2 g4 g3 (hl _) (hT2 _ (by omega) h1 _ (by omega)), bn_s, if_pos (by rw [g5.2]), gin_n (by omega) (by omega), ix_n (by omega), nm_s, or_nI (by omega), nm_s, gin_n (by omega) (by omega), ix_n (by omega), e1, e2, nm_s, pk_mul, nI_add, gin_n (by omega) (by omega), ix_n (by omega), e3, nm_s]
      unfold f_X3_layThreaded_102
      rw [nI_add, nm_s]
      rfl
    · intro rc3 s _ hs
      show b_X3_layThreaded_22 _ _ (nI (tq C i).1) _ _ (nI i) _ (nI s) M2 = _
      unfold b_X3_layThreaded_22
      have hsn : s < cN C := by omega
      have h1 := or_lt g4 hsn
      have g6 := nx_min (p := pkT C i (tq C i)) hs
      rw [hf.1, h17, if_neg (nI_ge hsn (by omega)), mayCome_v hS2 (by omega) hsn, bn_s, mayP_B (n := 9) (by omega)]
      unfold f_X3_layThreaded_96
      by_cases q : mayB (cAf C) (tq C i).1 s = true
      · have h2 := or_gt (mayB_n _ _ q)
        have hc := (hV.2.2.1 _ hsn).2.1
        have b1 := chv_b hn (S := (tq C i).1 ||| 2 ^ s) (by omega) (cCo C s)
        have b2 := chL_le C i (tq C i).2.1 s
        have g7 : ¬ chv C ((tq C i).1 ||| 2 ^ s) (cCo C s) + chL C i (tq C i).2.1 s = (tq C i).2.2 := fun e => by
          have : pkT C i (tq C i) s = true := by rw [pkT_t]; exact ⟨q, e⟩
          rw [this] at g6
          exact absurd g6 (by decide)
        rw [if_pos q, changesFrom_v hS2 g4 hsn (hl _) (hT2 _ (by omega) h1 _ (by omega)), bn_s, if_neg (ne_n g7 (by omega) (by omega)), nI_add, nm_s]
      · rw [if_neg q, nI_add, nm_s]
theorem fewestChanges_v {M : Mem} {o : Nat} {C : CoatA} {r : Nat → Nat} (h : SQ M o C (cAf C) (fun _ => 511)) (hO : Od C r) : ∃ M', f_X3_fewestChanges M = some (nI (th C), M') ∧ FK 17 pT M M' ∧ ∀ i, i < cN C → gA M' 17 4 i = nI (rwT C i) := by
  have hV := hO.1
  have hn := hV.1
  obtain ⟨w1, w2, w3⟩ := pw9 (cN C) (by omega)
  have h17 : gI M 17 1 = nI (cN C) := h.2.2.2.2.1
  have hmo : ∀ {M'}, FK 17 (p1 9) M M' → FK 17 pT M M' := fun hf => FK_mo hf (p1_mo rfl)
  unfold f_X3_fewestChanges
  rw [h17, w1, nm_s]
  generalize eA : 2 ^ cN C - 1 = all
  have eA2 : 2 ^ cN C = all + 1 := by omega
  unfold f_X3_fewestChanges_11
  refine lpU_inv (fun i a => ∃ M', a = (nI (all - i), M') ∧ FK 17 (p1 9) M M' ∧ ∀ j, all - i < j → j ≤ all → ∀ c, c < 4 → gA M' 17 9 (j * 4 + c) = nI (chv C j c)) all (fun x => ∃ M', x = some (nI (th C), M') ∧ FK 17 pT M M' ∧ ∀ i, i < cN C → gA M' 17 4 i = nI (rwT C i)) (by omega) ?_ ?_ 0 _ (Nat.zero_le _) ⟨M, rfl, FK_rf M, fun j h1 h2 => by omega⟩
  · rintro rc a ⟨M1, rfl, hf, ht⟩
    show ∃ M'', b_X3_fewestChanges_11 (nI all) _ (nI (all - all)) M1 = _ ∧ _
    unfold b_X3_fewestChanges_11
    have hS1 := SQ_cg h hf rfl rfl
    have hT1 : TbX M1 C := fun j h1 h2 => ht j (by omega) (by omega)
    obtain ⟨M2, l1, l2, l3⟩ := layThreaded_v hS1 hO hT1
    have key : ∀ b : Nat, (b = if cN C = 0 then 0 else 1000000) → f_X3_fewestChanges_115 (nI b) M1 = some (nI (th C), M2) := by
      intro b hb
      unfold f_X3_fewestChanges_115 f_X3_fewestChanges_118
      refine lpU_for (fun s => (nI (mnS (mayB (cAf C) 0) b (fun s => chv C (2 ^ s) (cCo C s)) s), nI s, M1)) (cN C) _ (by omega) 0 (Nat.zero_le _) ?_ ?_
      · intro rc2
        show b_X3_fewestChanges_118 _ _ (nI (cN C)) M1 = _
        unfold b_X3_fewestChanges_118
        have e : mnS (mayB (cAf C) 0) b (fun s => chv C (2 ^ s) (cCo C s)) (cN C) = th C := by
          unfold th
          rw [hb]
        rw [hf.1, h17, if_pos (nI_le (Nat.le_refl _) (by omega)), e, l1, bn_s]
      · intro rc2 s _ hs
        show b_X3_fewestChanges_118 _ _ (nI s) M1 = rc2 (nI (if _ then _ else _), nI (s + 1), M1)
        unfold b_X3_fewestChanges_118
        have hb2 := mnS_b (mayB (cAf C) 0) b (fun s => chv C (2 ^ s) (cCo C s)) s
        have hb3 : b ≤ 1000000 := by rw [hb]; split <;> omega
        obtain ⟨h1, h2⟩ := pow9_lt hn hs
        have h3 := chv_b hn (S := 2 ^ s) (by omega) (cCo C s)
        have hc := (hV.2.2.1 _ hs).2.1
        rw [hf.1, h17, if_neg (nI_ge hs (by omega)), mayCome_v hS1 (by omega) hs, bn_s, mayP_B (n := 9) (by omega)]
        unfold f_X3_fewestChanges_147
        by_cases q : mayB (cAf C) 0 s = true
        · rw [if_pos q, if_pos q, changesFrom_v hS1 (by omega) hs (Or.inl ⟨rfl, rfl⟩) (hT1 (0 ||| 2 ^ s) (by rw [Nat.zero_or]; exact h2) (by rw [Nat.zero_or]; exact h1) _ (by omega)), bn_s, Nat.zero_or, Nat.add_zero, mn_n (by omega) (by omega), nm_s, nI_add, nm_s]
        · rw [if_neg q, if_neg q, nI_add, nm_s]
    rw [Nat.sub_self, if_pos (nI_le (Nat.le_refl _) (by omega)), hf.1, h17]
    refine ⟨M2, ?_, FK_tr (hmo hf) l2, l3⟩
    by_cases q : cN C = 0
    · rw [if_pos (by rw [q])]
      exact key 0 (by rw [if_pos q])
    · rw [if_neg (ne_n q (by omega) (by omega))]
      exact key 1000000 (by rw [if_neg q])
  · rintro rc i a hi ⟨M', rfl, hf, ht⟩
    refine Or.inr ?_
    show ∃ a', _ ∧ b_X3_fewestChanges_11 (nI all) _ (nI (all - i)) M' = _
    unfold b_X3_fewestChanges_11
    obtain ⟨v, hv⟩ : ∃ v, all - i = v + 1 := ⟨all - i - 1, by omega⟩
    rw [hv] at ht ⊢
    rw [if_neg (nI_ge (by omega) (by omega))]
    unfold f_X3_fewestChanges_17
    have e0 : v + 1 < 2 ^ cN C := by omega
    refine lpU_inv (fun c a => ∃ M2, a = (nI c, M2) ∧ FK 17 (p1 9) M M2 ∧ (∀ j, v + 1 < j → j ≤ all → ∀ c, c < 4 → gA M2 17 9 (j * 4 + c) = nI (chv C j c)) ∧ ∀ t, t < c → gA M2 17 9 ((v + 1) * 4 + t) = nI (chv C (v + 1) t)) 4 (fun x => ∃ a', (∃ M', a' = (nI (all - (i + 1)), M') ∧ FK 17 (p1 9) M M' ∧ ∀ j, all - (i + 1) < j → j ≤ all → ∀ c, c < 4 → gA M' 17 9 (j * 4 + c) = nI (chv C j c)) ∧ x = rc a') (by omega) ?_ ?_ 0 _ (Nat.zero_le _) ⟨M', rfl, hf, ht, fun t h => by omega⟩
    · rintro rc2 a ⟨M2, rfl, hf2, ht2, hc2⟩
      show ∃ a', _ ∧ b_X3_fewestChanges_17 (nI all) _ (nI (v + 1)) _ (nI 4) M2 = _
      unfold b_X3_fewestChanges_17
      rw [if_pos (nI_le (Nat.le_refl _) (by omega)), dnI_n, dnI_s, nm_s]
      refine ⟨_, ⟨M2, by rw [show all - (i + 1) = v by omega], hf2, fun j h1 h2 c hc => ?_⟩, rfl⟩
      by_cases q : j = v + 1
      · rw [q]; exact hc2 c hc
      · exact ht2 j (by omega) h2 c hc
    · rintro rc2 c a hc ⟨M2, rfl, hf2, ht2, hc2⟩
      refine Or.inr ?_
      show ∃ a', _ ∧ b_X3_fewestChanges_17 (nI all) _ (nI (v + 1)) _ (nI c) M2 = _
      unfold b_X3_fewestChanges_17
      have hS2 := SQ_cg h hf2 rfl rfl
      have hb0 : ∀ b : Nat, (b = if v + 1 = all then 0 else 1000000) → ∃ a', (∃ M3, a' = (nI (c + 1), M3) ∧ FK 17 (p1 9) M M3 ∧ (∀ j, v + 1 < j → j ≤ all → ∀ c, c < 4 → gA M3 17 9 (j * 4 + c) = nI (chv C j c)) ∧ ∀ t, t < c + 1 → gA M3 17 9 ((v + 1) * 4 + t) = nI (chv C (v + 1) t)) ∧ f_X3_fewestChanges_33 (nI all) (nI (v + 1)) (fun x0 x1 => rc2 (x0, x1)) (nI c) (nI b) M2 = rc2 a' := by
        intro b hb
        unfold f_X3_fewestChanges_33 f_X3_fewestChanges_38
        refine lpU_inv (fun s a => a = (nI (mnS (mayB (cAf C) (v + 1)) b (fun s => chv C ((v + 1) ||| 2 ^ s) (cCo C s) + chg C c s) s), nI s, M2)) (cN C) (fun x => ∃ a', (∃ M3, a' = (nI (c + 1), M3) ∧ FK 17 (p1 9) M M3 ∧ (∀ j, v + 1 < j → j ≤ all → ∀ c, c < 4 → gA M3 17 9 (j * 4 + c) = nI (chv C j c)) ∧ ∀ t, t < c + 1 → gA M3 17 9 ((v + 1) * 4 + t) = nI (chv C (v + 1) t)) ∧ x = rc2 a') (by omega) ?_ ?_ 0 _ (Nat.zero_le _) rfl
        · rintro rc3 a rfl
          show ∃ a', _ ∧ b_X3_fewestChanges_38 (nI all) (nI (v + 1)) _ (nI c) _ _ (nI (cN C)) M2 = _
          unfold b_X3_fewestChanges_38
          rw [hf2.1, h17, if_pos (nI_le (Nat.le_refl _) (by omega)), pk_mul, nI_add, gin_n (by omega) (by omega), ix_n (by omega), nm_s, nI_add, nm_s]
          refine ⟨_, ⟨_, rfl, FK_tr hf2 (FK_sA M2 (p1_r 9)), fun j h1 h2 c' hc' => ?_, fun t h1 => ?_⟩, rfl⟩
          · rw [gA_sA, if_neg (by omega)]
            exact ht2 j h1 h2 c' hc'
          · rw [gA_sA]
            by_cases q : t = c
            · rw [if_pos ⟨rfl, rfl, by rw [q]⟩, q, chv_eq hn (by omega)]
              unfold chF
              rw [eA, hb]
            · rw [if_neg (by omega)]
              exact hc2 t (by omega)
        · rintro rc3 s a hs rfl
          refine Or.inr ⟨(nI (mnS (mayB (cAf C) (v + 1)) b (fun s => chv C ((v + 1) ||| 2 ^ s) (cCo C s) + chg C c s) (s + 1)), nI (s + 1), M2), rfl, ?_⟩
          show b_X3_fewestChanges_38 (nI all) (nI (v + 1)) _ (nI c) _ _ (nI s) M2 = rc3 (nI (if _ then _ else _), nI (s + 1), M2)
          unfold b_X3_fewestChanges_38
          have hb2 := mnS_b (mayB (cAf C) (v + 1)) b (fun s => chv C ((v + 1) ||| 2 ^ s) (cCo C s) + chg C c s) s
          have hb3 : b ≤ 1000000 := by rw [hb]; split <;> omega
          rw [hf2.1, h17, if_neg (nI_ge hs (by omega)), mayCome_v hS2 (by omega) hs, bn_s, mayP_B (n := 9) (by omega)]
          unfold f_X3_fewestChanges_72
          by_cases q : mayB (cAf C) (v + 1) s = true
          · have h1 := or_lt e0 hs
            have h2 := or_gt (mayB_n (v + 1) s q)
            have h3 := chv_b hn (S := (v + 1) ||| 2 ^ s) (by omega) (cCo C s)
            have h4 := chg_le C c s
            have h5 := (hV.2.2.1 _ hs).2.1
            rw [if_pos q, if_pos q, changesFrom_v hS2 e0 hs (Or.inr ⟨c, hc, rfl, rfl⟩) (ht2 _ h2 (by omega) _ (by omega)), bn_s, mn_n (by omega) (by omega), nm_s, nI_add, nm_s]
          · rw [if_neg q, if_neg q, nI_add, nm_s]
      rw [if_neg (nI_ge hc (by omega))]
      by_cases q : v + 1 = all
      · rw [if_pos (by rw [q])]
        exact hb0 0 (by rw [if_pos q])
      · rw [if_neg (ne_n q (by omega) (by omega))]
        exact hb0 1000000 (by rw [if_neg q])
