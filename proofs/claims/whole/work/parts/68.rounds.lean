/-! ROUNDS, HOME -/
theorem le_dn {a b : Nat} (ha : a < 1000) (hb : b < 1000) : (nI a ≤ dnI b) = (a + 1 ≤ b) := by
  by_cases q : b = 0
  · subst q
    exact propext ⟨fun h => absurd h (neg_nle dnI_0 a (by omega)), fun h => by omega⟩
  · obtain ⟨c, rfl⟩ : ∃ c, b = c + 1 := ⟨b - 1, by omega⟩
    rw [dnI_s, le_n (by omega) (by omega)]
    exact propext ⟨fun h => by omega, fun h => by omega⟩
theorem gr_dn2 {a b : Nat} (ha : a < 900) (hb : b < 900) : f_X10_greater (dnI a) (nI b) = some (dnI (max a (b + 1))) := by
  have e := gr_dn (a := a) (b := b + 1) (by omega) (by omega)
  rw [dnI_s] at e
  exact e
def p489 : Nat → Bool := fun k => k == 48 || k == 49
def RQ (T : TownA) (M : Mem) (sm ss : Nat × List Nat) (sl : Nat) : Prop := gI M 100 45 = dnI sm.1 ∧ gI M 100 46 = nI ss.1 ∧ gI M 100 47 = nI sl ∧ (sm.1 ≤ 7 ∧ ss.1 ≤ 1000000 ∧ sl ≤ 1000000) ∧ ∀ j, j < tW T → (¬ sm.1 = 0 → gA M 100 48 j = nI (rowF sm.2 j)) ∧ (ss.1 < 1000000 → gA M 100 49 j = nI (rowF ss.2 j))
theorem RQ_FK {T : TownA} {M M' : Mem} {sm ss : Nat × List Nat} {sl : Nat} {p : Nat → Bool} (h : RQ T M sm ss sl) (f : FK 100 p M M') (h1 : p 48 = false) (h2 : p 49 = false) : RQ T M' sm ss sl := by
  obtain ⟨a, b, c, d, e⟩ := h
  refine ⟨by rw [f.1]; exact a, by rw [f.1]; exact b, by rw [f.1]; exact c, d, fun j hj => ?_⟩
  rw [(f.2.2 100 48 (fun q => by rw [h1] at q; exact absurd q.2 (by decide))).1, (f.2.2 100 49 (fun q => by rw [h2] at q; exact absurd q.2 (by decide))).1]
  exact e j hj
section Ref
variable {M : Mem} {k : Nat} {T : TownA} {x y : Nat}
theorem visit_v (h : RI M k T x y) (hV : TV T) (hx : x < 100) (hy : y < 100) {g : Nat × List Nat} (hg : gOK (tW T) g) (h1 : 1 ≤ tW T) (hr : RW M (tW T) (rowF g.2)) (hd : ∀ j, j < tW T → gA M 100 44 j = nI (dyF T x y (rowF g.2) j)) {sm ss : Nat × List Nat} {sl : Nat} (hq : RQ T M sm ss sl) (k36 : Bool → Mem → Option Mem) : ∃ M', f_X10_findRounds_68 k36 (nI (itS T x y g.2)) (nI (dayS T x y g.2)) FU (nI 0, M) = bp (f_X10_nextRow M') k36 ∧ RI M' k T x y ∧ RW M' (tW T) (rowF g.2) ∧ RQ T M' (gRm T x y sm g.2) (gRs T x y ss g.2) (gRl T x y sl g.2) ∧ FM M M' := by
  have h6 := hV.1.2.2.2.2
  obtain ⟨g1, g2, g3, g4⟩ := hg
  have h40 : gI M 100 40 = nI (tW T) := h.1.2.2.1
  have hit := it_le T x y g.2
  have hrow : ∀ j, j < tW T → rowF g.2 j < tW T := fun j hj => VS_row g3 j (by omega)
  have hday : dayS T x y g.2 ≤ 2400 := by
    have := dyF_b hV hx hy hrow (g.2.length - 1) (by omega)
    unfold dayS
    omega
  have hlat : ltF T x y (rowF g.2) (tW T) ≤ 14400 := by
    have := ltF_b hV hx hy hrow h6 (tW T) (Nat.le_refl _)
    omega
  have elat : latS T x y g.2 = ltF T x y (rowF g.2) (tW T) := by unfold latS; rw [g2]
  obtain ⟨q1, q2, q3, ⟨b1, b2, b3⟩, q5⟩ := hq
  unfold f_X10_findRounds_68
  refine lpU_inv (fun v a => ∃ M', a = (nI v, M') ∧ FK 100 p489 M M' ∧ ∀ j, j < tW T → gA M' 100 48 j = (if sm.1 < itS T x y g.2 + 1 ∧ j < v then nI (rowF g.2 j) else gA M 100 48 j) ∧ gA M' 100 49 j = (if dayS T x y g.2 < ss.1 ∧ j < v then nI (rowF g.2 j) else gA M 100 49 j)) (tW T) (fun z => ∃ M', z = bp (f_X10_nextRow M') k36 ∧ RI M' k T x y ∧ RW M' (tW T) (rowF g.2) ∧ RQ T M' (gRm T x y sm g.2) (gRs T x y ss g.2) (gRl T x y sl g.2) ∧ FM M M') (by omega) ?_ ?_ 0 _ (Nat.zero_le _) ⟨M, rfl, FK_rf M, fun j hj => ⟨by rw [if_neg (by omega)], by rw [if_neg (by omega)]⟩⟩
  · rintro rc a ⟨M1, rfl, hf, ht⟩
    show ∃ M', b_X10_findRounds_68 k36 _ _ _ (nI (tW T)) M1 = _ ∧ _
    unfold b_X10_findRounds_68
    have hI := RI_FK h hf rfl
    have hr1 := RW_cg hr (hf.2.2 100 43 (fun q => absurd q.2 (by decide))).1
    have hd1 : gA M1 100 44 = gA M 100 44 := (hf.2.2 100 44 (fun q => absurd q.2 (by decide))).1
    have hI2 := RI_sI (j := 46) (v := nI (min ss.1 (dayS T x y g.2))) (RI_sI (j := 45) (v := dnI (max sm.1 (itS T x y g.2 + 1))) hI (by omega)) (by omega)
    rw [hf.1, h40, if_pos (nI_le (Nat.le_refl _) (by omega)), hf.1, q1, gr_dn2 (by omega) (by omega), bn_s, nm_s, gI_sI, if_neg (by omega), hf.1, q2, lesser_n (by omega) (by omega), bn_s, nm_s, lateness_v hI2 hV hx hy (RW_cg hr1 rfl) hrow (fun j hj => by rw [gA_sI, gA_sI, hd1]; exact hd j hj), bn_s, gI_sI, if_neg (by omega), gI_sI, if_neg (by omega), hf.1, q3, lesser_n (by omega) (by omega), bn_s, nm_s]
    refine ⟨_, rfl, RI_sI hI2 (by omega), RW_cg hr1 rfl, ⟨?_, ?_, ?_, ?_, fun j hj => ⟨fun hc => ?_, fun hc => ?_⟩⟩, ?_⟩
    · rw [gI_sI, if_neg (by omega), gI_sI, if_neg (by omega), gI_sI, if_pos ⟨rfl, rfl⟩]
      congr 1
      unfold gRm
      by_cases c : sm.1 < itS T x y g.2 + 1
      · rw [if_pos c]
        show max sm.1 (itS T x y g.2 + 1) = itS T x y g.2 + 1
        omega
      · rw [if_neg c]
        omega
    · rw [gI_sI, if_neg (by omega), gI_sI, if_pos ⟨rfl, rfl⟩]
      congr 1
      unfold gRs
      by_cases c : dayS T x y g.2 < ss.1
      · rw [if_pos c]
        show min ss.1 (dayS T x y g.2) = dayS T x y g.2
        omega
      · rw [if_neg c]
        omega
    · rw [gI_sI, if_pos ⟨rfl, rfl⟩]
      unfold gRl
      rw [elat]
    · refine ⟨?_, ?_, ?_⟩
      · unfold gRm
        split
        · show itS T x y g.2 + 1 ≤ 7
          omega
        · exact b1
      · unfold gRs
        split
        · show dayS T x y g.2 ≤ 1000000
          omega
        · exact b2
      · unfold gRl
        omega
    · rw [gA_sI, gA_sI, gA_sI, (ht j hj).1]
      unfold gRm at hc ⊢
      by_cases c : sm.1 < itS T x y g.2 + 1
      · rw [if_pos ⟨c, hj⟩, if_pos c]
      · rw [if_neg c] at hc
        rw [if_neg (fun z => c z.1), if_neg c]
        exact (q5 j hj).1 hc
    · rw [gA_sI, gA_sI, gA_sI, (ht j hj).2]
      unfold gRs at hc ⊢
      by_cases c : dayS T x y g.2 < ss.1
      · rw [if_pos ⟨c, hj⟩, if_pos c]
      · rw [if_neg c] at hc
        rw [if_neg (fun z => c z.1), if_neg c]
        exact (q5 j hj).2 hc
    · refine FM_tr (FM_q hf (fun i hi => ?_)) (FM_tr (FM_sI _) (FM_tr (FM_sI _) (FM_sI _)))
      unfold p489
      simp
      omega
  · rintro rc v a hv ⟨M1, rfl, hf, ht⟩
    refine Or.inr ?_
    show ∃ a', _ ∧ b_X10_findRounds_68 k36 _ _ _ (nI v) M1 = _
    unfold b_X10_findRounds_68 f_X10_findRounds_108 f_X10_findRounds_140
    have hr1 := RW_cg hr (hf.2.2 100 43 (fun q => absurd q.2 (by decide))).1
    obtain ⟨t1, t2⟩ := ht v hv
    rw [if_neg (by omega)] at t1 t2
    have hgv : ∀ z : Option Mem, gin (nI v) 6 z = z := fun z => gin_n (by omega) (by omega)
    have e46 : ∀ (w : Int32) (j : Nat), (gI (sA M1 100 48 j w) 100 46 ≤ nI (dayS T x y g.2)) = (ss.1 ≤ dayS T x y g.2) := fun w j => by
      show (gI M1 100 46 ≤ _) = _
      rw [hf.1, q2]
      exact le_n (by omega) (by omega)
    simp only [hgv, nm_s]
    rw [if_neg (show ¬ gI M1 100 40 ≤ nI v from by rw [hf.1, h40]; exact nI_ge hv (by omega)), ite_p (show (nI (itS T x y g.2) ≤ gI M1 100 45) = (itS T x y g.2 + 1 ≤ sm.1) from by rw [hf.1, q1]; exact le_dn (by omega) (by omega)), ite_p (e46 _ _), ite_p (e46 _ _), ix_n (by omega)]
    have e48 : ∀ (M : Mem) (w : Int32) (j : Nat), gA (sA M 100 48 j w) 100 49 = gA M 100 49 := fun M w j => by funext i; rw [gA_sA, if_neg (by omega)]
    have e43 : ∀ (M : Mem) (w : Int32) (j : Nat), gA (sA M 100 48 j w) 100 43 = gA M 100 43 := fun M w j => by funext i; rw [gA_sA, if_neg (by omega)]
    simp only [e48, e43]
    rw [hr1 v hv, t1, t2, nI_add]
    have fin : ∀ (u1 u2 : Int32), u1 = (if sm.1 < itS T x y g.2 + 1 then nI (rowF g.2 v) else gA M 100 48 v) → u2 = (if dayS T x y g.2 < ss.1 then nI (rowF g.2 v) else gA M 100 49 v) → ∀ j, j < tW T → gA (sA (sA M1 100 48 v u1) 100 49 v u2) 100 48 j = (if sm.1 < itS T x y g.2 + 1 ∧ j < v + 1 then nI (rowF g.2 j) else gA M 100 48 j) ∧ gA (sA (sA M1 100 48 v u1) 100 49 v u2) 100 49 j = (if dayS T x y g.2 < ss.1 ∧ j < v + 1 then nI (rowF g.2 j) else gA M 100 49 j) := by
      intro u1 u2 hu1 hu2 j hj
      obtain ⟨s1, s2⟩ := ht j hj
      constructor
      · rw [gA_sA, if_neg (show ¬ (100 = 100 ∧ 48 = 49 ∧ j = v) by omega), gA_sA, s1]
        by_cases q : j = v
        · rw [if_pos (show 100 = 100 ∧ 48 = 48 ∧ j = v from ⟨rfl, rfl, q⟩), hu1, q]
          by_cases c : sm.1 < itS T x y g.2 + 1
          · rw [if_pos c, if_pos (show sm.1 < itS T x y g.2 + 1 ∧ v < v + 1 from ⟨c, Nat.lt_succ_self _⟩)]
          · rw [if_neg c, if_neg (show ¬ (sm.1 < itS T x y g.2 + 1 ∧ v < v + 1) from fun z => c z.1)]
        · rw [if_neg (show ¬ (100 = 100 ∧ 48 = 48 ∧ j = v) from fun z => q z.2.2)]
          by_cases c : sm.1 < itS T x y g.2 + 1 ∧ j < v
          · rw [if_pos c, if_pos (show sm.1 < itS T x y g.2 + 1 ∧ j < v + 1 from ⟨c.1, by omega⟩)]
          · rw [if_neg c, if_neg (show ¬ (sm.1 < itS T x y g.2 + 1 ∧ j < v + 1) from fun z => c ⟨z.1, by omega⟩)]
      · rw [gA_sA, gA_sA, if_neg (show ¬ (100 = 100 ∧ 49 = 48 ∧ j = v) by omega), s2]
        by_cases q : j = v
        · rw [if_pos (show 100 = 100 ∧ 49 = 49 ∧ j = v from ⟨rfl, rfl, q⟩), hu2, q]
          by_cases c : dayS T x y g.2 < ss.1
          · rw [if_pos c, if_pos (show dayS T x y g.2 < ss.1 ∧ v < v + 1 from ⟨c, Nat.lt_succ_self _⟩)]
          · rw [if_neg c, if_neg (show ¬ (dayS T x y g.2 < ss.1 ∧ v < v + 1) from fun z => c z.1)]
        · rw [if_neg (show ¬ (100 = 100 ∧ 49 = 49 ∧ j = v) from fun z => q z.2.2)]
          by_cases c : dayS T x y g.2 < ss.1 ∧ j < v
          · rw [if_pos c, if_pos (show dayS T x y g.2 < ss.1 ∧ j < v + 1 from ⟨c.1, by omega⟩)]
          · rw [if_neg c, if_neg (show ¬ (dayS T x y g.2 < ss.1 ∧ j < v + 1) from fun z => c ⟨z.1, by omega⟩)]
    have hff : ∀ (u1 u2 : Int32), FK 100 p489 M (sA (sA M1 100 48 v u1) 100 49 v u2) := fun u1 u2 => FK_tr hf (FK_tr (FK_sA _ rfl) (FK_sA _ rfl))
    by_cases c1 : itS T x y g.2 + 1 ≤ sm.1
    · rw [if_pos c1]
      by_cases c2 : ss.1 ≤ dayS T x y g.2
      · rw [if_pos c2]
        exact ⟨_, ⟨_, rfl, hff _ _, fin _ _ (by rw [if_neg (by omega)]) (by rw [if_neg (by omega)])⟩, rfl⟩
      · rw [if_neg c2]
        exact ⟨_, ⟨_, rfl, hff _ _, fin _ _ (by rw [if_neg (by omega)]) (by rw [if_pos (by omega)])⟩, rfl⟩
    · rw [if_neg c1]
      by_cases c2 : ss.1 ≤ dayS T x y g.2
      · rw [if_pos c2]
        exact ⟨_, ⟨_, rfl, hff _ _, fin _ _ (by rw [if_pos (by omega)]) (by rw [if_neg (by omega)])⟩, rfl⟩
      · rw [if_neg c2]
        exact ⟨_, ⟨_, rfl, hff _ _, fin _ _ (by rw [if_pos (by omega)]) (by rw [if_pos (by omega)])⟩, rfl⟩
/-- what findRounds comes to -/
def RTf (T : TownA) (x y k : Nat) (M M' : Mem) : Prop := RI M' k T x y ∧ FM M M' ∧ gI M' 100 45 = nI ((sRm T x y).1 - 1) ∧ gI M' 100 46 = nI (sRs T x y 1000000 []).1 ∧ gI M' 100 47 = nI (sRl T x y) ∧ ((sRm T x y).1 ≤ 7 ∧ (sRs T x y 1000000 []).1 ≤ 1000000 ∧ sRl T x y ≤ 1000000) ∧ ∀ j, j < tW T → (¬ (sRm T x y).1 = 0 → gA M' 100 48 j = nI (rowF (sRm T x y).2 j)) ∧ ((sRs T x y 1000000 []).1 < 1000000 → gA M' 100 49 j = nI (rowF (sRs T x y 1000000 []).2 j))
theorem rounds36_v (h : RI M k T x y) (hV : TV T) (hx : x < 100) (hy : y < 100) (hr : RW M (tW T) (fun j => j)) (hq : RQ T M (0, []) (1000000, []) 1000000) {b : Bool} (hb : b = !(GR (tW T)).isEmpty) : ∃ M', f_X10_findRounds_36 FU (b, M) = some M' ∧ RTf T x y k M M' := by
  have h6 := hV.1.2.2.2.2
  obtain ⟨hck, hln, -⟩ := GR_ck (tW T) (by omega)
  unfold f_X10_findRounds_36
  refine lpU_inv (fun i a => ∃ b M' pre rest pv, a = (b, M') ∧ GR (tW T) = pre ++ rest ∧ pre.length = i ∧ RI M' k T x y ∧ FM M M' ∧ RQ T M' (pre.foldl (fun s g => gRm T x y s g.2) (0, [])) (pre.foldl (fun s g => gRs T x y s g.2) (1000000, [])) (pre.foldl (fun s g => gRl T x y s g.2) 1000000) ∧ ckP (tW T) pv rest = true ∧ b = !rest.isEmpty ∧ ∀ g r', rest = g :: r' → RW M' (tW T) (rowF g.2)) (GR (tW T)).length (fun z => ∃ M', z = some M' ∧ RTf T x y k M M') (by omega) ?_ ?_ 0 _ (Nat.zero_le _) ⟨b, M, [], GR (tW T), none, rfl, rfl, rfl, h, FM_rf M, hq, hck, hb, fun g r' e => ?_⟩
  · rintro rc a ⟨b, M1, pre, rest, pv, rfl, e1, e2, hI, hF, hQ, hc, hb2, hw⟩
    have er : rest = [] := by
      have : rest.length = 0 := by rw [e1, List.length_append] at e2; omega
      exact List.length_eq_zero_iff.mp this
    subst er
    have eb : b = false := hb2
    subst eb
    rw [List.append_nil] at e1
    rw [← e1] at hQ
    show ∃ M', b_X10_findRounds_36 _ false M1 = _ ∧ _
    unfold b_X10_findRounds_36
    obtain ⟨q1, q2, q3, q4, q5⟩ := hQ
    have eg : f_X10_greater (gI M1 100 45) (nI 0) = some (nI ((sRm T x y).1 - 1)) := by
      have hs : (sRm T x y).1 ≤ 7 := q4.1
      have q1' : gI M1 100 45 = dnI (sRm T x y).1 := q1
      rw [q1']
      generalize (sRm T x y).1 = a at hs
      by_cases z : a = 0
      · subst z
        rw [gr_dn2 (by omega) (by omega)]
        rfl
      · obtain ⟨c, rfl⟩ : ∃ c, a = c + 1 := ⟨a - 1, by omega⟩
        rw [dnI_s, greater_n (by omega) (by omega), Nat.max_eq_left (Nat.zero_le _)]
        rfl
    rw [if_neg (by decide), eg, bn_s, nm_s]
    refine ⟨_, rfl, RI_sI hI (by omega), FM_tr hF (FM_sI _), ?_, ?_, ?_, q4, fun j hj => q5 j hj⟩
    · rw [gI_sI, if_pos ⟨rfl, rfl⟩]
    · rw [gI_sI, if_neg (by omega)]; exact q2
    · rw [gI_sI, if_neg (by omega)]; exact q3
  · rintro rc i a hi ⟨b, M1, pre, rest, pv, rfl, e1, e2, hI, hF, hQ, hc, hb2, hw⟩
    refine Or.inr ?_
    cases rest with
    | nil =>
      rw [e1, List.append_nil] at hi
      omega
    | cons g r' =>
      have eb : b = true := hb2
      subst eb
      show ∃ a', _ ∧ b_X10_findRounds_36 _ true M1 = _
      unfold b_X10_findRounds_36
      obtain ⟨hg, hc2, -, -⟩ := ckP_c hc
      have h1 : 1 ≤ tW T := by have := hg.1; omega
      have hrow : ∀ j, j < tW T → rowF g.2 j < tW T := fun j hj => VS_row hg.2.2.1 j (by have := hg.2.1; omega)
      have hw1 := hw g r' rfl
      have h40 : gI M1 100 40 = nI (tW T) := hI.1.2.2.1
      obtain ⟨M2, k1, k2, k3⟩ := walk_v hI hV hx hy h6 hw1 hrow
      have hI2 := RI_FK hI k2 rfl
      have hw2 := RW_cg hw1 (FK_o k2 (by omega))
      have eit : nx (fun k => decide (tDu T (rowF g.2 k) < dyF T x y (rowF g.2) k)) (tW T) = itS T x y g.2 := rfl
      have eday : gA M2 100 44 (tW T - 1) = nI (dayS T x y g.2) := by
        rw [k3 _ (by omega)]
        unfold dayS
        rw [hg.2.1]
      obtain ⟨M3, j1, j2, j3, j4, j5⟩ := visit_v hI2 hV hx hy hg h1 hw2 k3 (RQ_FK hQ k2 rfl rfl) (fun x0 x1 => rc (x0, x1))
      obtain ⟨M4, n1, n2⟩ := nextRow_v j2 hV h1 j3 (fun j hj => by have := hrow j hj; omega)
      have hF4 : FM M M4 := FM_tr hF (FM_tr (FM_p k2 (by omega)) (FM_tr j5 (FM_p n1 (by omega))))
      rw [if_pos rfl, h40, k1, bn_s, inTime_v hI2 hV hx hy hw2 hrow k3, bn_s, k2.1, h40, sub_n h1, gin_n (by omega) (by omega), ix_n (by omega), nm_s, eday, eit, j1]
      have hfold : ∀ {σ : Type} (f : σ → Nat × List Nat → σ) (s : σ), (pre ++ [g]).foldl f s = f (pre.foldl f s) g := fun f s => by rw [List.foldl_append]; rfl
      have e1' : GR (tW T) = (pre ++ [g]) ++ r' := by rw [e1, List.append_assoc]; rfl
      have e2' : (pre ++ [g]).length = i + 1 := by rw [List.length_append, e2]; rfl
      have hQ4 : RQ T M4 ((pre ++ [g]).foldl (fun s g => gRm T x y s g.2) (0, [])) ((pre ++ [g]).foldl (fun s g => gRs T x y s g.2) (1000000, [])) ((pre ++ [g]).foldl (fun s g => gRl T x y s g.2) 1000000) := by
        rw [hfold, hfold, hfold]
        exact RQ_FK j4 n1 rfl rfl
      cases r' with
      | nil =>
        have hK := ckP_n hc2
        rcases n2 with ⟨m1, m2⟩ | ⟨m1, -, -⟩
        · rw [m2, bp_s]
          exact ⟨_, ⟨false, M4, pre ++ [g], [], some g.2, rfl, e1', e2', RI_FK j2 n1 rfl, hF4, hQ4, hc2, rfl, fun g' r'' z => by cases z⟩, rfl⟩
        · omega
      | cons g2 r2 =>
        obtain ⟨-, -, -, hnx⟩ := ckP_c hc2
        obtain ⟨-, m3, m4⟩ := hnx g.2 rfl
        rcases n2 with ⟨m1, -⟩ | ⟨m1, m2, m5⟩
        · omega
        · rw [m2, bp_s]
          refine ⟨_, ⟨true, M4, pre ++ [g], g2 :: r2, some g.2, rfl, e1', e2', RI_FK j2 n1 rfl, hF4, hQ4, hc2, rfl, fun g' r'' z => ?_⟩, rfl⟩
          have eg : g2 = g' := by
            have : g2 :: r2 = g' :: r'' := z
            exact (List.cons.inj this).1
          subst eg
          exact RW_ext m5 m4
  · rw [e] at hck
    obtain ⟨-, -, h3, -⟩ := ckP_c hck
    exact RW_ext hr (fun j hj => ((h3 rfl).2 j hj).symm)
theorem findRounds_v (h : RI M k T x y) (hV : TV T) (hx : x < 100) (hy : y < 100) : ∃ M', f_X10_findRounds M = some M' ∧ RTf T x y k M M' := by
  have h6 := hV.1.2.2.2.2
  obtain ⟨-, -, hne⟩ := GR_ck (tW T) (by omega)
  have hI : RI (sI (sI (sI M 100 45 (-1)) 100 46 (nI 1000000)) 100 47 (nI 1000000)) k T x y := RI_sI (RI_sI (RI_sI h (by omega)) (by omega)) (by omega)
  obtain ⟨M1, e1, e2, e3⟩ := firstRow_v hI hV
  have hI1 := RI_FK hI e2 rfl
  have hQ : RQ T M1 (0, []) (1000000, []) 1000000 := by
    refine ⟨?_, ?_, ?_, ⟨Nat.zero_le _, Nat.le_refl _, Nat.le_refl _⟩, fun j hj => ⟨fun z => absurd rfl z, fun z => absurd z (Nat.lt_irrefl _)⟩⟩
    · rw [e2.1, gI_sI, if_neg (by omega), gI_sI, if_neg (by omega), gI_sI, if_pos ⟨rfl, rfl⟩]
      decide +kernel
    · rw [e2.1, gI_sI, if_neg (by omega), gI_sI, if_pos ⟨rfl, rfl⟩]
    · rw [e2.1, gI_sI, if_pos ⟨rfl, rfl⟩]
  have hF : FM M M1 := FM_tr (FM_sI _) (FM_tr (FM_sI _) (FM_tr (FM_sI _) (FM_p e2 (by omega))))
  have fin : ∀ b, b = !(GR (tW T)).isEmpty → ∃ M', f_X10_findRounds_35 b M1 = some M' ∧ RTf T x y k M M' := by
    intro b hb
    obtain ⟨M', g1, g2, g3, g4⟩ := rounds36_v hI1 hV hx hy e3 hQ hb
    exact ⟨M', g1, g2, FM_tr hF g3, g4⟩
  unfold f_X10_findRounds
  simp only [nm_s]
  rw [e1, bn_s, hI1.1.2.2.1, ite_p (le_n (by omega) (by omega))]
  by_cases c : tW T ≤ 0
  · rw [if_pos c]
    have e0 : tW T = 0 := by omega
    exact fin false (by rw [e0]; rfl)
  · rw [if_neg c]
    refine fin true ?_
    have := hne (by omega)
    cases q : GR (tW T) with
    | nil => rw [q] at this; exact absurd this (Nat.lt_irrefl _)
    | cons a b => rfl
end Ref
theorem mt_RI {M : Mem} {k : Nat} {T : TownA} (hk : k < 2) (h : TM M (41 * k) T) : RI (mt M k T) k T (tX T) (tY T) := ⟨mt_MT hk h, rfl, rfl⟩
theorem rs_one {T : TownA} (hV : TV T) (h1 : 1 ≤ tW T) {x y : Nat} (hx : x < 100) (hy : y < 100) : (sRs T x y 1000000 []).1 < 1000000 ∧ (sRs T x y 1000000 []).2.length = tW T := by
  have h6 := hV.1.2.2.2.2
  obtain ⟨hck, -, hne⟩ := GR_ck (tW T) (by omega)
  have h2 := hne (by omega)
  unfold sRs
  cases q : GR (tW T) with
  | nil => rw [q] at h2; exact absurd h2 (Nat.lt_irrefl _)
  | cons g l =>
    rw [q] at hck
    obtain ⟨⟨g1, g2, g3, g4⟩, h3, -⟩ := ckP_c hck
    have hrow : ∀ j, j < tW T → rowF g.2 j < tW T := fun j hj => VS_row g3 j (by omega)
    have hday : dayS T x y g.2 ≤ 2400 := by
      have := dyF_b hV hx hy hrow (g.2.length - 1) (by omega)
      unfold dayS
      omega
    have e : gRs T x y (1000000, []) g.2 = (dayS T x y g.2, g.2) := if_pos (show dayS T x y g.2 < 1000000 by omega)
    show (l.foldl _ (gRs T x y (1000000, []) g.2)).1 < 1000000 ∧ (l.foldl _ (gRs T x y (1000000, []) g.2)).2.length = tW T
    rw [e]
    obtain ⟨a, b⟩ := rs_ind x y l (some g.2) (dayS T x y g.2, g.2) h3 (fun _ => g2) (by show dayS T x y g.2 ≤ 1000000; omega)
    have b2 : (l.foldl (fun s g => gRs T x y s g.2) (dayS T x y g.2, g.2)).1 ≤ dayS T x y g.2 := b
    exact ⟨by omega, a (by omega)⟩
/-! home -/
def hmS (S : Nat → Nat) : Nat → Nat × Nat
  | 0 => (1000000, 0)
  | c + 1 => if S c < (hmS S c).1 then (S c, c + 1) else hmS S c
theorem hmS_b (S : Nat → Nat) : ∀ c, (hmS S c).1 ≤ 1000000 ∧ (hmS S c).2 ≤ c := by
  intro c
  induction c with
  | zero => exact ⟨Nat.le_refl _, Nat.le_refl _⟩
  | succ c ih =>
    show (if S c < (hmS S c).1 then (S c, c + 1) else hmS S c).1 ≤ 1000000 ∧ (if S c < (hmS S c).1 then (S c, c + 1) else hmS S c).2 ≤ c + 1
    by_cases q : S c < (hmS S c).1
    · rw [if_pos q]
      exact ⟨by show S c ≤ 1000000; omega, Nat.le_refl _⟩
    · rw [if_neg q]
      exact ⟨ih.1, by omega⟩
def soN (T : TownA) (c : Nat) : Nat := (sRs T (c % 10) (c / 10) 1000000 []).1
theorem homeX_v {M : Mem} {o : Nat} {T : TownA} (hV : TV T) (hB : TX M o T) (ho : o < 10) (a : Int32) (u : Bool) : ∃ M', f_X9_home_29 a u o FU (nI 1000000, -1, nI 0, M) = some (if u = true then dnI (hmS (soN T) 100).2 else nI (hmS (soN T) 100).1, M') ∧ FX M M' := by
  have em : (-1 : Int32) = dnI 0 := by decide +kernel
  rw [em]
  unfold f_X9_home_29
  refine lpU_inv (fun c a => ∃ M', a = (nI (hmS (soN T) c).1, dnI (hmS (soN T) c).2, nI c, M') ∧ FX M M') 100 (fun z => ∃ M', z = some (if u = true then dnI (hmS (soN T) 100).2 else nI (hmS (soN T) 100).1, M') ∧ FX M M') (by omega) ?_ ?_ 0 _ (Nat.zero_le _) ⟨M, rfl, FX_rf M⟩
  · rintro rc s ⟨M1, rfl, hf⟩
    show ∃ M', b_X9_home_29 a u o _ _ _ (nI 100) M1 = _ ∧ _
    unfold b_X9_home_29
    rw [if_pos (nI_le (Nat.le_refl _) (by omega))]
    refine ⟨M1, ?_, hf⟩
    cases u with
    | true => rw [if_pos rfl, if_pos rfl]
    | false => rw [if_neg (by decide), if_neg (by decide)]
  · rintro rc c s hc ⟨M1, rfl, hf⟩
    refine Or.inr ?_
    show ∃ a', (∃ M', a' = (nI (if soN T c < (hmS (soN T) c).1 then (soN T c, c + 1) else hmS (soN T) c).1, dnI (if soN T c < (hmS (soN T) c).1 then (soN T c, c + 1) else hmS (soN T) c).2, nI (c + 1), M') ∧ FX M M') ∧ b_X9_home_29 a u o _ _ _ (nI c) M1 = _
    unfold b_X9_home_29 f_X9_home_80
    obtain ⟨b1, b2⟩ := hmS_b (soN T) c
    have hX := TX_cg (hf o (Or.inl ho)) hB
    obtain ⟨M2, g1, g2⟩ := begin_v hV hX ho (c % 10) (c / 10)
    obtain ⟨M3, s, es, g3, g4, -⟩ := soonest_v hV (by omega) (by omega) hX ho g2 (l := (hmS (soN T) c).1) b1
    have e1 : s.1 = min (hmS (soN T) c).1 (soN T c) := by
      rw [es, so_eq hV]
      exact mn_ind (c % 10) (c / 10) _ _ _ [] [] b1
    rw [if_neg (nI_ge hc (by omega)), gnz_n (by omega) (by omega), gnz_n (by omega) (by omega), rem_n (by omega) (by omega) (by omega), div_n (by omega) (by omega) (by omega), g1, bn_s, g3, bp_s, ite_p (le_n (by omega) (by omega)), nI_add, nm_s, nm_s]
    by_cases q : soN T c < (hmS (soN T) c).1
    · rw [if_neg (show ¬ (hmS (soN T) c).1 ≤ s.1 by omega), if_pos q]
      refine ⟨_, ⟨M3, ?_, FX_tr hf g4⟩, rfl⟩
      show (nI s.1, nI c, nI (c + 1), M3) = (nI (soN T c), dnI (c + 1), nI (c + 1), M3)
      rw [dnI_s, show s.1 = soN T c by omega]
    · rw [if_pos (show (hmS (soN T) c).1 ≤ s.1 by omega), if_neg q]
      exact ⟨_, ⟨M3, rfl, FX_tr hf g4⟩, rfl⟩
theorem homeM_v {M : Mem} {k : Nat} {T : TownA} {x y : Nat} (h : RI M k T x y) (hV : TV T) (a : Int32) (u : Bool) : ∃ M', f_X10_home_32 a u FU (-1, nI 1000000, nI 0, M) = some (if u = true then dnI (hmS (soN T) 100).2 else nI (hmS (soN T) 100).1, M') ∧ FM M M' := by
  have em : (-1 : Int32) = dnI 0 := by decide +kernel
  rw [em]
  unfold f_X10_home_32
  refine lpU_inv (fun c a => ∃ M' x y, a = (dnI (hmS (soN T) c).2, nI (hmS (soN T) c).1, nI c, M') ∧ FM M M' ∧ RI M' k T x y) 100 (fun z => ∃ M', z = some (if u = true then dnI (hmS (soN T) 100).2 else nI (hmS (soN T) 100).1, M') ∧ FM M M') (by omega) ?_ ?_ 0 _ (Nat.zero_le _) ⟨M, x, y, rfl, FM_rf M, h⟩
  · rintro rc s ⟨M1, x1, y1, rfl, hf, hI⟩
    show ∃ M', b_X10_home_32 a u _ _ _ (nI 100) M1 = _ ∧ _
    unfold b_X10_home_32
    rw [if_pos (nI_le (Nat.le_refl _) (by omega))]
    refine ⟨M1, ?_, hf⟩
    cases u with
    | true => rw [if_pos rfl, if_pos rfl]
    | false => rw [if_neg (by decide), if_neg (by decide)]
  · rintro rc c s hc ⟨M1, x1, y1, rfl, hf, hI⟩
    refine Or.inr ?_
    show ∃ a', (∃ M' x y, a' = (dnI (if soN T c < (hmS (soN T) c).1 then (soN T c, c + 1) else hmS (soN T) c).2, nI (if soN T c < (hmS (soN T) c).1 then (soN T c, c + 1) else hmS (soN T) c).1, nI (c + 1), M') ∧ FM M M' ∧ RI M' k T x y) ∧ b_X10_home_32 a u _ _ _ (nI c) M1 = _
    unfold b_X10_home_32 f_X10_home_76
    obtain ⟨b1, b2⟩ := hmS_b (soN T) c
    have hI2 : RI (sI (sI M1 100 41 (nI (c % 10))) 100 42 (nI (c / 10))) k T (c % 10) (c / 10) := by
      obtain ⟨⟨m1, m2, m3, m4⟩, -, -⟩ := hI
      refine ⟨⟨m1, ?_, ?_, TM_cg rfl m4⟩, ?_, ?_⟩
      · rw [gI_sI, if_neg (by omega), gI_sI, if_neg (by omega)]; exact m2
      · rw [gI_sI, if_neg (by omega), gI_sI, if_neg (by omega)]; exact m3
      · rw [gI_sI, if_neg (by omega), gI_sI, if_pos ⟨rfl, rfl⟩]
      · rw [gI_sI, if_pos ⟨rfl, rfl⟩]
    obtain ⟨M2, g1, g2, g3, -, g5, -, ⟨-, g8, -⟩, -⟩ := findRounds_v hI2 hV (by omega) (by omega)
    have e46 : gI M2 100 46 = nI (soN T c) := g5
    have b3 : soN T c ≤ 1000000 := g8
    rw [if_neg (nI_ge hc (by omega)), gnz_n (by omega) (by omega), rem_n (by omega) (by omega) (by omega), nm_s, gnz_n (by omega) (by omega), div_n (by omega) (by omega) (by omega), nm_s, g1, bn_s, e46, ite_p (le_n (by omega) (by omega)), lesser_n (by omega) (by omega), bn_s, bn_s, nI_add, nm_s, nm_s]
    have hF : FM M M2 := FM_tr hf (FM_tr (FM_sI _) (FM_tr (FM_sI _) g3))
    by_cases q : soN T c < (hmS (soN T) c).1
    · rw [if_neg (show ¬ (hmS (soN T) c).1 ≤ soN T c by omega), if_pos q]
      refine ⟨_, ⟨M2, _, _, ?_, hF, g2⟩, rfl⟩
      show (nI c, nI (min (hmS (soN T) c).1 (soN T c)), nI (c + 1), M2) = (dnI (c + 1), nI (soN T c), nI (c + 1), M2)
      rw [dnI_s, show min (hmS (soN T) c).1 (soN T c) = soN T c by omega]
    · rw [if_pos (show (hmS (soN T) c).1 ≤ soN T c by omega), if_neg q, show min (hmS (soN T) c).1 (soN T c) = (hmS (soN T) c).1 by omega]
      exact ⟨_, ⟨M2, _, _, rfl, hF, g2⟩, rfl⟩
theorem q_home {Mx Mm : Mem} (H : Rl Mx Mm) (a : Int32) (u : Bool) : EqI Mx Mm (f_X9_home Mx a u) (f_X10_home Mm a u) := by
  have h0 := FM_sI Mm (o := 100) (k := 0) (v := nI 0)
  unfold f_X9_home f_X10_home
  rw [nm_s]
  rcases town_cases H a with ⟨e1, e2⟩ | ⟨k, T, hk, rfl, hV, hX, hM, e1, e2⟩
  · rw [e1, bn_s, opt_none, e2 _ h0]
    exact ⟨_, _, _, rfl, rfl, Rl_fr H (FX_rf Mx) (FM_tr h0 (FM_sI _))⟩
  · have hF := FM_tr h0 (FM_mt (sI Mm 100 0 (nI 0)) k T)
    have hI := mt_RI (M := sI Mm 100 0 (nI 0)) hk (TM_cg rfl hM)
    have h6 := hV.1.2.2.2.2
    rw [e1, bn_s, opt_some, e2 _ h0, bp_s, if_pos rfl, hX.1.2.2.2.2, hI.1.2.2.1, ite_p (eq_n (b := 0) (by omega) (by omega)), ite_p (eq_n (b := 0) (by omega) (by omega))]
    by_cases c : tW T = 0
    · rw [if_pos c, if_pos c]
      exact ⟨_, _, _, rfl, rfl, Rl_fr H (FX_rf Mx) hF⟩
    · obtain ⟨M1, g1, g2⟩ := homeX_v hV hX (by omega) (nI k) u
      obtain ⟨M2, g3, g4⟩ := homeM_v hI hV (nI k) u
      rw [if_neg c, if_neg c, g1, g3]
      exact ⟨_, _, _, rfl, rfl, Rl_fr H g2 (FM_tr hF g4)⟩
