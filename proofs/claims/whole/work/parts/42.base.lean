/-! the told things by their numbers, on both sides -/
theorem ix0 : ix (nI 0) = 0 := ix_n (by omega)
theorem gin0 {β : Type} {n : Nat} {x : Option β} (h : 0 < n) (hn : n < 2147483648) : gin (nI 0) n x = x := gin_n h hn
theorem idx_cases (a : Int32) (n : Nat) : (∃ k, k < n ∧ k < 2147483648 ∧ a = nI k) ∨ (a < 0 ∨ ∃ j, n ≤ j ∧ j < 2147483648 ∧ a = nI j) := by
  rcases int_cases a with h | ⟨j, h1, h2⟩
  · exact Or.inr (Or.inl h)
  · by_cases h : j < n
    · exact Or.inl ⟨j, h, h1, h2⟩
    · exact Or.inr (Or.inr ⟨j, by omega, h1, h2⟩)
theorem lt0_n {a : Int32} : (a < nI 0) = (a < 0) := rfl
theorem in_n {a l h : Nat} (ha : a < 2147483648) (hl : l < 2147483648) (hh : h < 2147483648) : f_X10_in (nI a) (nI l) (nI h) = some (decide (l ≤ a ∧ a ≤ h)) := by
  unfold f_X10_in
  simp (disch := omega) only [lt_n]
  by_cases h1 : a < l
  · rw [if_pos h1]; simp; omega
  · rw [if_neg h1]
    by_cases h2 : h < a
    · rw [if_pos h2]; simp; omega
    · rw [if_neg h2]; simp; omega
theorem in_neg {a : Int32} (ha : a < 0) (l : Nat) (hl : l < 2147483648) (h : Int32) : f_X10_in a (nI l) h = some false := by
  unfold f_X10_in
  rw [if_pos (neg_lt ha l hl)]
theorem nm1 : nI 0 - nI 1 = -1 := by decide +kernel
theorem in_upto {a n : Nat} (ha : a < 2147483648) (hn : n < 2147483648) : f_X10_in (nI a) (nI 0) (nI n - nI 1) = some (decide (a < n)) := by
  by_cases h : n = 0
  · subst h
    rw [nm1]
    unfold f_X10_in
    rw [if_neg (n_nneg ha), if_pos (show (-1 : Int32) < nI a from ?_)]
    · simp
    · rw [Int32.lt_iff_toInt_lt, nI_toInt ha]
      have : (-1 : Int32).toInt = -1 := rfl
      omega
  · rw [sub_n (by omega), in_n ha (by omega) (by omega)]
    congr 1
    simp
    omega
/-- is(sort, k) of the reference -/
theorem is_v {M : Mem} {s n : Nat} (hs : s < 4) (hn : n ≤ 2) (h : gA M 100 5 s = nI n) {k : Nat} (hk : k < 2147483648) : f_X10_is M (nI s) (nI k) = some (decide (k < n)) := by
  unfold f_X10_is
  rw [gin_n (by omega) (by omega), ix_n (by omega), h, in_upto hk (by omega)]
  rfl
theorem is_neg {M : Mem} {s : Nat} (hs : s < 4) {a : Int32} (ha : a < 0) : f_X10_is M (nI s) a = some false := by
  unfold f_X10_is
  rw [gin_n (by omega) (by omega), in_neg ha 0 (by omega)]
  rfl
theorem is_out {M : Mem} {s n : Nat} (hs : s < 4) (hn : n ≤ 2) (h : gA M 100 5 s = nI n) {a : Int32} (ha : a < 0 ∨ ∃ j, n ≤ j ∧ j < 2147483648 ∧ a = nI j) : f_X10_is M (nI s) a = some false := by
  rcases ha with ha | ⟨j, h1, h2, rfl⟩
  · exact is_neg hs ha
  · rw [is_v hs hn h h2]
    congr 1
    simp
    omega
theorem is_in {M : Mem} {s n : Nat} (hs : s < 4) (hn : n ≤ 2) (h : gA M 100 5 s = nI n) {k : Nat} (hk : k < n) : f_X10_is M (nI s) (nI k) = some true := by
  rw [is_v hs hn h (by omega)]
  congr 1
  simp
  omega
/-- has(sort, k) of the class -/
theorem has_in {M : Mem} {t s n : Nat} (hs : s < 4) (hn : n ≤ 2) (h : gA M t 4 s = nI n) {k : Nat} (hk : k < n) : f_X5_has M t (nI s) (nI k) = some true := by
  unfold f_X5_has
  rw [if_neg (n_nneg (by omega)), if_neg (nI_ge (by omega) (by omega)), if_neg (n_nneg (by omega)), gin_n (by omega) (by omega), ix_n (by omega), h, if_neg (nI_ge (by omega) (by omega)), if_neg (nI_ge (by omega) (by omega))]
theorem has_out {M : Mem} {t s n : Nat} (hs : s < 4) (hn : n ≤ 2) (h : gA M t 4 s = nI n) {a : Int32} (ha : a < 0 ∨ ∃ j, n ≤ j ∧ j < 2147483648 ∧ a = nI j) : f_X5_has M t (nI s) a = some false := by
  unfold f_X5_has
  rw [if_neg (n_nneg (by omega)), if_neg (nI_ge (by omega) (by omega))]
  rcases ha with ha | ⟨j, h1, h2, rfl⟩
  · rw [if_pos (show a < nI 0 from ha)]
  · rw [if_neg (n_nneg h2), gin_n (by omega) (by omega), ix_n (by omega), h, if_pos (nI_le h1 (by omega))]
/-! coats -/
/-- the reference's hand on coat k -/
def mh (M : Mem) (k : Nat) (C : CoatA) : Mem := sI (sI (sI M 100 23 (nI k)) 100 24 (nI (cN C))) 100 25 (nI (cP C))
def MH (M : Mem) (k : Nat) (C : CoatA) : Prop := k < 2 ∧ gI M 100 23 = nI k ∧ gI M 100 24 = nI (cN C) ∧ gI M 100 25 = nI (cP C) ∧ CM M (138 * k) C
theorem of_v {M : Mem} {k j : Nat} (h : gI M 100 23 = nI k) (hk : k < 2) (hj : j < 276) : f_X10_of M (nI j) = some (gA M 100 6 (138 * k + j)) := by
  unfold f_X10_of
  rw [h, pk_mul, nI_add, gin_n (by omega) (by omega), ix_n (by omega)]
theorem mh_MH {M : Mem} {k : Nat} {C : CoatA} (hk : k < 2) (h : CM M (138 * k) C) : MH (mh M k C) k C := ⟨hk, rfl, rfl, rfl, CM_cg rfl h⟩
theorem hand_v {M : Mem} {k n : Nat} {C : CoatA} (hn : n ≤ 2) (h5 : gA M 100 5 0 = nI n) (hk : k < n) (h : CM M (138 * k) C) : f_X10_hand M (nI k) = some (true, mh M k C) := by
  unfold f_X10_hand
  rw [is_in (s := 0) (by omega) hn h5 hk]
  have e0 : f_X10_of (sI M 100 23 (nI k)) (nI 0) = some (nI (cN C)) := by
    rw [of_v (k := k) rfl (by omega) (by omega), gA_sI, ← h.1]; rfl
  have e1 : f_X10_of (sI (sI M 100 23 (nI k)) 100 24 (nI (cN C))) (nI 1) = some (nI (cP C)) := by
    rw [of_v (k := k) rfl (by omega) (by omega), gA_sI, gA_sI, ← h.2.1]
  simp only [bn_s, if_true, nm_s, e0, e1]
  rfl
theorem hand_n {M : Mem} {n : Nat} (hn : n ≤ 2) (h5 : gA M 100 5 0 = nI n) {a : Int32} (ha : a < 0 ∨ ∃ j, n ≤ j ∧ j < 2147483648 ∧ a = nI j) : f_X10_hand M a = some (false, M) := by
  unfold f_X10_hand
  rw [is_out (s := 0) (by omega) hn h5 ha]
  rfl
theorem coatAt_v {M : Mem} {k n : Nat} (hn : n ≤ 2) (h : gA M 1 4 0 = nI n) (hk : k < n) : f_X9_coatAt M (nI k) = some (some (2 + k)) := by
  unfold f_X9_coatAt
  rw [has_in (s := 0) (by omega) hn h hk, bn_s, if_pos rfl, gin_n (by omega) (by omega), ix_n (by omega)]
theorem coatAt_n {M : Mem} {n : Nat} (hn : n ≤ 2) (h : gA M 1 4 0 = nI n) {a : Int32} (ha : a < 0 ∨ ∃ j, n ≤ j ∧ j < 2147483648 ∧ a = nI j) : f_X9_coatAt M a = some none := by
  unfold f_X9_coatAt
  rw [has_out (s := 0) (by omega) hn h ha]
  rfl
theorem coat_cases {Mx Mm : Mem} (H : Rl Mx Mm) (a : Int32) : (f_X9_coatAt Mx a = some none ∧ ∀ M', FM Mm M' → f_X10_hand M' a = some (false, M')) ∨ ∃ k C, k < 2 ∧ a = nI k ∧ CV C ∧ CX Mx (2 + k) C ∧ CM Mm (138 * k) C ∧ f_X9_coatAt Mx a = some (some (2 + k)) ∧ ∀ M', FM Mm M' → f_X10_hand M' a = some (true, mh M' k C) := by
  obtain ⟨⟨-, -, -, cn, hc, hC, -⟩, -⟩ := H
  obtain ⟨h1, h2, h3⟩ := hc 0 (by omega)
  rcases idx_cases a (cn 0) with ⟨k, hk, hk2, rfl⟩ | h
  · obtain ⟨C, g1, g2, g3⟩ := hC k hk
    have e : 138 * (2 * 0 + k) = 138 * k := by omega
    rw [e] at g3
    exact Or.inr ⟨k, C, by omega, rfl, g1, g2, g3, coatAt_v h1 h2 hk, fun M' hM => hand_v h1 (by rw [hM 5 (by omega)]; exact h3) hk (CM_cg (hM 6 (by omega)) g3)⟩
  · exact Or.inl ⟨coatAt_n h1 h2 h, fun M' hM => hand_n h1 (by rw [hM 5 (by omega)]; exact h3) h⟩
theorem FM_mh (M : Mem) (k : Nat) (C : CoatA) : FM M (mh M k C) := FM_tr (FM_tr (FM_sI M) (FM_sI _)) (FM_sI _)
/-! lives -/
def ml (M : Mem) (k : Int32) : Mem := sI M 100 26 k
theorem lifeAt_v {M : Mem} {k n : Nat} (hn : n ≤ 2) (h : gA M 1 4 1 = nI n) (hk : k < n) : f_X9_lifeAt M (nI k) = some (some (4 + k)) := by
  unfold f_X9_lifeAt
  rw [has_in (s := 1) (by omega) hn h hk, bn_s, if_pos rfl, gin_n (by omega) (by omega), ix_n (by omega)]
theorem lifeAt_n {M : Mem} {n : Nat} (hn : n ≤ 2) (h : gA M 1 4 1 = nI n) {a : Int32} (ha : a < 0 ∨ ∃ j, n ≤ j ∧ j < 2147483648 ∧ a = nI j) : f_X9_lifeAt M a = some none := by
  unfold f_X9_lifeAt
  rw [has_out (s := 1) (by omega) hn h ha]
  rfl
theorem life_cases {Mx Mm : Mem} (H : Rl Mx Mm) (a : Int32) : (f_X9_lifeAt Mx a = some none ∧ ∀ M', FM Mm M' → f_X10_hasLife M' a = some (false, ml M' a)) ∨ ∃ k L, k < 2 ∧ a = nI k ∧ LV L ∧ LX Mx (4 + k) L ∧ LM Mm (81 * k) L ∧ f_X9_lifeAt Mx a = some (some (4 + k)) ∧ ∀ M', FM Mm M' → f_X10_hasLife M' a = some (true, ml M' a) := by
  obtain ⟨⟨-, -, -, cn, hc, -, hL, -⟩, -⟩ := H
  obtain ⟨h1, h2, h3⟩ := hc 1 (by omega)
  rcases idx_cases a (cn 1) with ⟨k, hk, hk2, rfl⟩ | h
  · obtain ⟨L, g1, g2, g3⟩ := hL k hk
    have e : 81 * (2 * 0 + k) = 81 * k := by omega
    rw [e] at g3
    refine Or.inr ⟨k, L, by omega, rfl, g1, g2, g3, lifeAt_v h1 h2 hk, fun M' hM => ?_⟩
    unfold f_X10_hasLife
    rw [nm_s, is_in (s := 1) (by omega) h1 (by rw [gA_sI, hM 5 (by omega)]; exact h3) hk]
    rfl
  · refine Or.inl ⟨lifeAt_n h1 h2 h, fun M' hM => ?_⟩
    unfold f_X10_hasLife
    rw [nm_s, is_out (s := 1) (by omega) h1 (by rw [gA_sI, hM 5 (by omega)]; exact h3) h]
    rfl
/-! towns -/
def mt (M : Mem) (k : Nat) (T : TownA) : Mem := sI (sI (sI (sI M 100 39 (nI k)) 100 40 (nI (tW T))) 100 41 (nI (tX T))) 100 42 (nI (tY T))
def MT (M : Mem) (k : Nat) (T : TownA) : Prop := k < 2 ∧ gI M 100 39 = nI k ∧ gI M 100 40 = nI (tW T) ∧ TM M (41 * k) T
theorem townOf_v {M : Mem} {k j : Nat} (h : gI M 100 39 = nI k) (hk : k < 2) (hj : j < 100) : f_X10_townOf M (nI j) = some (gA M 100 8 (41 * k + j)) := by
  unfold f_X10_townOf
  rw [h, pk_mul, nI_add, gin_n (by omega) (by omega), ix_n (by omega)]
theorem mt_MT {M : Mem} {k : Nat} {T : TownA} (hk : k < 2) (h : TM M (41 * k) T) : MT (mt M k T) k T := ⟨hk, rfl, rfl, TM_cg rfl h⟩
theorem FM_mt (M : Mem) (k : Nat) (T : TownA) : FM M (mt M k T) := FM_tr (FM_tr (FM_tr (FM_sI M) (FM_sI _)) (FM_sI _)) (FM_sI _)
theorem townAt_v {M : Mem} {k n : Nat} (hn : n ≤ 2) (h : gA M 1 4 2 = nI n) (hk : k < n) : f_X9_townAt M (nI k) = some (some (6 + k)) := by
  unfold f_X9_townAt
  rw [has_in (s := 2) (by omega) hn h hk, bn_s, if_pos rfl, gin_n (by omega) (by omega), ix_n (by omega)]
theorem townAt_n {M : Mem} {n : Nat} (hn : n ≤ 2) (h : gA M 1 4 2 = nI n) {a : Int32} (ha : a < 0 ∨ ∃ j, n ≤ j ∧ j < 2147483648 ∧ a = nI j) : f_X9_townAt M a = some none := by
  unfold f_X9_townAt
  rw [has_out (s := 2) (by omega) hn h ha]
  rfl
theorem layTown_v {M : Mem} {k n : Nat} {T : TownA} (hn : n ≤ 2) (h5 : gA M 100 5 2 = nI n) (hk : k < n) (h : TM M (41 * k) T) : f_X10_layTown M (nI k) = some (true, mt M k T) := by
  unfold f_X10_layTown
  rw [nm_s, is_in (s := 2) (by omega) hn (by rw [gA_sI]; exact h5) hk]
  have e0 : f_X10_townOf (sI M 100 39 (nI k)) (nI 0) = some (nI (tW T)) := by
    rw [townOf_v (k := k) rfl (by omega) (by omega), gA_sI, ← h.1.1]; rfl
  have e1 : f_X10_townOf (sI (sI M 100 39 (nI k)) 100 40 (nI (tW T))) (nI 3) = some (nI (tX T)) := by
    rw [townOf_v (k := k) rfl (by omega) (by omega), gA_sI, gA_sI, ← h.1.2.2.2.1]
  have e2 : f_X10_townOf (sI (sI (sI M 100 39 (nI k)) 100 40 (nI (tW T))) 100 41 (nI (tX T))) (nI 4) = some (nI (tY T)) := by
    rw [townOf_v (k := k) rfl (by omega) (by omega), gA_sI, gA_sI, gA_sI, ← h.1.2.2.2.2]
  simp only [bn_s, if_true, nm_s, e0, e1, e2]
  rfl
theorem town_cases {Mx Mm : Mem} (H : Rl Mx Mm) (a : Int32) : (f_X9_townAt Mx a = some none ∧ ∀ M', FM Mm M' → f_X10_layTown M' a = some (false, sI M' 100 39 a)) ∨ ∃ k T, k < 2 ∧ a = nI k ∧ TV T ∧ TX Mx (6 + k) T ∧ TM Mm (41 * k) T ∧ f_X9_townAt Mx a = some (some (6 + k)) ∧ ∀ M', FM Mm M' → f_X10_layTown M' a = some (true, mt M' k T) := by
  obtain ⟨⟨-, -, -, cn, hc, -, -, hT, -⟩, -⟩ := H
  obtain ⟨h1, h2, h3⟩ := hc 2 (by omega)
  rcases idx_cases a (cn 2) with ⟨k, hk, hk2, rfl⟩ | h
  · obtain ⟨T, g1, g2, g3⟩ := hT k hk
    have e : 41 * (2 * 0 + k) = 41 * k := by omega
    rw [e] at g3
    exact Or.inr ⟨k, T, by omega, rfl, g1, g2, g3, townAt_v h1 h2 hk, fun M' hM => layTown_v h1 (by rw [hM 5 (by omega)]; exact h3) hk (TM_cg (hM 8 (by omega)) g3)⟩
  · refine Or.inl ⟨townAt_n h1 h2 h, fun M' hM => ?_⟩
    unfold f_X10_layTown
    rw [nm_s, is_out (s := 2) (by omega) h1 (by rw [gA_sI, hM 5 (by omega)]; exact h3) h]
    rfl
/-! sights -/
def ms (M : Mem) (k : Int32) : Mem := sI M 100 50 k
theorem sightAt_v {M : Mem} {k n : Nat} (hn : n ≤ 2) (h : gA M 1 4 3 = nI n) (hk : k < n) : f_X9_sightAt M (nI k) = some (some (8 + k)) := by
  unfold f_X9_sightAt
  rw [has_in (s := 3) (by omega) hn h hk, bn_s, if_pos rfl, gin_n (by omega) (by omega), ix_n (by omega)]
theorem sightAt_n {M : Mem} {n : Nat} (hn : n ≤ 2) (h : gA M 1 4 3 = nI n) {a : Int32} (ha : a < 0 ∨ ∃ j, n ≤ j ∧ j < 2147483648 ∧ a = nI j) : f_X9_sightAt M a = some none := by
  unfold f_X9_sightAt
  rw [has_out (s := 3) (by omega) hn h ha]
  rfl
theorem sight_cases {Mx Mm : Mem} (H : Rl Mx Mm) (a : Int32) : (f_X9_sightAt Mx a = some none ∧ ∀ M', FM Mm M' → f_X10_hasSight M' a = some (false, ms M' a)) ∨ ∃ k S, k < 2 ∧ a = nI k ∧ SV S ∧ SX Mx (8 + k) S ∧ SM Mm (31 * k) S ∧ f_X9_sightAt Mx a = some (some (8 + k)) ∧ ∀ M', FM Mm M' → f_X10_hasSight M' a = some (true, ms M' a) := by
  obtain ⟨⟨-, -, -, cn, hc, -, -, -, hS⟩, -⟩ := H
  obtain ⟨h1, h2, h3⟩ := hc 3 (by omega)
  rcases idx_cases a (cn 3) with ⟨k, hk, hk2, rfl⟩ | h
  · obtain ⟨S, g1, g2, g3⟩ := hS k hk
    have e : 31 * (2 * 0 + k) = 31 * k := by omega
    rw [e] at g3
    refine Or.inr ⟨k, S, by omega, rfl, g1, g2, g3, sightAt_v h1 h2 hk, fun M' hM => ?_⟩
    unfold f_X10_hasSight
    rw [nm_s, is_in (s := 3) (by omega) h1 (by rw [gA_sI, hM 5 (by omega)]; exact h3) hk]
    rfl
  · refine Or.inl ⟨sightAt_n h1 h2 h, fun M' hM => ?_⟩
    unfold f_X10_hasSight
    rw [nm_s, is_out (s := 3) (by omega) h1 (by rw [gA_sI, hM 5 (by omega)]; exact h3) h]
    rfl
