/-! WALKS: the reference -/
def RI (M : Mem) (k : Nat) (T : TownA) (x y : Nat) : Prop := MT M k T ∧ gI M 100 41 = nI x ∧ gI M 100 42 = nI y
theorem RI_FK {M M' : Mem} {k : Nat} {T : TownA} {x y : Nat} {p : Nat → Bool} (h : RI M k T x y) (f : FK 100 p M M') (h8 : p 8 = false) : RI M' k T x y := by
  obtain ⟨⟨a, b, c, d⟩, e, g⟩ := h
  exact ⟨⟨a, by rw [f.1]; exact b, by rw [f.1]; exact c, TM_cg (f.2.2 100 8 (fun q => by rw [h8] at q; exact absurd q.2 (by decide))).1 d⟩, by rw [f.1]; exact e, by rw [f.1]; exact g⟩
theorem RI_sI {M : Mem} {k : Nat} {T : TownA} {x y : Nat} {j : Nat} {v : Int32} (h : RI M k T x y) (hj : 43 ≤ j) : RI (sI M 100 j v) k T x y := by
  obtain ⟨⟨a, b, c, d⟩, e, g⟩ := h
  refine ⟨⟨a, ?_, ?_, TM_cg rfl d⟩, ?_, ?_⟩
  · rw [gI_sI, if_neg (by omega)]; exact b
  · rw [gI_sI, if_neg (by omega)]; exact c
  · rw [gI_sI, if_neg (by omega)]; exact e
  · rw [gI_sI, if_neg (by omega)]; exact g
theorem FK_o {M M' : Mem} {k j : Nat} (f : FK 100 (p1 k) M M') (h : ¬ j = k) : gA M' 100 j = gA M 100 j := (f.2.2 100 j (fun q => h (by have := q.2; unfold p1 at this; simpa using this))).1
def RW (M : Mem) (n : Nat) (r : Nat → Nat) : Prop := ∀ j, j < n → gA M 100 43 j = nI (r j)
theorem RW_cg {M M' : Mem} {n : Nat} {r : Nat → Nat} (h : RW M n r) (e : gA M' 100 43 = gA M 100 43) : RW M' n r := fun j hj => by rw [e]; exact h j hj
theorem RW_ext {M : Mem} {n : Nat} {r r' : Nat → Nat} (h : RW M n r) (e : ∀ j, j < n → r j = r' j) : RW M n r' := fun j hj => by rw [← e j hj]; exact h j hj
section Ref
variable {M : Mem} {k : Nat} {T : TownA} {x y : Nat}
theorem due_v (h : RI M k T x y) {w : Nat} (hV : TV T) (hw : w < tW T) : f_X10_townOf M (nI 23 + nI w) = some (nI (tDu T w)) := by
  have h6 := hV.1.2.2.2.2
  rw [nI_add, townOf_v h.1.2.1 h.1.1 (by omega), (h.1.2.2.2.2.1 w hw).2.2.2]
theorem walk_v (h : RI M k T x y) (hV : TV T) (hx : x < 100) (hy : y < 100) {n : Nat} (hn : n ≤ 6) {r : Nat → Nat} (hr : RW M n r) (hr2 : ∀ j, j < n → r j < tW T) : ∃ M', f_X10_walk M (nI n) = some M' ∧ FK 100 (p1 44) M M' ∧ ∀ j, j < n → gA M' 100 44 j = nI (dyF T x y r j) := by
  have hdb := dyF_b hV hx hy hr2
  unfold f_X10_walk f_X10_walk_2
  refine lpU_inv (fun v a => ∃ M', a = (nI v, M') ∧ FK 100 (p1 44) M M' ∧ ∀ j, j < v → gA M' 100 44 j = nI (dyF T x y r j)) n (fun z => ∃ M', z = some M' ∧ FK 100 (p1 44) M M' ∧ ∀ j, j < n → gA M' 100 44 j = nI (dyF T x y r j)) (by omega) ?_ ?_ 0 _ (Nat.zero_le _) ⟨M, rfl, FK_rf M, fun j hj => by omega⟩
  · rintro rc a ⟨M1, rfl, hf, ht⟩
    show ∃ M', b_X10_walk_2 (nI n) _ (nI n) M1 = _ ∧ _
    unfold b_X10_walk_2
    rw [if_pos (nI_le (Nat.le_refl _) (by omega))]
    exact ⟨M1, rfl, hf, ht⟩
  · rintro rc v a hv ⟨M1, rfl, hf, ht⟩
    refine Or.inr ?_
    have hI := RI_FK h hf rfl
    have hr1 := RW_cg hr (FK_o hf (by omega))
    have hw := hr2 v hv
    have fin : ∀ c, c < 10000 → ldN T (r v) c = dyF T x y r v → ∃ a', (∃ M', a' = (nI (v + 1), M') ∧ FK 100 (p1 44) M M' ∧ ∀ j, j < v + 1 → gA M' 100 44 j = nI (dyF T x y r j)) ∧ f_X10_walk_61 (nI n) (fun x0 x1 => rc (x0, x1)) (nI v) (nI c) M1 = rc a' := by
      intro c hc hd
      unfold f_X10_walk_61
      have hg : ∀ z : Option Mem, gin (nI v) 6 z = z := fun z => gin_n (by omega) (by omega)
      simp only [hg]
      rw [ix_n (by omega), hr1 v hv, doneAt_v hI.1 hV hw hc, bn_s, hd, nI_add, nm_s, nm_s]
      refine ⟨_, ⟨_, rfl, FK_tr hf (FK_sA _ (p1_r 44)), fun j hj => ?_⟩, rfl⟩
      rw [gA_sA]
      by_cases q : j = v
      · rw [if_pos ⟨rfl, rfl, q⟩, q]
      · rw [if_neg (fun z => q z.2.2)]
        exact ht j (by omega)
    show ∃ a', _ ∧ b_X10_walk_2 (nI n) _ (nI v) M1 = _
    unfold b_X10_walk_2
    rw [if_neg (nI_ge hv (by omega)), ite_p (eq_n (a := v) (b := 0) (by omega) (by omega))]
    by_cases q : v = 0
    · subst q
      have hb := tWay_b hV hx hy hw
      rw [if_pos rfl, gin0 (by omega) (by omega), ix0, hr1 0 hv, hI.2.1, hI.2.2, ways_v hI.1 hV hx hy hw, bn_s]
      exact fin _ (by omega) rfl
    · obtain ⟨u, rfl⟩ : ∃ u, v = u + 1 := ⟨v - 1, by omega⟩
      have hw2 := hr2 u (by omega)
      obtain ⟨b1, b2, -⟩ := hV.2.1 (r u) hw2
      have hb := tWay_b hV (x := tXs T (r u)) (y := tYs T (r u)) (by omega) (by omega) hw
      have hd := hdb u (by omega)
      rw [if_neg q, sub_n (show 1 ≤ u + 1 by omega), show u + 1 - 1 = u by omega, gin_n (by omega) (by omega), gin_n (by omega) (by omega), gin_n (by omega) (by omega), ix_n (by omega), ix_n (by omega), hr1 (u + 1) hv, hr1 u (by omega), ht u (by omega), between_v hI.1 hV hw2 hw, bn_s, nI_add, nI_add]
      exact fin _ (by omega) rfl
theorem inTime_v (h : RI M k T x y) (hV : TV T) (hx : x < 100) (hy : y < 100) {r : Nat → Nat} (hr : RW M (tW T) r) (hr2 : ∀ j, j < tW T → r j < tW T) (hd : ∀ j, j < tW T → gA M 100 44 j = nI (dyF T x y r j)) : f_X10_inTime M = some (nI (nx (fun k => decide (tDu T (r k) < dyF T x y r k)) (tW T))) := by
  have h6 := hV.1.2.2.2.2
  have hdb := dyF_b hV hx hy hr2
  have h40 : gI M 100 40 = nI (tW T) := h.1.2.2.1
  unfold f_X10_inTime f_X10_inTime_2
  have step : ∀ (rc : Int32 → Option Int32) i, i < tW T → b_X10_inTime_2 M (fun x0 => rc x0) (nI i) = if tDu T (r i) < dyF T x y r i then some (nI i) else rc (nI (i + 1)) := by
    intro rc i hi
    have hb := hdb i hi
    obtain ⟨-, -, -, u⟩ := hV.2.1 (r i) (hr2 i hi)
    unfold b_X10_inTime_2
    rw [h40, if_neg (nI_ge hi (by omega)), gin_n (by omega) (by omega), gin_n (by omega) (by omega), ix_n (by omega), hr i hi, due_v h hV (hr2 i hi), bn_s, hd i hi, ite_p (lt_n (by omega) (by omega)), nI_add, nm_s]
  refine lpU_find (fun i => nI i) (tW T) (fun m => some (nI m)) (fun i => tDu T (r i) < dyF T x y r i) (by omega) ?_ ?_ ?_ _ (nx_le _ _) (fun j hj => of_decide_eq_false (nx_min hj)) (fun z => of_decide_eq_true (nx_hit (p := fun k => decide (tDu T (r k) < dyF T x y r k)) z)) 0 (Nat.zero_le _)
  · intro rc
    show b_X10_inTime_2 M _ (nI (tW T)) = _
    unfold b_X10_inTime_2
    rw [h40, if_pos (nI_le (Nat.le_refl _) (by omega))]
  · intro rc i hi hst
    show b_X10_inTime_2 M (fun x0 => rc x0) (nI i) = _
    rw [step rc i hi, if_pos hst]
  · intro rc i hi hst
    show b_X10_inTime_2 M (fun x0 => rc x0) (nI i) = _
    rw [step rc i hi, if_neg hst]
theorem lateness_v (h : RI M k T x y) (hV : TV T) (hx : x < 100) (hy : y < 100) {r : Nat → Nat} (hr : RW M (tW T) r) (hr2 : ∀ j, j < tW T → r j < tW T) (hd : ∀ j, j < tW T → gA M 100 44 j = nI (dyF T x y r j)) : f_X10_lateness M = some (nI (ltF T x y r (tW T))) := by
  have h6 := hV.1.2.2.2.2
  have hdb := dyF_b hV hx hy hr2
  have h40 : gI M 100 40 = nI (tW T) := h.1.2.2.1
  unfold f_X10_lateness f_X10_lateness_4
  refine lpU_for (fun i => (nI (ltF T x y r i), nI i)) (tW T) _ (by omega) 0 (Nat.zero_le _) ?_ ?_
  · intro rc
    show b_X10_lateness_4 M _ _ (nI (tW T)) = _
    unfold b_X10_lateness_4
    rw [h40, if_pos (nI_le (Nat.le_refl _) (by omega))]
  · intro rc i _ hi
    have hb := hdb i hi
    obtain ⟨-, -, -, u⟩ := hV.2.1 (r i) (hr2 i hi)
    show b_X10_lateness_4 M _ (nI (ltF T x y r i)) (nI i) = rc (nI (ltF T x y r i + (dyF T x y r i - tDu T (r i))), nI (i + 1))
    unfold b_X10_lateness_4
    rw [h40, if_neg (nI_ge hi (by omega)), gin_n (by omega) (by omega), gin_n (by omega) (by omega), ix_n (by omega), hr i hi, due_v h hV (hr2 i hi), bn_s, hd i hi, gr0_sub (by omega) (by omega), bn_s, nI_add, nI_add, nm_s, nm_s]
theorem firstRow_v (h : RI M k T x y) (hV : TV T) : ∃ M', f_X10_firstRow M = some M' ∧ FK 100 (p1 43) M M' ∧ RW M' (tW T) (fun j => j) := by
  have h6 := hV.1.2.2.2.2
  have h40 : gI M 100 40 = nI (tW T) := h.1.2.2.1
  unfold f_X10_firstRow f_X10_firstRow_2
  refine lpU_inv (fun i a => ∃ M', a = (nI i, M') ∧ FK 100 (p1 43) M M' ∧ RW M' i (fun j => j)) (tW T) (fun z => ∃ M', z = some M' ∧ FK 100 (p1 43) M M' ∧ RW M' (tW T) (fun j => j)) (by omega) ?_ ?_ 0 _ (Nat.zero_le _) ⟨M, rfl, FK_rf M, fun j hj => by omega⟩
  · rintro rc a ⟨M1, rfl, hf, ht⟩
    show ∃ M', b_X10_firstRow_2 _ (nI (tW T)) M1 = _ ∧ _
    unfold b_X10_firstRow_2
    rw [hf.1, h40, if_pos (nI_le (Nat.le_refl _) (by omega))]
    exact ⟨M1, rfl, hf, ht⟩
  · rintro rc i a hi ⟨M1, rfl, hf, ht⟩
    refine Or.inr ?_
    show ∃ a', _ ∧ b_X10_firstRow_2 _ (nI i) M1 = _
    unfold b_X10_firstRow_2
    rw [hf.1, h40, if_neg (nI_ge hi (by omega)), gin_n (by omega) (by omega), ix_n (by omega), nI_add, nm_s, nm_s]
    refine ⟨_, ⟨_, rfl, FK_tr hf (FK_sA _ (p1_r 43)), fun j hj => ?_⟩, rfl⟩
    rw [gA_sA]
    by_cases q : j = i
    · rw [if_pos ⟨rfl, rfl, q⟩, q]
    · rw [if_neg (fun z => q z.2.2)]
      exact ht j (by omega)
theorem swap_v {n : Nat} (hn : n ≤ 6) {r : Nat → Nat} (hr : RW M n r) {a b : Nat} (ha : a < n) (hb : b < n) : ∃ M', f_X10_swap M (nI a) (nI b) = some M' ∧ FK 100 (p1 43) M M' ∧ RW M' n (swF r a b) := by
  unfold f_X10_swap
  have hg : ∀ z : Option Mem, gin (nI a) 6 z = z := fun z => gin_n (by omega) (by omega)
  have hg2 : ∀ z : Option Mem, gin (nI b) 6 z = z := fun z => gin_n (by omega) (by omega)
  simp only [hg, hg2, nm_s]
  rw [ix_n (by omega), ix_n (by omega), hr a ha, hr b hb]
  refine ⟨_, rfl, FK_tr (FK_sA _ (p1_r 43)) (FK_sA _ (p1_r 43)), fun j hj => ?_⟩
  rw [gA_sA, gA_sA]
  unfold swF
  by_cases q : j = b
  · rw [if_pos ⟨rfl, rfl, q⟩, if_pos q]
  · rw [if_neg (fun z => q z.2.2), if_neg q]
    by_cases q2 : j = a
    · rw [if_pos ⟨rfl, rfl, q2⟩, if_pos q2]
    · rw [if_neg (fun z => q2 z.2.2), if_neg q2]
      exact hr j hj
def rvT (r : Nat → Nat) (k n t : Nat) : Nat → Nat := fun j => if (k < j ∧ j < k + 1 + t) ∨ (n - 1 - t < j ∧ j < n) then r (n + k - j) else r j
theorem rev_v {n : Nat} (hn : n ≤ 6) {r : Nat → Nat} (hr : RW M n r) {k' : Nat} (hk : k' < n) : ∃ M', f_X10_nextRow_86 FU (nI (k' + 1), nI (n - 1), M) = some (true, M') ∧ FK 100 (p1 43) M M' ∧ RW M' n (rvF r k' n) := by
  unfold f_X10_nextRow_86
  have hst : ∀ M1 t (rc : Int32 × Int32 × Mem → Option (Bool × Mem)), FK 100 (p1 43) M M1 → RW M1 n (rvT r k' n t) → t ≤ n - 1 → t ≤ 3 → k' + 1 + t ≤ n - 1 - t + 1 → n - 1 - t ≤ k' + 1 + t → ∃ M', b_X10_nextRow_86 (fun x0 x1 x2 => rc (x0, x1, x2)) (nI (k' + 1 + t)) (nI (n - 1 - t)) M1 = some (true, M') ∧ FK 100 (p1 43) M M' ∧ RW M' n (rvF r k' n) := by
    intro M1 t rc hf ht h1 h3 h4 h2
    unfold b_X10_nextRow_86
    rw [if_pos (nI_le h2 (by omega))]
    refine ⟨M1, rfl, hf, RW_ext ht (fun j hj => ?_)⟩
    unfold rvT rvF
    by_cases c : k' < j
    · rw [if_pos (show k' < j ∧ j < n from ⟨c, hj⟩)]
      by_cases d : (k' < j ∧ j < k' + 1 + t) ∨ (n - 1 - t < j ∧ j < n)
      · rw [if_pos d]
      · rw [if_neg d]
        congr 1
        omega
    · rw [if_neg (show ¬ (k' < j ∧ j < n) from fun z => c z.1)]
      by_cases d : (k' < j ∧ j < k' + 1 + t) ∨ (n - 1 - t < j ∧ j < n)
      · rw [if_pos d]
        congr 1
        omega
      · rw [if_neg d]
  refine lpU_inv (fun t a => ∃ M', a = (nI (k' + 1 + t), nI (n - 1 - t), M') ∧ FK 100 (p1 43) M M' ∧ RW M' n (rvT r k' n t) ∧ t ≤ n - 1 ∧ k' + 1 + t ≤ n - 1 - t + 1) 3 (fun z => ∃ M', z = some (true, M') ∧ FK 100 (p1 43) M M' ∧ RW M' n (rvF r k' n)) (by omega) ?_ ?_ 0 _ (Nat.zero_le _) ⟨M, rfl, FK_rf M, RW_ext hr (fun j hj => ?_), Nat.zero_le _, by omega⟩
  · rintro rc a ⟨M1, rfl, hf, ht, h1, h2⟩
    exact hst M1 3 rc hf ht h1 (Nat.le_refl _) h2 (by omega)
  · rintro rc t a hlt ⟨M1, rfl, hf, ht, h1, h2⟩
    by_cases c : n - 1 - t ≤ k' + 1 + t
    · exact Or.inl (hst M1 t rc hf ht h1 (by omega) h2 c)
    · right
      show ∃ a', _ ∧ b_X10_nextRow_86 _ (nI (k' + 1 + t)) (nI (n - 1 - t)) M1 = _
      unfold b_X10_nextRow_86
      obtain ⟨M2, e1, e2, e3⟩ := swap_v (M := M1) hn ht (a := k' + 1 + t) (b := n - 1 - t) (by omega) (by omega)
      have ed : nI (n - 1 - t) + (-1) = nI (n - 1 - (t + 1)) := by
        rw [dnI_n, show n - 1 - t = (n - 1 - (t + 1)) + 1 by omega, dnI_s]
      rw [if_neg (nI_ge (by omega) (by omega)), e1, bn_s, ed, nI_add, nm_s, nm_s]
      refine ⟨_, ⟨M2, rfl, FK_tr hf e2, RW_ext e3 (fun j hj => ?_), by omega, by omega⟩, rfl⟩
      unfold swF rvT
      by_cases q : j = n - 1 - t
      · rw [if_pos q, if_neg (by omega), if_pos (by omega)]
        congr 1
        omega
      · rw [if_neg q]
        by_cases q2 : j = k' + 1 + t
        · rw [if_pos q2, if_neg (by omega), if_pos (by omega)]
          congr 1
          omega
        · rw [if_neg q2]
          by_cases d : (k' < j ∧ j < k' + 1 + t) ∨ (n - 1 - t < j ∧ j < n)
          · rw [if_pos d, if_pos (by omega)]
          · rw [if_neg d, if_neg (by omega)]
  · unfold rvT
    rw [if_neg (by omega)]
theorem dn_2 : ∀ n, n < 7 → 1 ≤ n → nI n - nI 2 = dnI (n - 1) := by decide +kernel
theorem nextRow_v (h : RI M k T x y) (hV : TV T) (h1 : 1 ≤ tW T) {r : Nat → Nat} (hr : RW M (tW T) r) (hr2 : ∀ j, j < tW T → r j < 100) : ∃ M', FK 100 (p1 43) M M' ∧ ((nrK (tW T) r = tW T - 1 ∧ f_X10_nextRow M = some (false, M')) ∨ (nrK (tW T) r < tW T - 1 ∧ f_X10_nextRow M = some (true, M') ∧ RW M' (tW T) (nrF (tW T) r))) := by
  have h6 := hV.1.2.2.2.2
  have h40 : gI M 100 40 = nI (tW T) := h.1.2.2.1
  have hl : nrK (tW T) r ≤ tW T - 1 := nx_le _ _
  have e1 : f_X10_nextRow M = f_X10_nextRow_34 (dnI (tW T - 1 - nrK (tW T) r)) M := by
    unfold f_X10_nextRow
    rw [h40, dn_2 _ (by omega) h1, nm_s]
    unfold f_X10_nextRow_7
    have step : ∀ (rc : Int32 × Mem → Option (Bool × Mem)) d, d < tW T - 1 → b_X10_nextRow_7 (fun x0 x1 => rc (x0, x1)) (dnI (tW T - 1 - d)) M = if r (tW T - 2 - d) ≤ r (tW T - 1 - d) then f_X10_nextRow_34 (dnI (tW T - 1 - d)) M else rc (dnI (tW T - 1 - (d + 1)), M) := by
      intro rc d hd
      have ev : tW T - 1 - d = (tW T - 2 - d) + 1 := by omega
      have b1 := hr2 (tW T - 2 - d) (by omega)
      have b2 := hr2 (tW T - 1 - d) (by omega)
      unfold b_X10_nextRow_7
      rw [show dnI (tW T - 1 - d) = nI (tW T - 2 - d) by rw [ev, dnI_s], if_neg (n_nneg (by omega)), gin_n (by omega) (by omega), nI_add, ← ev, gin_n (by omega) (by omega), ix_n (by omega), ix_n (by omega), hr _ (by omega), hr _ (by omega), ite_p (le_n (by omega) (by omega)), dnI_n, nm_s, show tW T - 1 - (d + 1) = tW T - 2 - d by omega]
    refine lpU_find (fun d => (dnI (tW T - 1 - d), M)) (tW T - 1) (fun m => f_X10_nextRow_34 (dnI (tW T - 1 - m)) M) (fun d => r (tW T - 2 - d) ≤ r (tW T - 1 - d)) (by omega) ?_ ?_ ?_ (nrK (tW T) r) hl (fun j hj => of_decide_eq_false (nx_min hj)) (fun z => of_decide_eq_true (nx_hit (p := fun d => decide (r (tW T - 2 - d) ≤ r (tW T - 1 - d))) z)) 0 (Nat.zero_le _)
    · intro rc
      show b_X10_nextRow_7 _ (dnI (tW T - 1 - (tW T - 1))) M = _
      unfold b_X10_nextRow_7
      rw [Nat.sub_self, if_pos dnI_0]
    · intro rc d hd hst
      show b_X10_nextRow_7 (fun x0 x1 => rc (x0, x1)) _ M = _
      rw [step rc d hd, if_pos hst]
    · intro rc d hd hst
      show b_X10_nextRow_7 (fun x0 x1 => rc (x0, x1)) _ M = _
      rw [step rc d hd, if_neg hst]
  rw [e1]
  unfold f_X10_nextRow_34
  by_cases c : nrK (tW T) r < tW T - 1
  · have ek : tW T - 1 - nrK (tW T) r = (tW T - 2 - nrK (tW T) r) + 1 := by omega
    generalize eK : tW T - 2 - nrK (tW T) r = kk at ek
    have hkk : kk < tW T := by omega
    have bk := hr2 kk hkk
    have hI : nrI (tW T) r kk ≤ tW T - 1 - kk := by
      apply Classical.byContradiction
      intro z
      have := nx_min (p := fun e => decide (r kk ≤ r (tW T - 1 - e))) (n := tW T) (j := tW T - 1 - kk) (by show tW T - 1 - kk < nrI (tW T) r kk; omega)
      have e : tW T - 1 - (tW T - 1 - kk) = kk := by omega
      rw [e] at this
      have := of_decide_eq_false this
      omega
    have hIn : nrI (tW T) r kk < tW T := by omega
    have e2 : f_X10_nextRow_47 (nI kk) FU (nI (tW T - 1), M) = bn (f_X10_swap M (nI kk) (nI (tW T - 1 - nrI (tW T) r kk))) (fun M10 => f_X10_nextRow_86 FU (nI (kk + 1), gI M10 100 40 - nI 1, M10)) := by
      unfold f_X10_nextRow_47
      have step : ∀ (rc : Int32 × Mem → Option (Bool × Mem)) e, e < tW T → b_X10_nextRow_47 (nI kk) (fun x0 x1 => rc (x0, x1)) (nI (tW T - 1 - e)) M = if r kk ≤ r (tW T - 1 - e) then bn (f_X10_swap M (nI kk) (nI (tW T - 1 - e))) (fun M10 => f_X10_nextRow_86 FU (nI (kk + 1), gI M10 100 40 - nI 1, M10)) else rc (dnI (tW T - 1 - e), M) := by
        intro rc e he
        have b2 := hr2 (tW T - 1 - e) (by omega)
        unfold b_X10_nextRow_47
        simp only [nm_s]
        rw [gin_n (by omega) (by omega), gin_n (by omega) (by omega), ix_n (by omega), ix_n (by omega), hr _ (by omega), hr _ (by omega), ite_p (le_n (by omega) (by omega)), dnI_n, nI_add]
      refine lpU_find (fun e => (nI (tW T - 1 - e), M)) (tW T - 1 - kk) (fun m => bn (f_X10_swap M (nI kk) (nI (tW T - 1 - m))) (fun M10 => f_X10_nextRow_86 FU (nI (kk + 1), gI M10 100 40 - nI 1, M10))) (fun e => r kk ≤ r (tW T - 1 - e)) (by omega) ?_ ?_ ?_ (nrI (tW T) r kk) hI (fun j hj => of_decide_eq_false (nx_min hj)) (fun _ => of_decide_eq_true (nx_hit (p := fun e => decide (r kk ≤ r (tW T - 1 - e))) hIn)) 0 (Nat.zero_le _)
      · intro rc
        show b_X10_nextRow_47 (nI kk) (fun x0 x1 => rc (x0, x1)) _ M = _
        rw [step rc _ (by omega), if_pos (by rw [show tW T - 1 - (tW T - 1 - kk) = kk by omega]; exact Nat.le_refl _)]
      · intro rc e he hst
        show b_X10_nextRow_47 (nI kk) (fun x0 x1 => rc (x0, x1)) _ M = _
        rw [step rc e (by omega), if_pos hst]
      · intro rc e he hst
        show b_X10_nextRow_47 (nI kk) (fun x0 x1 => rc (x0, x1)) _ M = _
        rw [step rc e (by omega), if_neg hst, show tW T - 1 - e = (tW T - 1 - (e + 1)) + 1 by omega, dnI_s]
    obtain ⟨M2, g1, g2, g3⟩ := swap_v (M := M) h6 hr (a := kk) (b := tW T - 1 - nrI (tW T) r kk) hkk (by omega)
    obtain ⟨M3, g4, g5, g6⟩ := rev_v (M := M2) h6 g3 (k' := kk) hkk
    rw [ek, dnI_s, if_pos (nI_le (Nat.zero_le _) (by omega)), h40, sub_n h1, nm_s, e2, g1, bn_s, g2.1, h40, sub_n h1, g4]
    refine ⟨M3, FK_tr g2 g5, Or.inr ⟨c, rfl, ?_⟩⟩
    unfold nrF
    rw [eK]
    exact g6
  · have e0 : tW T - 1 - nrK (tW T) r = 0 := by omega
    rw [e0, if_neg (neg_nle dnI_0 0 (by omega))]
    exact ⟨M, FK_rf M, Or.inl ⟨by omega, rfl⟩⟩
end Ref
