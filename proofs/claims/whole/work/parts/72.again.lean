/-! IMAGES: all that is told copied, on both sides -/
def CP (n : Nat) (l : Nat → Nat) (M : Mem) (a : Nat) (M' : Mem) (o : Nat) : Prop := (∀ k, k < n → gI M' o k = gI M a k) ∧ ∀ k j, j < l k → gA M' o k j = gA M a k j
def FRo (o : Nat) (M M' : Mem) : Prop := ∀ o', ¬ o' = o → (∀ k, gI M' o' k = gI M o' k) ∧ ∀ k, gA M' o' k = gA M o' k
theorem FRo_sI (M : Mem) {o k : Nat} {v : Int32} : FRo o M (sI M o k v) := fun o' h => ⟨fun _ => if_neg (fun q => h q.1), fun _ => rfl⟩
theorem FRo_cpA (M : Mem) {o k o' k' n : Nat} : FRo o' M (cpA M o k o' k' n) := fun a h => ⟨fun _ => rfl, fun b => by
  show gA (wA M o' k' _) a b = gA M a b
  rw [gA_wA', if_neg (fun q => h q.1)]⟩
theorem FRo_tr {o : Nat} {A B C : Mem} (h : FRo o A B) (g : FRo o B C) : FRo o A C := fun a ha => ⟨fun k => ((g a ha).1 k).trans ((h a ha).1 k), fun k => ((g a ha).2 k).trans ((h a ha).2 k)⟩
theorem CP_fr {n : Nat} {l : Nat → Nat} {M M1 M2 : Mem} {a o : Nat} (h : CP n l M a M1 o) (g : (∀ k, gI M2 o k = gI M1 o k) ∧ ∀ k, gA M2 o k = gA M1 o k) : CP n l M a M2 o := ⟨fun k hk => by rw [g.1]; exact h.1 k hk, fun k j hj => by rw [g.2]; exact h.2 k j hj⟩
theorem CP_src {n : Nat} {l : Nat → Nat} {M M1 M2 : Mem} {a o : Nat} (h : CP n l M1 a M2 o) (g : (∀ k, gI M1 a k = gI M a k) ∧ ∀ k, gA M1 a k = gA M a k) : CP n l M a M2 o := ⟨fun k hk => by rw [h.1 k hk, g.1], fun k j hj => by rw [h.2 k j hj, g.2]⟩
def lnC : Nat → Nat := fun k => if k = 6 then 100 else if 2 ≤ k ∧ k ≤ 5 then 9 else 0
def lnL : Nat → Nat := fun k => if k = 1 ∨ k = 2 then 40 else 0
def lnW : Nat → Nat := fun k => if 5 ≤ k ∧ k ≤ 10 then 6 else 0
def lnG : Nat → Nat := fun k => if 1 ≤ k ∧ k ≤ 3 then 10 else 0
/-- a memory in which rows were copied one after the other -/
def c1 (M : Mem) (a o k n : Nat) : Mem := cpA M a k o k n
theorem gI_c1 (M : Mem) (a o k n x y : Nat) : gI (c1 M a o k n) x y = gI M x y := rfl
theorem gA_c1 (M : Mem) (a o k n x y j : Nat) : gA (c1 M a o k n) x y j = if x = o ∧ y = k ∧ j < n then gA M a k j else gA M x y j := by
  unfold c1
  rw [gA_cpA]
theorem take0_v {M : Mem} {o a : Nat} (h : ¬ o = a) : ∃ M', f_X0_take M o a = some M' ∧ CP 2 lnC M a M' o ∧ FRo o M M' := by
  have h' : ¬ a = o := fun e => h e.symm
  unfold f_X0_take
  simp only [nm_s]
  refine ⟨_, rfl, ⟨fun k hk => ?_, fun k j hj => ?_⟩, FRo_tr (FRo_sI _) (FRo_tr (FRo_sI _) (FRo_tr (FRo_cpA _) (FRo_tr (FRo_cpA _) (FRo_tr (FRo_cpA _) (FRo_tr (FRo_cpA _) (FRo_cpA _))))))⟩
  · have : k = 0 ∨ k = 1 := by omega
    rcases this with rfl | rfl <;> simp [gI_cpA, gI_sI, h']
  · unfold lnC at hj
    split at hj
    · next e => subst e; simp [gA_cpA, gA_sI, h', hj]
    · split at hj
      · next e1 e =>
        have : k = 2 ∨ k = 3 ∨ k = 4 ∨ k = 5 := by omega
        rcases this with rfl | rfl | rfl | rfl <;> simp [gA_cpA, gA_sI, h', hj]
      · exact absurd hj (Nat.not_lt_zero j)
theorem take1_v {M : Mem} {o a : Nat} (h : ¬ o = a) : ∃ M', f_X1_take M o a = some M' ∧ CP 1 lnL M a M' o ∧ FRo o M M' := by
  have h' : ¬ a = o := fun e => h e.symm
  unfold f_X1_take
  simp only [nm_s]
  refine ⟨_, rfl, ⟨fun k hk => ?_, fun k j hj => ?_⟩, FRo_tr (FRo_sI _) (FRo_tr (FRo_cpA _) (FRo_cpA _))⟩
  · have : k = 0 := by omega
    subst this
    simp [gI_cpA, gI_sI]
  · unfold lnL at hj
    split at hj
    · next e => rcases e with rfl | rfl <;> simp [gA_cpA, gA_sI, h', hj]
    · exact absurd hj (Nat.not_lt_zero j)
theorem take6_v {M : Mem} {o a : Nat} (h : ¬ o = a) : ∃ M', f_X6_take M o a = some M' ∧ CP 5 lnW M a M' o ∧ FRo o M M' := by
  have h' : ¬ a = o := fun e => h e.symm
  unfold f_X6_take
  simp only [nm_s]
  refine ⟨_, rfl, ⟨fun k hk => ?_, fun k j hj => ?_⟩, FRo_tr (FRo_sI _) (FRo_tr (FRo_sI _) (FRo_tr (FRo_sI _) (FRo_tr (FRo_sI _) (FRo_tr (FRo_sI _) (FRo_tr (FRo_cpA _) (FRo_tr (FRo_cpA _) (FRo_tr (FRo_cpA _) (FRo_tr (FRo_cpA _) (FRo_tr (FRo_cpA _) (FRo_cpA _))))))))))⟩
  · have : k = 0 ∨ k = 1 ∨ k = 2 ∨ k = 3 ∨ k = 4 := by omega
    rcases this with rfl | rfl | rfl | rfl | rfl <;> simp [gI_cpA, gI_sI, h']
  · unfold lnW at hj
    split at hj
    · next e =>
      have : k = 5 ∨ k = 6 ∨ k = 7 ∨ k = 8 ∨ k = 9 ∨ k = 10 := by omega
      rcases this with rfl | rfl | rfl | rfl | rfl | rfl <;> simp [gA_cpA, gA_sI, h', hj]
    · exact absurd hj (Nat.not_lt_zero j)
theorem take4_v {M : Mem} {o a : Nat} (h : ¬ o = a) : ∃ M', f_X4_take M o a = some M' ∧ CP 1 lnG M a M' o ∧ FRo o M M' := by
  have h' : ¬ a = o := fun e => h e.symm
  unfold f_X4_take
  simp only [nm_s]
  refine ⟨_, rfl, ⟨fun k hk => ?_, fun k j hj => ?_⟩, FRo_tr (FRo_sI _) (FRo_tr (FRo_cpA _) (FRo_tr (FRo_cpA _) (FRo_cpA _)))⟩
  · have : k = 0 := by omega
    subst this
    simp [gI_cpA, gI_sI]
  · unfold lnG at hj
    split at hj
    · next e =>
      have : k = 1 ∨ k = 2 ∨ k = 3 := by omega
      rcases this with rfl | rfl | rfl <;> simp [gA_cpA, gA_sI, h', hj]
    · exact absurd hj (Nat.not_lt_zero j)
theorem CX_CP {M M' : Mem} {a o : Nat} {C : CoatA} (h : CP 2 lnC M a M' o) (hn : cN C ≤ 9) (c : CX M a C) : CX M' o C := CX_at c (h.1 0 (by omega)) (h.1 1 (by omega)) (fun k j hk => h.2 k j (by unfold lnC; split <;> (try split) <;> omega)) hn
theorem LX_CP {M M' : Mem} {a o : Nat} {L : LifeA} (h : CP 1 lnL M a M' o) (hn : L.1 ≤ 40) (c : LX M a L) : LX M' o L := LX_at c (h.1 0 (by omega)) (fun k j hk hj => h.2 k j (by unfold lnL; rw [if_pos hk]; exact hj)) hn
theorem TX_CP {M M' : Mem} {a o : Nat} {T : TownA} (h : CP 5 lnW M a M' o) (hn : tW T ≤ 6) (c : TX M a T) : TX M' o T := TX_at c (fun k hk => h.1 k (by omega)) (fun k j hk hj => h.2 k j (by unfold lnW; rw [if_pos hk]; exact hj)) hn
theorem SX_CP {M M' : Mem} {a o : Nat} {S : SightA} (h : CP 1 lnG M a M' o) (hn : S.1 ≤ 10) (c : SX M a S) : SX M' o S := SX_at c (h.1 0 (by omega)) (fun k j hk hj => h.2 k j (by unfold lnG; rw [if_pos hk]; exact hj)) hn
/-- the told things of Told a copied to Told o -/
def CPs (M : Mem) (a : Nat) (M' : Mem) (o k : Nat) : Prop := CP 2 lnC M (a + 1 + k) M' (o + 1 + k) ∧ CP 1 lnL M (a + 3 + k) M' (o + 3 + k) ∧ CP 5 lnW M (a + 5 + k) M' (o + 5 + k) ∧ CP 1 lnG M (a + 7 + k) M' (o + 7 + k)
theorem takeT_lp {M M0 : Mem} {o a : Nat} (h : o + 9 ≤ a ∨ a + 9 ≤ o) (hF0 : FRo o M M0) (h1 : gI M0 o 1 = gI M a 1 ∧ gI M0 o 2 = gI M a 2 ∧ gI M0 o 3 = gI M a 3) (h2 : ∀ j, j < 600 → gA M0 o 0 j = gA M a 0 j) (h3 : ∀ j, j < 4 → gA M0 o 4 j = gA M a 4 j) : ∃ M', f_X5_take_56 o a FU (nI 0, M0) = some M' ∧ (gI M' o 1 = gI M a 1 ∧ gI M' o 2 = gI M a 2 ∧ gI M' o 3 = gI M a 3) ∧ (∀ j, j < 600 → gA M' o 0 j = gA M a 0 j) ∧ (∀ j, j < 4 → gA M' o 4 j = gA M a 4 j) ∧ (∀ k, k < 2 → CPs M a M' o k) ∧ ∀ x, ¬ (o ≤ x ∧ x < o + 9) → (∀ k, gI M' x k = gI M x k) ∧ ∀ k, gA M' x k = gA M x k := by
  unfold f_X5_take_56
  refine lpU_inv (fun i x => ∃ M', x = (nI i, M') ∧ ((∀ k, gI M' o k = gI M0 o k) ∧ ∀ k, gA M' o k = gA M0 o k) ∧ (∀ k, k < i → CPs M a M' o k) ∧ ∀ x, ¬ (o ≤ x ∧ x < o + 9) → (∀ k, gI M' x k = gI M x k) ∧ ∀ k, gA M' x k = gA M x k) 2 (fun z => ∃ M', z = some M' ∧ (gI M' o 1 = gI M a 1 ∧ gI M' o 2 = gI M a 2 ∧ gI M' o 3 = gI M a 3) ∧ (∀ j, j < 600 → gA M' o 0 j = gA M a 0 j) ∧ (∀ j, j < 4 → gA M' o 4 j = gA M a 4 j) ∧ (∀ k, k < 2 → CPs M a M' o k) ∧ ∀ x, ¬ (o ≤ x ∧ x < o + 9) → (∀ k, gI M' x k = gI M x k) ∧ ∀ k, gA M' x k = gA M x k) (by omega) ?_ ?_ 0 _ (Nat.zero_le _) ⟨M0, rfl, ⟨fun _ => rfl, fun _ => rfl⟩, fun k hk => by omega, fun x hx => hF0 x (by omega)⟩
  · rintro rc x ⟨M1, rfl, ho, hc, hf⟩
    show ∃ M', b_X5_take_56 o a _ (nI 2) M1 = _ ∧ _
    unfold b_X5_take_56
    rw [if_pos (nI_le (Nat.le_refl _) (by omega))]
    exact ⟨M1, rfl, ⟨by rw [ho.1]; exact h1.1, by rw [ho.1]; exact h1.2.1, by rw [ho.1]; exact h1.2.2⟩, fun j hj => by rw [ho.2]; exact h2 j hj, fun j hj => by rw [ho.2]; exact h3 j hj, hc, hf⟩
  · rintro rc i x hi ⟨M1, rfl, ho, hc, hf⟩
    refine Or.inr ?_
    show ∃ a', _ ∧ b_X5_take_56 o a _ (nI i) M1 = _
    unfold b_X5_take_56
    have hg : ∀ z : Option Mem, gin (nI i) 2 z = z := fun z => gin_n (by omega) (by omega)
    simp only [hg]
    rw [if_neg (nI_ge hi (by omega)), ix_n (by omega)]
    obtain ⟨N1, e1, c1, f1⟩ := take0_v (M := M1) (o := o + 1 + i) (a := a + 1 + i) (by omega)
    obtain ⟨N2, e2, c2, f2⟩ := take1_v (M := N1) (o := o + 3 + i) (a := a + 3 + i) (by omega)
    obtain ⟨N3, e3, c3, f3⟩ := take6_v (M := N2) (o := o + 5 + i) (a := a + 5 + i) (by omega)
    obtain ⟨N4, e4, c4, f4⟩ := take4_v (M := N3) (o := o + 7 + i) (a := a + 7 + i) (by omega)
    have same : ∀ x, ¬ x = o + 1 + i → ¬ x = o + 3 + i → ¬ x = o + 5 + i → ¬ x = o + 7 + i → (∀ k, gI N4 x k = gI M1 x k) ∧ ∀ k, gA N4 x k = gA M1 x k := fun x q1 q2 q3 q4 => ⟨fun k => by rw [(f4 x q4).1, (f3 x q3).1, (f2 x q2).1, (f1 x q1).1], fun k => by rw [(f4 x q4).2, (f3 x q3).2, (f2 x q2).2, (f1 x q1).2]⟩
    rw [e1, bn_s, e2, bn_s, e3, bn_s, e4, bn_s, nI_add, nm_s]
    refine ⟨_, ⟨N4, rfl, ?_, fun k hk => ?_, fun x hx => ?_⟩, rfl⟩
    · have s := same o (by omega) (by omega) (by omega) (by omega)
      exact ⟨fun k => by rw [s.1, ho.1], fun k => by rw [s.2, ho.2]⟩
    · by_cases q : k = i
      · subst q
        refine ⟨?_, ?_, ?_, ?_⟩
        · refine CP_src (CP_fr c1 ?_) (hf (a + 1 + k) (by omega))
          exact ⟨fun z => by rw [(f4 _ (by omega)).1, (f3 _ (by omega)).1, (f2 _ (by omega)).1], fun z => by rw [(f4 _ (by omega)).2, (f3 _ (by omega)).2, (f2 _ (by omega)).2]⟩
        · refine CP_src (CP_fr c2 ?_) ?_
          · exact ⟨fun z => by rw [(f4 _ (by omega)).1, (f3 _ (by omega)).1], fun z => by rw [(f4 _ (by omega)).2, (f3 _ (by omega)).2]⟩
          · exact ⟨fun z => by rw [(f1 _ (by omega)).1, (hf _ (by omega)).1], fun z => by rw [(f1 _ (by omega)).2, (hf _ (by omega)).2]⟩
        · refine CP_src (CP_fr c3 ?_) ?_
          · exact ⟨fun z => by rw [(f4 _ (by omega)).1], fun z => by rw [(f4 _ (by omega)).2]⟩
          · exact ⟨fun z => by rw [(f2 _ (by omega)).1, (f1 _ (by omega)).1, (hf _ (by omega)).1], fun z => by rw [(f2 _ (by omega)).2, (f1 _ (by omega)).2, (hf _ (by omega)).2]⟩
        · refine CP_src c4 ?_
          exact ⟨fun z => by rw [(f3 _ (by omega)).1, (f2 _ (by omega)).1, (f1 _ (by omega)).1, (hf _ (by omega)).1], fun z => by rw [(f3 _ (by omega)).2, (f2 _ (by omega)).2, (f1 _ (by omega)).2, (hf _ (by omega)).2]⟩
      · obtain ⟨d1, d2, d3, d4⟩ := hc k (by omega)
        exact ⟨CP_fr d1 (same _ (by omega) (by omega) (by omega) (by omega)), CP_fr d2 (same _ (by omega) (by omega) (by omega) (by omega)), CP_fr d3 (same _ (by omega) (by omega) (by omega) (by omega)), CP_fr d4 (same _ (by omega) (by omega) (by omega) (by omega))⟩
    · have s := same x (by omega) (by omega) (by omega) (by omega)
      exact ⟨fun k => by rw [s.1, (hf x hx).1], fun k => by rw [s.2, (hf x hx).2]⟩
def tkM (M : Mem) (o a : Nat) : Mem := cpA (sI (sI (sI (cpA M a 0 o 0 600) o 1 (gI M a 1)) o 2 (gI M a 2)) o 3 (gI M a 3)) a 4 o 4 4
theorem tkM_F (M : Mem) (o a : Nat) : FRo o M (tkM M o a) := FRo_tr (FRo_cpA _) (FRo_tr (FRo_sI _) (FRo_tr (FRo_sI _) (FRo_tr (FRo_sI _) (FRo_cpA _))))
theorem tkM_1 (M : Mem) {o a : Nat} (hao : ¬ a = o) : gI (tkM M o a) o 1 = gI M a 1 ∧ gI (tkM M o a) o 2 = gI M a 2 ∧ gI (tkM M o a) o 3 = gI M a 3 := by
  unfold tkM
  refine ⟨?_, ?_, ?_⟩
  · rw [gI_cpA, gI_sI, if_neg (by omega), gI_sI, if_neg (by omega), gI_sI, if_pos ⟨rfl, rfl⟩]
  · rw [gI_cpA, gI_sI, if_neg (by omega), gI_sI, if_pos ⟨rfl, rfl⟩]
  · rw [gI_cpA, gI_sI, if_pos ⟨rfl, rfl⟩]
theorem tkM_2 (M : Mem) {o a : Nat} (hao : ¬ a = o) {j : Nat} (hj : j < 600) : gA (tkM M o a) o 0 j = gA M a 0 j := by
  unfold tkM
  rw [gA_cpA, if_neg (by omega), gA_sI, gA_sI, gA_sI, gA_cpA, if_pos ⟨rfl, rfl, hj⟩]
theorem tkM_3 (M : Mem) {o a : Nat} (hao : ¬ a = o) {j : Nat} (hj : j < 4) : gA (tkM M o a) o 4 j = gA M a 4 j := by
  unfold tkM
  rw [gA_cpA, if_pos ⟨rfl, rfl, hj⟩, gA_sI, gA_sI, gA_sI, gA_cpA, if_neg (by omega)]
theorem tkM_e (M : Mem) {o a : Nat} (hao : ¬ a = o) : f_X5_take M o a = f_X5_take_56 o a FU (nI 0, tkM M o a) := by
  have e2 : gI (sI (cpA M a 0 o 0 600) o 1 (gI M a 1)) a 2 = gI M a 2 := by rw [gI_sI, if_neg (by omega), gI_cpA]
  have e3 : gI (sI (sI (cpA M a 0 o 0 600) o 1 (gI M a 1)) o 2 (gI M a 2)) a 3 = gI M a 3 := by rw [gI_sI, if_neg (by omega), gI_sI, if_neg (by omega), gI_cpA]
  unfold f_X5_take
  rw [nm_s, nm_s, gI_cpA, nm_s, e2, nm_s, e3, nm_s]
  unfold tkM
  generalize f_X5_take_56 o a FU = f
  rfl
theorem takeT_v {M : Mem} {o a : Nat} (h : o + 9 ≤ a ∨ a + 9 ≤ o) : ∃ M', f_X5_take M o a = some M' ∧ (gI M' o 1 = gI M a 1 ∧ gI M' o 2 = gI M a 2 ∧ gI M' o 3 = gI M a 3) ∧ (∀ j, j < 600 → gA M' o 0 j = gA M a 0 j) ∧ (∀ j, j < 4 → gA M' o 4 j = gA M a 4 j) ∧ (∀ k, k < 2 → CPs M a M' o k) ∧ ∀ x, ¬ (o ≤ x ∧ x < o + 9) → (∀ k, gI M' x k = gI M x k) ∧ ∀ k, gA M' x k = gA M x k := by
  have hao : ¬ a = o := by omega
  rw [tkM_e M hao]
  exact takeT_lp h (tkM_F M o a) (tkM_1 M hao) (fun j hj => tkM_2 M hao hj) (fun j hj => tkM_3 M hao hj)
theorem copyRow_v {M : Mem} {row n f t A B L : Nat} (hA : nI n * nI f = nI A) (hB : nI n * nI t = nI B) (hL : ln 10 row = L) (h1 : A + n ≤ L) (h2 : B + n ≤ L) (h3 : A + n ≤ B ∨ B + n ≤ A) (hn : n < 5000) (hL2 : L < 5000) : ∃ M', f_X10_copyRow M row (nI n) (nI f) (nI t) = some M' ∧ FK 100 (p1 row) M M' ∧ (∀ j, j < n → gA M' 100 row (B + j) = gA M 100 row (A + j)) ∧ ∀ j, ¬ (B ≤ j ∧ j < B + n) → gA M' 100 row j = gA M 100 row j := by
  unfold f_X10_copyRow f_X10_copyRow_3
  refine lpU_inv (fun i x => ∃ M', x = (nI i, M') ∧ FK 100 (p1 row) M M' ∧ (∀ j, j < i → gA M' 100 row (B + j) = gA M 100 row (A + j)) ∧ ∀ j, ¬ (B ≤ j ∧ j < B + i) → gA M' 100 row j = gA M 100 row j) n (fun z => ∃ M', z = some M' ∧ FK 100 (p1 row) M M' ∧ (∀ j, j < n → gA M' 100 row (B + j) = gA M 100 row (A + j)) ∧ ∀ j, ¬ (B ≤ j ∧ j < B + n) → gA M' 100 row j = gA M 100 row j) hn ?_ ?_ 0 _ (Nat.zero_le _) ⟨M, rfl, FK_rf M, fun j hj => by omega, fun j _ => rfl⟩
  · rintro rc x ⟨M1, rfl, hf, hc, hr⟩
    show ∃ M', b_X10_copyRow_3 row (nI n) (nI f) (nI t) _ (nI n) M1 = _ ∧ _
    unfold b_X10_copyRow_3
    rw [if_pos (nI_le (Nat.le_refl _) (by omega))]
    exact ⟨M1, rfl, hf, hc, hr⟩
  · rintro rc i x hi ⟨M1, rfl, hf, hc, hr⟩
    refine Or.inr ?_
    show ∃ a', _ ∧ b_X10_copyRow_3 row (nI n) (nI f) (nI t) _ (nI i) M1 = _
    unfold b_X10_copyRow_3
    rw [if_neg (nI_ge hi (by omega)), hA, hB, nI_add, nI_add, hL, gin_n (by omega) (by omega), gin_n (by omega) (by omega), ix_n (by omega), ix_n (by omega), nm_s, nI_add, nm_s, hr (A + i) (by omega)]
    refine ⟨_, ⟨_, rfl, FK_tr hf (FK_sA _ (p1_r row)), fun j hj => ?_, fun j hj => ?_⟩, rfl⟩
    · rw [gA_sA]
      by_cases q : j = i
      · rw [if_pos ⟨rfl, rfl, by omega⟩, q]
      · rw [if_neg (fun z => q (by omega))]
        exact hc j (by omega)
    · rw [gA_sA, if_neg (by omega)]
      exact hr j (by omega)
theorem i8_i8 (x : Int32) : (Int8.toInt32 (Int32.toInt8 x)).toInt8 = x.toInt8 := Int8.toInt8_toInt32 _
theorem copyAll_v {M : Mem} {f t : Nat} (hf : f ≤ 3) (ht : t ≤ 3) (hne : ¬ f = t) : ∃ M', f_X10_copyAll M (nI f) (nI t) = some M' ∧ (∀ j, j < 600 → (gA M' 100 1 (600 * t + j)).toInt8 = (gA M 100 1 (600 * f + j)).toInt8) ∧ (∀ j, ¬ (600 * t ≤ j ∧ j < 600 * t + 600) → gA M' 100 1 j = gA M 100 1 j) ∧ (∀ k, 2 ≤ k → k ≤ 4 → gA M' 100 k t = gA M 100 k f ∧ ∀ j, ¬ j = t → gA M' 100 k j = gA M 100 k j) ∧ (∀ k w, (k = 5 ∧ w = 4) ∨ (k = 6 ∧ w = 276) ∨ (k = 7 ∧ w = 162) ∨ (k = 8 ∧ w = 82) ∨ (k = 9 ∧ w = 62) → (∀ j, j < w → gA M' 100 k (w * t + j) = gA M 100 k (w * f + j)) ∧ ∀ j, ¬ (w * t ≤ j ∧ j < w * t + w) → gA M' 100 k j = gA M 100 k j) ∧ gA M' 100 57 = gA M 100 57 := by
  have rows : ∀ M0 : Mem, FK 100 (p1 1) M M0 → (∀ j, j < 600 → (gA M0 100 1 (600 * t + j)).toInt8 = (gA M 100 1 (600 * f + j)).toInt8) → (∀ j, ¬ (600 * t ≤ j ∧ j < 600 * t + 600) → gA M0 100 1 j = gA M 100 1 j) → ∃ M', (bn (f_X10_copyRow M0 2 (nI 1) (nI f) (nI t)) fun M3 => bn (f_X10_copyRow M3 3 (nI 1) (nI f) (nI t)) fun M5 => bn (f_X10_copyRow M5 4 (nI 1) (nI f) (nI t)) fun M7 => bn (f_X10_copyRow M7 5 (nI 4) (nI f) (nI t)) fun M9 => bn (f_X10_copyRow M9 6 (nI 276) (nI f) (nI t)) fun M11 => bn (f_X10_copyRow M11 7 (nI 162) (nI f) (nI t)) fun M13 => bn (f_X10_copyRow M13 8 (nI 82) (nI f) (nI t)) fun M15 => bn (f_X10_copyRow M15 9 (nI 62) (nI f) (nI t)) fun M17 => some M17) = some M' ∧ (∀ j, j < 600 → (gA M' 100 1 (600 * t + j)).toInt8 = (gA M 100 1 (600 * f + j)).toInt8) ∧ (∀ j, ¬ (600 * t ≤ j ∧ j < 600 * t + 600) → gA M' 100 1 j = gA M 100 1 j) ∧ (∀ k, 2 ≤ k → k ≤ 4 → gA M' 100 k t = gA M 100 k f ∧ ∀ j, ¬ j = t → gA M' 100 k j = gA M 100 k j) ∧ (∀ k w, (k = 5 ∧ w = 4) ∨ (k = 6 ∧ w = 276) ∨ (k = 7 ∧ w = 162) ∨ (k = 8 ∧ w = 82) ∨ (k = 9 ∧ w = 62) → (∀ j, j < w → gA M' 100 k (w * t + j) = gA M 100 k (w * f + j)) ∧ ∀ j, ¬ (w * t ≤ j ∧ j < w * t + w) → gA M' 100 k j = gA M 100 k j) ∧ gA M' 100 57 = gA M 100 57 := by
    intro M0 g0 a1 a2
    have one : ∀ (x : Nat), nI 1 * nI x = nI (1 * x) := fun x => pk_mul 1 x
    obtain ⟨N2, e2, k2, c2, r2⟩ := copyRow_v (M := M0) (row := 2) (n := 1) (f := f) (t := t) (L := 4) (pk_mul 1 f) (pk_mul 1 t) rfl (by omega) (by omega) (by omega) (by omega) (by omega)
    obtain ⟨N3, e3, k3, c3, r3⟩ := copyRow_v (M := N2) (row := 3) (n := 1) (f := f) (t := t) (L := 4) (pk_mul 1 f) (pk_mul 1 t) rfl (by omega) (by omega) (by omega) (by omega) (by omega)
    obtain ⟨N4, e4, k4, c4, r4⟩ := copyRow_v (M := N3) (row := 4) (n := 1) (f := f) (t := t) (L := 4) (pk_mul 1 f) (pk_mul 1 t) rfl (by omega) (by omega) (by omega) (by omega) (by omega)
    obtain ⟨N5, e5, k5, c5, r5⟩ := copyRow_v (M := N4) (row := 5) (n := 4) (f := f) (t := t) (L := 16) (pk_mul 4 f) (pk_mul 4 t) rfl (by omega) (by omega) (by omega) (by omega) (by omega)
    obtain ⟨N6, e6, k6, c6, r6⟩ := copyRow_v (M := N5) (row := 6) (n := 276) (f := f) (t := t) (L := 1104) (pk_mul 276 f) (pk_mul 276 t) rfl (by omega) (by omega) (by omega) (by omega) (by omega)
    obtain ⟨N7, e7, k7, c7, r7⟩ := copyRow_v (M := N6) (row := 7) (n := 162) (f := f) (t := t) (L := 648) (pk_mul 162 f) (pk_mul 162 t) rfl (by omega) (by omega) (by omega) (by omega) (by omega)
    obtain ⟨N8, e8, k8, c8, r8⟩ := copyRow_v (M := N7) (row := 8) (n := 82) (f := f) (t := t) (L := 328) (pk_mul 82 f) (pk_mul 82 t) rfl (by omega) (by omega) (by omega) (by omega) (by omega)
    obtain ⟨N9, e9, k9, c9, r9⟩ := copyRow_v (M := N8) (row := 9) (n := 62) (f := f) (t := t) (L := 248) (pk_mul 62 f) (pk_mul 62 t) rfl (by omega) (by omega) (by omega) (by omega) (by omega)
    rw [e2, bn_s, e3, bn_s, e4, bn_s, e5, bn_s, e6, bn_s, e7, bn_s, e8, bn_s, e9, bn_s]
    have o9 : ∀ k, ¬ k = 9 → gA N9 100 k = gA N8 100 k := fun k q => FK_o k9 q
    have o8 : ∀ k, ¬ k = 8 → gA N8 100 k = gA N7 100 k := fun k q => FK_o k8 q
    have o7 : ∀ k, ¬ k = 7 → gA N7 100 k = gA N6 100 k := fun k q => FK_o k7 q
    have o6 : ∀ k, ¬ k = 6 → gA N6 100 k = gA N5 100 k := fun k q => FK_o k6 q
    have o5 : ∀ k, ¬ k = 5 → gA N5 100 k = gA N4 100 k := fun k q => FK_o k5 q
    have o4 : ∀ k, ¬ k = 4 → gA N4 100 k = gA N3 100 k := fun k q => FK_o k4 q
    have o3 : ∀ k, ¬ k = 3 → gA N3 100 k = gA N2 100 k := fun k q => FK_o k3 q
    have o2 : ∀ k, ¬ k = 2 → gA N2 100 k = gA M0 100 k := fun k q => FK_o k2 q
    have o0 : ∀ k, ¬ k = 1 → gA M0 100 k = gA M 100 k := fun k q => FK_o g0 q
    have t1 : gA N9 100 1 = gA M0 100 1 := by rw [o9 1 (by omega), o8 1 (by omega), o7 1 (by omega), o6 1 (by omega), o5 1 (by omega), o4 1 (by omega), o3 1 (by omega), o2 1 (by omega)]
    have f2 : gA N9 100 2 = gA N2 100 2 := by rw [o9 2 (by omega), o8 2 (by omega), o7 2 (by omega), o6 2 (by omega), o5 2 (by omega), o4 2 (by omega), o3 2 (by omega)]
    have f3 : gA N9 100 3 = gA N3 100 3 := by rw [o9 3 (by omega), o8 3 (by omega), o7 3 (by omega), o6 3 (by omega), o5 3 (by omega), o4 3 (by omega)]
    have s3 : gA N2 100 3 = gA M 100 3 := by rw [o2 3 (by omega), o0 3 (by omega)]
    have f4 : gA N9 100 4 = gA N4 100 4 := by rw [o9 4 (by omega), o8 4 (by omega), o7 4 (by omega), o6 4 (by omega), o5 4 (by omega)]
    have s4 : gA N3 100 4 = gA M 100 4 := by rw [o3 4 (by omega), o2 4 (by omega), o0 4 (by omega)]
    have f5 : gA N9 100 5 = gA N5 100 5 := by rw [o9 5 (by omega), o8 5 (by omega), o7 5 (by omega), o6 5 (by omega)]
    have s5 : gA N4 100 5 = gA M 100 5 := by rw [o4 5 (by omega), o3 5 (by omega), o2 5 (by omega), o0 5 (by omega)]
    have f6 : gA N9 100 6 = gA N6 100 6 := by rw [o9 6 (by omega), o8 6 (by omega), o7 6 (by omega)]
    have s6 : gA N5 100 6 = gA M 100 6 := by rw [o5 6 (by omega), o4 6 (by omega), o3 6 (by omega), o2 6 (by omega), o0 6 (by omega)]
    have f7 : gA N9 100 7 = gA N7 100 7 := by rw [o9 7 (by omega), o8 7 (by omega)]
    have s7 : gA N6 100 7 = gA M 100 7 := by rw [o6 7 (by omega), o5 7 (by omega), o4 7 (by omega), o3 7 (by omega), o2 7 (by omega), o0 7 (by omega)]
    have f8 : gA N9 100 8 = gA N8 100 8 := by rw [o9 8 (by omega)]
    have s8 : gA N7 100 8 = gA M 100 8 := by rw [o7 8 (by omega), o6 8 (by omega), o5 8 (by omega), o4 8 (by omega), o3 8 (by omega), o2 8 (by omega), o0 8 (by omega)]
    have s9 : gA N8 100 9 = gA M 100 9 := by rw [o8 9 (by omega), o7 9 (by omega), o6 9 (by omega), o5 9 (by omega), o4 9 (by omega), o3 9 (by omega), o2 9 (by omega), o0 9 (by omega)]
    have s57 : gA N9 100 57 = gA M 100 57 := by rw [o9 57 (by omega), o8 57 (by omega), o7 57 (by omega), o6 57 (by omega), o5 57 (by omega), o4 57 (by omega), o3 57 (by omega), o2 57 (by omega), o0 57 (by omega)]
    refine ⟨N9, rfl, fun j hj => by rw [t1]; exact a1 j hj, fun j hj => by rw [t1]; exact a2 j hj, fun k h2 h4 => ?_, fun k w hkw => ?_, s57⟩
    · have hk : k = 2 ∨ k = 3 ∨ k = 4 := by omega
      rcases hk with rfl | rfl | rfl
      · have h := c2 0 (by omega)
        rw [Nat.add_zero, Nat.add_zero, Nat.one_mul, Nat.one_mul, o0 2 (by omega)] at h
        exact ⟨by rw [f2]; exact h, fun j hj => by rw [f2, r2 j (by omega), o0 2 (by omega)]⟩
      · have h := c3 0 (by omega)
        rw [Nat.add_zero, Nat.add_zero, Nat.one_mul, Nat.one_mul, s3] at h
        exact ⟨by rw [f3]; exact h, fun j hj => by rw [f3, r3 j (by omega), s3]⟩
      · have h := c4 0 (by omega)
        rw [Nat.add_zero, Nat.add_zero, Nat.one_mul, Nat.one_mul, s4] at h
        exact ⟨by rw [f4]; exact h, fun j hj => by rw [f4, r4 j (by omega), s4]⟩
    · rcases hkw with ⟨rfl, rfl⟩ | ⟨rfl, rfl⟩ | ⟨rfl, rfl⟩ | ⟨rfl, rfl⟩ | ⟨rfl, rfl⟩
      · exact ⟨fun j hj => by rw [f5, c5 j hj, s5], fun j hj => by rw [f5, r5 j hj, s5]⟩
      · exact ⟨fun j hj => by rw [f6, c6 j hj, s6], fun j hj => by rw [f6, r6 j hj, s6]⟩
      · exact ⟨fun j hj => by rw [f7, c7 j hj, s7], fun j hj => by rw [f7, r7 j hj, s7]⟩
      · exact ⟨fun j hj => by rw [f8, c8 j hj, s8], fun j hj => by rw [f8, r8 j hj, s8]⟩
      · exact ⟨fun j hj => by rw [c9 j hj, s9], fun j hj => by rw [r9 j hj, s9]⟩
  unfold f_X10_copyAll f_X10_copyAll_2
  refine lpU_inv (fun i x => ∃ M', x = (nI i, M') ∧ FK 100 (p1 1) M M' ∧ (∀ j, j < i → (gA M' 100 1 (600 * t + j)).toInt8 = (gA M 100 1 (600 * f + j)).toInt8) ∧ ∀ j, ¬ (600 * t ≤ j ∧ j < 600 * t + i) → gA M' 100 1 j = gA M 100 1 j) 600 (fun z => ∃ M', z = some M' ∧ (∀ j, j < 600 → (gA M' 100 1 (600 * t + j)).toInt8 = (gA M 100 1 (600 * f + j)).toInt8) ∧ (∀ j, ¬ (600 * t ≤ j ∧ j < 600 * t + 600) → gA M' 100 1 j = gA M 100 1 j) ∧ (∀ k, 2 ≤ k → k ≤ 4 → gA M' 100 k t = gA M 100 k f ∧ ∀ j, ¬ j = t → gA M' 100 k j = gA M 100 k j) ∧ (∀ k w, (k = 5 ∧ w = 4) ∨ (k = 6 ∧ w = 276) ∨ (k = 7 ∧ w = 162) ∨ (k = 8 ∧ w = 82) ∨ (k = 9 ∧ w = 62) → (∀ j, j < w → gA M' 100 k (w * t + j) = gA M 100 k (w * f + j)) ∧ ∀ j, ¬ (w * t ≤ j ∧ j < w * t + w) → gA M' 100 k j = gA M 100 k j) ∧ gA M' 100 57 = gA M 100 57) (by omega) ?_ ?_ 0 _ (Nat.zero_le _) ⟨M, rfl, FK_rf M, fun j hj => by omega, fun j _ => rfl⟩
  · rintro rc x ⟨M1, rfl, hk, hc, hr⟩
    show ∃ M', b_X10_copyAll_2 (nI f) (nI t) _ (nI 600) M1 = _ ∧ _
    unfold b_X10_copyAll_2
    rw [if_pos (nI_le (Nat.le_refl _) (by omega))]
    exact rows M1 hk hc hr
  · rintro rc i x hi ⟨M1, rfl, hk, hc, hr⟩
    refine Or.inr ?_
    show ∃ a', _ ∧ b_X10_copyAll_2 (nI f) (nI t) _ (nI i) M1 = _
    unfold b_X10_copyAll_2
    rw [if_neg (nI_ge hi (by omega)), pk_mul, pk_mul, nI_add, nI_add, gin_n (by omega) (by omega), gin_n (by omega) (by omega), ix_n (by omega), ix_n (by omega), nm_s, nI_add, nm_s]
    refine ⟨_, ⟨_, rfl, FK_tr hk (FK_sA _ (p1_r 1)), fun j hj => ?_, fun j hj => ?_⟩, rfl⟩
    · rw [gA_sA]
      by_cases q : j = i
      · rw [if_pos ⟨rfl, rfl, by omega⟩, i8_i8, q, hr _ (by omega)]
      · rw [if_neg (fun z => q (by omega))]
        exact hc j (by omega)
    · rw [gA_sA, if_neg (by omega)]
      exact hr j (by omega)
/-- a Told and its copy hold the same again, when both sides copy -/
theorem RT_copy {Mx Mx' Mm Mm' : Mem} {a o f t : Nat} (h : RT Mx Mm a f) (x1 : gI Mx' o 1 = gI Mx a 1 ∧ gI Mx' o 2 = gI Mx a 2 ∧ gI Mx' o 3 = gI Mx a 3) (x2 : ∀ j, j < 600 → gA Mx' o 0 j = gA Mx a 0 j) (x3 : ∀ j, j < 4 → gA Mx' o 4 j = gA Mx a 4 j) (x4 : ∀ k, k < 2 → CPs Mx a Mx' o k) (m1 : ∀ j, j < 600 → (gA Mm' 100 1 (600 * t + j)).toInt8 = (gA Mm 100 1 (600 * f + j)).toInt8) (m2 : ∀ k, 2 ≤ k → k ≤ 4 → gA Mm' 100 k t = gA Mm 100 k f) (m3 : ∀ k w, (k = 5 ∧ w = 4) ∨ (k = 6 ∧ w = 276) ∨ (k = 7 ∧ w = 162) ∨ (k = 8 ∧ w = 82) ∨ (k = 9 ∧ w = 62) → ∀ j, j < w → gA Mm' 100 k (w * t + j) = gA Mm 100 k (w * f + j)) : RT Mx' Mm' o t := by
  obtain ⟨⟨⟨n, a1, a2, a3⟩, b, c1, c2⟩, d⟩ := RT_ab.mp h
  refine RT_ab.mpr ⟨⟨⟨n, a1, by rw [x1.1]; exact a2, by rw [m2 2 (by omega) (by omega)]; exact a3⟩, fun j hj => by rw [x2 j hj, m1 j hj]; exact b j hj, by rw [x1.2.1, m2 3 (by omega) (by omega)]; exact c1, by rw [x1.2.2, m2 4 (by omega) (by omega)]; exact c2⟩, ?_⟩
  exact RTb_at d x3 (fun k hk C hn c => CX_CP (x4 k hk).1 hn c) (fun k hk L hn c => LX_CP (x4 k hk).2.1 hn c) (fun k hk T hn c => TX_CP (x4 k hk).2.2.1 hn c) (fun k hk S hn c => SX_CP (x4 k hk).2.2.2 hn c) (m3 5 4 (by omega)) (m3 6 276 (by omega)) (m3 7 162 (by omega)) (m3 8 82 (by omega)) (m3 9 62 (by omega))
/-- a Told that neither side touches -/
theorem RT_keep {Mx Mx' Mm Mm' : Mem} {o i : Nat} (h : RT Mx Mm o i) (x : ∀ q, o ≤ q → q < o + 9 → (∀ k, gI Mx' q k = gI Mx q k) ∧ ∀ k, gA Mx' q k = gA Mx q k) (m1 : ∀ j, j < 600 → gA Mm' 100 1 (600 * i + j) = gA Mm 100 1 (600 * i + j)) (m2 : ∀ k, 2 ≤ k → k ≤ 4 → gA Mm' 100 k i = gA Mm 100 k i) (m3 : ∀ k w, (k = 5 ∧ w = 4) ∨ (k = 6 ∧ w = 276) ∨ (k = 7 ∧ w = 162) ∨ (k = 8 ∧ w = 82) ∨ (k = 9 ∧ w = 62) → ∀ j, j < w → gA Mm' 100 k (w * i + j) = gA Mm 100 k (w * i + j)) : RT Mx' Mm' o i := by
  obtain ⟨c1, d⟩ := RT_ab.mp h
  have hx := x o (Nat.le_refl _) (by omega)
  refine RT_ab.mpr ⟨RTa_cg c1 hx.1 hx.2 m1 ⟨m2 2 (by omega) (by omega), m2 3 (by omega) (by omega), m2 4 (by omega) (by omega)⟩, ?_⟩
  exact RTb_at d (fun s _ => by rw [hx.2]) (fun k hk C _ c => CX_cg (x _ (by omega) (by omega)) c) (fun k hk L _ c => LX_cg (x _ (by omega) (by omega)) c) (fun k hk T _ c => TX_cg (x _ (by omega) (by omega)) c) (fun k hk S _ c => SX_cg (x _ (by omega) (by omega)) c) (m3 5 4 (by omega)) (m3 6 276 (by omega)) (m3 7 162 (by omega)) (m3 8 82 (by omega)) (m3 9 62 (by omega))
theorem q_again {Mx Mm : Mem} (H : Rl Mx Mm) (a : Int32) : EqZ Mx Mm (f_X9_again Mx a) (f_X10_again Mm a) := by
  have h0 := FM_sI Mm (o := 100) (k := 0) (v := nI 0)
  have hR := Rl_fr H (FX_rf Mx) h0
  unfold f_X9_again f_X10_again
  rw [nm_s (sI Mm 100 0 (nI 0))]
  rcases int_cases a with ha | ⟨j, hj, rfl⟩
  · rw [if_pos (show a < nI 0 from ha), in_neg ha 0 (by omega)]
    exact ⟨_, _, _, rfl, rfl, hR⟩
  rw [if_neg (n_nneg hj), in_n hj (by omega) (by omega), bn_s, ite_p (le_n (by omega) hj)]
  by_cases c : j < 3
  · obtain ⟨H1, H2⟩ := H
    have hg : ∀ z : Option (Bool × Mem), gin (nI j) 3 z = z := fun z => gin_n (by omega) (by omega)
    rw [if_neg (by omega), if_pos (dT (by omega))]
    simp only [hg]
    rw [ix_n hj, show gA (sI Mm 100 0 (nI 0)) 100 57 j = gA Mm 100 57 j from rfl]
    rcases H2 j c with ⟨k1, k2⟩ | ⟨k1, k2, k3⟩
    · unfold imgAt
      rw [if_pos k1, opt_none, k2, if_pos rfl]
      exact ⟨_, _, _, rfl, rfl, hR⟩
    · obtain ⟨M1, e1, x1, x2, x3, x4, x5⟩ := takeT_v (M := Mx) (o := 1) (a := 21 + 9 * j) (by omega)
      obtain ⟨M2, e2, m1, m2, m3, m4, m5⟩ := copyAll_v (M := sI Mm 100 0 (nI 0)) (f := j + 1) (t := 0) (by omega) (by omega) (by omega)
      unfold imgAt
      rw [if_neg k1, opt_some, opt_some, e1, bn_s, k2, if_neg (ne_n (by omega) (by omega) (by omega)), nI_add, e2, bn_s]
      refine ⟨_, _, _, rfl, rfl, RT_copy k3 x1 x2 x3 x4 m1 (fun k h2 h4 => (m3 k h2 h4).1) (fun k w h => (m4 k w h).1), fun i hi => ?_⟩
      rw [(x5 0 (by omega)).2, m5]
      rcases H2 i hi with ⟨l1, l2⟩ | ⟨l1, l2, l3⟩
      · exact Or.inl ⟨l1, l2⟩
      · refine Or.inr ⟨l1, l2, RT_keep l3 (fun q q1 q2 => x5 q (by omega)) (fun q hq => m2 _ (by omega)) (fun k h2 h4 => (m3 k h2 h4).2 _ (by omega)) (fun k w h q hq => (m4 k w h).2 _ ?_)⟩
        rcases h with ⟨-, rfl⟩ | ⟨-, rfl⟩ | ⟨-, rfl⟩ | ⟨-, rfl⟩ | ⟨-, rfl⟩ <;> omega
  · rw [if_pos (by omega), if_neg (dF (by omega))]
    exact ⟨_, _, _, rfl, rfl, hR⟩
/-- image: the class has made room (or has it), then copies -/
theorem q_img {Mx Mm : Mem} (H : Rl Mx Mm) {j : Nat} (hj : j < 3) {M0 : Mem} (x0 : ∀ o, (o < 10 ∨ 21 ≤ o) → ¬ (21 + 9 * j ≤ o ∧ o < 21 + 9 * j + 9) → (∀ k, gI M0 o k = gI Mx o k) ∧ ∀ k, ¬ (o = 0 ∧ k = 1) → gA M0 o k = gA Mx o k) (x1 : ∀ i, ¬ i = j → gA M0 0 1 i = gA Mx 0 1 i) (x2 : ¬ gA M0 0 1 j = 0) : ∃ Mx' Mm', f_X5_take M0 (21 + 9 * j) 1 = some Mx' ∧ f_X10_image Mm (nI j) = some (true, Mm') ∧ Rl Mx' Mm' := by
  obtain ⟨H1, H2⟩ := H
  obtain ⟨M1, e1, y1, y2, y3, y4, y5⟩ := takeT_v (M := M0) (o := 21 + 9 * j) (a := 1) (by omega)
  obtain ⟨M2, e2, m1, m2, m3, m4, m5⟩ := copyAll_v (M := sI Mm 100 0 (nI 0)) (f := 0) (t := j + 1) (by omega) (by omega) (by omega)
  have hx : ∀ q, 1 ≤ q → (q < 10 ∨ 21 ≤ q) → ¬ (21 + 9 * j ≤ q ∧ q < 21 + 9 * j + 9) → (∀ k, gI M1 q k = gI Mx q k) ∧ ∀ k, gA M1 q k = gA Mx q k := fun q q1 q2 q3 => ⟨fun k => by rw [(y5 q q3).1, (x0 q q2 q3).1], fun k => by rw [(y5 q q3).2, (x0 q q2 q3).2 k (by omega)]⟩
  have hT : RT M0 (sI Mm 100 0 (nI 0)) 1 0 := RT_keep H1 (fun q q1 q2 => ⟨(x0 q (by omega) (by omega)).1, fun k => (x0 q (by omega) (by omega)).2 k (by omega)⟩) (fun _ _ => rfl) (fun _ _ _ => rfl) (fun _ _ _ _ _ => rfl)
  have hk1 : RT M1 (sA M2 100 57 j (b2i true)) 1 0 := by
    refine RT_keep H1 (fun q q1 q2 => hx q q1 (by omega) (by omega)) (fun q hq => ?_) (fun k h2 h4 => ?_) (fun k w h q hq => ?_)
    · rw [gA_sA, if_neg (by omega), m2 _ (by omega)]; rfl
    · rw [gA_sA, if_neg (by omega), (m3 k h2 h4).2 _ (by omega)]; rfl
    · rw [gA_sA, if_neg (by omega), (m4 k w h).2 _ (by rcases h with ⟨-, rfl⟩ | ⟨-, rfl⟩ | ⟨-, rfl⟩ | ⟨-, rfl⟩ | ⟨-, rfl⟩ <;> omega)]; rfl
  refine ⟨M1, sA M2 100 57 j (b2i true), e1, ?_, hk1, fun i hi => ?_⟩
  · unfold f_X10_image
    rw [nm_s, in_n (by omega) (by omega) (by omega), bn_s, if_pos (dT (by omega)), nI_add, e2, bn_s, gin_n (by omega) (by omega), ix_n (by omega), nm_s]
  · rw [(y5 0 (by omega)).2]
    by_cases q : i = j
    · subst q
      refine Or.inr ⟨x2, by rw [gA_sA, if_pos ⟨rfl, rfl, rfl⟩]; rfl, ?_⟩
      refine RT_copy hT y1 y2 y3 y4 (fun z hz => ?_) (fun k h2 h4 => ?_) (fun k w h z hz => ?_)
      · rw [gA_sA, if_neg (by omega)]; exact m1 z hz
      · rw [gA_sA, if_neg (by omega)]; exact (m3 k h2 h4).1
      · rw [gA_sA, if_neg (by omega)]; exact (m4 k w h).1 z hz
    · rw [x1 i q, gA_sA, if_neg (fun z => q z.2.2), m5]
      rcases H2 i hi with ⟨l1, l2⟩ | ⟨l1, l2, l3⟩
      · exact Or.inl ⟨l1, l2⟩
      · refine Or.inr ⟨l1, l2, RT_keep l3 (fun z z1 z2 => hx z (by omega) (by omega) (by omega)) (fun z hz => ?_) (fun k h2 h4 => ?_) (fun k w h z hz => ?_)⟩
        · rw [gA_sA, if_neg (by omega), m2 _ (by omega)]; rfl
        · rw [gA_sA, if_neg (by omega), (m3 k h2 h4).2 _ (by omega)]; rfl
        · rw [gA_sA, if_neg (by omega), (m4 k w h).2 _ (by rcases h with ⟨-, rfl⟩ | ⟨-, rfl⟩ | ⟨-, rfl⟩ | ⟨-, rfl⟩ | ⟨-, rfl⟩ <;> omega)]; rfl
theorem q_img_n {Mx Mm : Mem} (H : Rl Mx Mm) {a : Int32} (ha : a < 0 ∨ ∃ j, 3 ≤ j ∧ j < 2147483648 ∧ a = nI j) : ∃ Mm', f_X10_image Mm a = some (false, Mm') ∧ Rl Mx Mm' := by
  have h0 := FM_sI Mm (o := 100) (k := 0) (v := nI 0)
  have hR := Rl_fr H (FX_rf Mx) h0
  unfold f_X10_image
  rw [nm_s]
  rcases ha with ha | ⟨j, h1, h2, rfl⟩
  · rw [in_neg ha 0 (by omega)]
    exact ⟨_, rfl, hR⟩
  · rw [in_n h2 (by omega) (by omega), bn_s, if_neg (dF (by omega))]
    exact ⟨_, rfl, hR⟩
