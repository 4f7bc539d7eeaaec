/-! SIGHTS: what each side makes of them -/
theorem mx_dn {a b : Nat} (ha : a < 1000) (hb : b < 1000) : mxI (dnI a) (nI b) = dnI (max a (b + 1)) := by
  by_cases q : a = 0
  · subst q
    unfold mxI
    rw [if_pos (neg_lt dnI_0 b (by omega)), Nat.max_eq_right (Nat.zero_le _), dnI_s]
  · obtain ⟨c, rfl⟩ : ∃ c, a = c + 1 := ⟨a - 1, by omega⟩
    rw [dnI_s, mx_n (by omega) (by omega), show max (c + 1) (b + 1) = max c b + 1 by omega, dnI_s]
theorem dn_lt {a n : Nat} (ha : a < 1000) (hn : n < 1000) : (dnI a < nI n) = (a ≤ n) := by
  by_cases q : a = 0
  · subst q
    exact propext ⟨fun _ => Nat.zero_le _, fun _ => neg_lt dnI_0 n (by omega)⟩
  · obtain ⟨c, rfl⟩ : ∃ c, a = c + 1 := ⟨a - 1, by omega⟩
    rw [dnI_s, lt_n (by omega) (by omega)]
    rfl
def hsN (S : SightA) : Nat → Nat
  | 0 => 0
  | m + 1 => if S.2.1 m = 0 then max (max (hsN S m) (S.2.2.1 m + 1)) (S.2.2.2 m + 1) else max (hsN S m) (S.2.2.1 m + 1)
theorem hsN_le (S : SightA) (n : Nat) : ∀ m, hsN S m ≤ n ↔ ∀ k, k < m → S.2.2.1 k < n ∧ (S.2.1 k = 0 → S.2.2.2 k < n) := by
  intro m
  induction m with
  | zero => exact ⟨fun _ k hk => by omega, fun _ => Nat.zero_le _⟩
  | succ m ih =>
    show (if S.2.1 m = 0 then max (max (hsN S m) (S.2.2.1 m + 1)) (S.2.2.2 m + 1) else max (hsN S m) (S.2.2.1 m + 1)) ≤ n ↔ _
    by_cases q : S.2.1 m = 0
    · rw [if_pos q]
      constructor
      · intro h k hk
        have h1 := ih.mp (by omega)
        by_cases r : k = m
        · subst r; exact ⟨by omega, fun _ => by omega⟩
        · exact h1 k (by omega)
      · intro h
        have h1 := ih.mpr (fun k hk => h k (by omega))
        have h2 := h m (by omega)
        have h3 := h2.2 q
        have h4 := h2.1
        omega
    · rw [if_neg q]
      constructor
      · intro h k hk
        have h1 := ih.mp (by omega)
        by_cases r : k = m
        · subst r; exact ⟨by omega, fun z => absurd z q⟩
        · exact h1 k (by omega)
      · intro h
        have h1 := ih.mpr (fun k hk => h k (by omega))
        have h4 := (h m (by omega)).1
        omega
theorem hsN_b {S : SightA} (hV : SV S) {m : Nat} (hm : m ≤ S.1) : hsN S m ≤ 9 := (hsN_le S 9 m).mpr (fun k hk => by
  obtain ⟨-, v2, v3, -⟩ := hV.2 k (by omega)
  exact ⟨by omega, fun _ => by omega⟩)
theorem highestSeam_v {M : Mem} {o : Nat} {S : SightA} (hX : SX M o S) (hV : SV S) : f_X4_highestSeam M o = some (dnI (hsN S S.1)) := by
  have h10 := hV.1
  have e0 : (-1 : Int32) = dnI 0 := by decide +kernel
  unfold f_X4_highestSeam f_X4_highestSeam_4
  rw [e0]
  refine lpU_for (fun k => (dnI (hsN S k), nI k)) S.1 _ (by omega) 0 (Nat.zero_le _) ?_ ?_
  · intro rc
    show b_X4_highestSeam_4 M o _ (dnI (hsN S S.1)) (nI S.1) = _
    unfold b_X4_highestSeam_4
    rw [hX.1, if_pos (nI_le (Nat.le_refl _) (by omega))]
  · intro rc k _ hk
    obtain ⟨x1, x2, x3⟩ := hX.2 k hk
    obtain ⟨v1, v2, v3, -⟩ := hV.2 k hk
    have hb := hsN_b hV (m := k) (by omega)
    show b_X4_highestSeam_4 M o _ (dnI (hsN S k)) (nI k) = rc (dnI (if S.2.1 k = 0 then max (max (hsN S k) (S.2.2.1 k + 1)) (S.2.2.2 k + 1) else max (hsN S k) (S.2.2.1 k + 1)), nI (k + 1))
    unfold b_X4_highestSeam_4 f_X4_highestSeam_43
    have hg : ∀ x : Option Int32, gin (nI k) 10 x = x := fun x => gin_n (by omega) (by omega)
    simp only [hg, nm_s]
    rw [hX.1, if_neg (nI_ge hk (by omega)), ix_n (by omega), x1, x2, x3, mx_dn (by omega) (by omega), mx_dn (by omega) (by omega), ite_p (eq_n (a := S.2.1 k) (b := 0) (by omega) (by omega)), nI_add]
    by_cases q : S.2.1 k = 0
    · rw [if_pos q, if_pos q]
    · rw [if_neg q, if_neg q]
theorem SQ_ext {M : Mem} {o : Nat} {C : CoatA} {A P A' P' : Nat → Nat} (h : SQ M o C A P) (hA : ∀ s, A s = A' s) (hP : ∀ s, P s = P' s) : SQ M o C A' P' := by
  have e1 : A = A' := funext hA
  have e2 : P = P' := funext hP
  subst e1
  subst e2
  exact h
theorem cX_17 {M : Mem} {o : Nat} {C : CoatA} {j i : Nat} {v : Int32} (h : CX M o C) (ho : o < 10 ∨ o = 16) : CX (sA M 17 j i v) o C := by
  refine CX_cg (M := M) ⟨fun _ => rfl, fun k => ?_⟩ h
  show gA (wA M 17 j _) o k = gA M o k
  rw [gA_wA', if_neg (fun q => by omega)]
theorem SQ_2 {M : Mem} {o : Nat} {C : CoatA} {A P : Nat → Nat} (h : SQ M o C A P) (x : Nat) {v : Nat} (hv : v < 512) : SQ (sA M 17 2 x (nI v)) o C (fun y => if y = x then v else A y) P := by
  obtain ⟨a, b, c, d, e, g⟩ := h
  refine ⟨a, b, cX_17 c b, d, e, fun s hs => ?_⟩
  obtain ⟨⟨g1, g2⟩, g3, g4⟩ := g s hs
  show (gA (sA M 17 2 x (nI v)) 17 2 s = nI (if s = x then v else A s) ∧ (if s = x then v else A s) < 512) ∧ gA (sA M 17 2 x (nI v)) 17 3 s = nI (P s) ∧ P s < 512
  rw [gA_sA, gA_sA]
  refine ⟨?_, by rw [if_neg (by omega)]; exact g3, g4⟩
  by_cases q : s = x
  · rw [if_pos ⟨rfl, rfl, q⟩, if_pos q]; exact ⟨rfl, hv⟩
  · rw [if_neg (fun z => q z.2.2), if_neg q]; exact ⟨g1, g2⟩
theorem SQ_3 {M : Mem} {o : Nat} {C : CoatA} {A P : Nat → Nat} (h : SQ M o C A P) (x : Nat) {v : Nat} (hv : v < 512) : SQ (sA M 17 3 x (nI v)) o C A (fun y => if y = x then v else P y) := by
  obtain ⟨a, b, c, d, e, g⟩ := h
  refine ⟨a, b, cX_17 c b, d, e, fun s hs => ?_⟩
  obtain ⟨⟨g1, g2⟩, g3, g4⟩ := g s hs
  show (gA (sA M 17 3 x (nI v)) 17 2 s = nI (A s) ∧ A s < 512) ∧ gA (sA M 17 3 x (nI v)) 17 3 s = nI (if s = x then v else P s) ∧ (if s = x then v else P s) < 512
  rw [gA_sA, gA_sA]
  refine ⟨⟨by rw [if_neg (by omega)]; exact g1, g2⟩, ?_⟩
  by_cases q : s = x
  · rw [if_pos ⟨rfl, rfl, q⟩, if_pos q]; exact ⟨rfl, hv⟩
  · rw [if_neg (fun z => q z.2.2), if_neg q]; exact ⟨g3, g4⟩
theorem see_v {M : Mem} {o a : Nat} {C : CoatA} {S : SightA} (h : SQ M o C (cAf C) (fun _ => 511)) (hS : SV S) (hX : SX M a S) (ha : a < 10) : ∃ M', f_X3_see M a = some M' ∧ FX M M' ∧ SQ M' o C (seeA C S S.1) (seeP S S.1) := by
  have hV := h.2.2.2.1
  have h10 := hS.1
  unfold f_X3_see f_X3_see_2
  refine lpU_inv (fun k x => ∃ M', x = (nI k, M') ∧ FX M M' ∧ SQ M' o C (seeA C S k) (seeP S k)) S.1 (fun x => ∃ M', x = some M' ∧ FX M M' ∧ SQ M' o C (seeA C S S.1) (seeP S S.1)) (by omega) ?_ ?_ 0 _ (Nat.zero_le _) ⟨M, rfl, FX_rf M, h⟩
  · rintro rc x ⟨M1, rfl, hf, hq⟩
    show ∃ M', b_X3_see_2 a _ (nI S.1) M1 = _ ∧ _
    unfold b_X3_see_2
    have hX2 := SX_cg (hf a (Or.inl ha)) hX
    rw [hX2.1, if_pos (nI_le (Nat.le_refl _) (by omega))]
    exact ⟨M1, rfl, hf, hq⟩
  · rintro rc k x hk ⟨M1, rfl, hf, hq⟩
    refine Or.inr ?_
    show ∃ a', _ ∧ b_X3_see_2 a _ (nI k) M1 = _
    unfold b_X3_see_2 f_X3_see_131
    have hX2 := SX_cg (hf a (Or.inl ha)) hX
    obtain ⟨x1, x2, x3⟩ := hX2.2 k hk
    obtain ⟨v1, v2, v3, -⟩ := hS.2 k hk
    have hg : ∀ x : Option Mem, gin (nI k) 10 x = x := fun x => gin_n (by omega) (by omega)
    have hgA : ∀ x : Option Mem, gin (nI (S.2.2.1 k)) 9 x = x := fun x => gin_n (by omega) (by omega)
    have hgB : ∀ x : Option Mem, gin (nI (S.2.2.2 k)) 9 x = x := fun x => gin_n (by omega) (by omega)
    simp only [hg, nm_s]
    rw [hX2.1, if_neg (nI_ge hk (by omega)), ix_n (by omega), x1, x2, x3]
    simp only [hgA, hgB]
    rw [if_neg (n_nneg (by omega)), if_neg (nI_ge (by omega) (by omega)), if_neg (n_nneg (by omega)), if_pos (nI_lt (by omega) (by omega)), ite_p (eq_n (a := S.2.1 k) (b := 0) (by omega) (by omega)), ite_p (eq_n (a := S.2.1 k) (b := 1) (by omega) (by omega)), ix_n (by omega), ix_n (by omega)]
    obtain ⟨⟨a1, a2⟩, -, -⟩ := hq.2.2.2.2.2 (S.2.2.2 k) (by omega)
    obtain ⟨-, p1, p2⟩ := hq.2.2.2.2.2 (S.2.2.1 k) (by omega)
    rw [a1, p1, or_nI (by omega), shl1_n (by omega), and_n, not_r]
    have hL := rmv_le (seeP S k (S.2.2.1 k)) (2 ^ S.2.2.2 k)
    by_cases q : S.2.1 k = 0
    · rw [if_pos q, nI_add]
      refine ⟨_, ⟨_, rfl, FX_tr hf (FX_sA _ (by omega)), SQ_ext (SQ_2 hq (S.2.2.2 k) (or_lt (n := 9) (s := S.2.2.1 k) a2 (by omega))) (fun s => ?_) (fun s => ?_)⟩, rfl⟩
      · show (if s = S.2.2.2 k then _ else _) = if S.2.1 k = 0 ∧ s = S.2.2.2 k then seeA C S k s ||| 2 ^ S.2.2.1 k else seeA C S k s
        by_cases r : s = S.2.2.2 k
        · rw [if_pos r, if_pos ⟨q, r⟩, r]
        · rw [if_neg r, if_neg (fun z => r z.2)]
      · show _ = if S.2.1 k = 1 ∧ s = S.2.2.1 k then _ else if S.2.1 k = 2 ∧ s = S.2.2.1 k then _ else _
        rw [if_neg (by omega), if_neg (by omega)]
    · rw [if_neg q]
      have eA : ∀ s, seeA C S k s = seeA C S (k + 1) s := fun s => by
        show _ = if S.2.1 k = 0 ∧ s = S.2.2.2 k then _ else _
        rw [if_neg (by omega)]
      by_cases q1 : S.2.1 k = 1
      · rw [if_pos q1, nI_add]
        refine ⟨_, ⟨_, rfl, FX_tr hf (FX_sA _ (by omega)), SQ_ext (SQ_3 hq (S.2.2.1 k) (v := seeP S k (S.2.2.1 k) &&& 2 ^ S.2.2.2 k) (and_lt p2)) eA (fun s => ?_)⟩, rfl⟩
        show (if s = S.2.2.1 k then _ else _) = if S.2.1 k = 1 ∧ s = S.2.2.1 k then seeP S k s &&& 2 ^ S.2.2.2 k else if S.2.1 k = 2 ∧ s = S.2.2.1 k then _ else seeP S k s
        by_cases r : s = S.2.2.1 k
        · rw [if_pos r, if_pos ⟨q1, r⟩, r]
        · rw [if_neg r, if_neg (fun z => r z.2), if_neg (fun z => r z.2)]
      · have q2 : S.2.1 k = 2 := by omega
        rw [if_neg q1, nI_add]
        refine ⟨_, ⟨_, rfl, FX_tr hf (FX_sA _ (by omega)), SQ_ext (SQ_3 hq (S.2.2.1 k) (v := rmv (seeP S k (S.2.2.1 k)) (2 ^ S.2.2.2 k)) (by omega)) eA (fun s => ?_)⟩, rfl⟩
        show (if s = S.2.2.1 k then _ else _) = if S.2.1 k = 1 ∧ s = S.2.2.1 k then _ else if S.2.1 k = 2 ∧ s = S.2.2.1 k then rmv (seeP S k s) (2 ^ S.2.2.2 k) else seeP S k s
        rw [if_neg (show ¬ (S.2.1 k = 1 ∧ s = S.2.2.1 k) from fun z => q1 z.1)]
        by_cases r : s = S.2.2.1 k
        · rw [if_pos r, if_pos ⟨q2, r⟩, r]
        · rw [if_neg r, if_neg (fun z => r z.2)]
theorem cholds_v {M : Mem} {o : Nat} {C : CoatA} {A P : Nat → Nat} (h : SQ M o C A P) {z p : Nat} (hz : z < cN C) (hp : p < cN C) : ∃ M', f_X3_holds M (nI z) (nI p) = some (nI (gw (rst (mayP A P) z (fun T => pc T 9 == p)) (cN C) 0), M') ∧ FX M M' ∧ SQ M' o C A P := by
  have hn := h.2.2.2.1.1
  obtain ⟨-, g3, g4⟩ := h.2.2.2.2.2 z (by omega)
  unfold f_X3_holds
  have hg : ∀ x : Option (Int32 × Mem), gin (nI z) 9 x = x := fun x => gin_n (by omega) (by omega)
  simp only [hg, nm_s]
  have hq := SQ_3 h z (v := P z &&& 2 ^ p) (and_lt g4)
  obtain ⟨M2, e1, e2⟩ := cways_v hq
  rw [h.1, hasSeam_v h.2.2.1.1 (by omega) (by omega), bn_s, if_pos (dT hz), hasSeam_v h.2.2.1.1 (by omega) (by omega), bn_s, if_pos (dT hp), ix_n (by omega), g3, shl1_n (by omega), and_n, e1, bp_s]
  have e : gw (mayP A (fun y => if y = z then P z &&& 2 ^ p else P y)) (cN C) = gw (rst (mayP A P) z (fun T => pc T 9 == p)) (cN C) := by
    refine gw_cg (fun S s hs => ?_)
    show (mayB A S s && (if s = z then P z &&& 2 ^ p else P s).testBit (pc S 9)) = ((mayB A S s && (P s).testBit (pc S 9)) && (!(s == z) || (pc S 9 == p)))
    by_cases q : s = z
    · subst q
      rw [if_pos rfl, Nat.testBit_and, tb_pw]
      by_cases r : p = pc S 9
      · have r2 : (pc S 9 == p) = true := by rw [r]; simp
        rw [decide_eq_true r, r2]
        simp
      · have r2 : (pc S 9 == p) = false := by
          rw [beq_eq_false_iff_ne]
          exact fun x => r x.symm
        rw [decide_eq_false r, r2]
        simp
    · rw [if_neg q]
      simp [q]
  rw [e]
  refine ⟨_, rfl, FX_tr (FX_sA _ (by omega)) (FX_tr (FKX e2) (FX_sA _ (by omega))), SQ_ext (SQ_3 (SQ_cg hq e2 rfl rfl) z g4) (fun _ => rfl) (fun s => ?_)⟩
  show (if s = z then P z else if s = z then _ else P s) = P s
  by_cases q : s = z
  · rw [if_pos q, q]
  · rw [if_neg q, if_neg q]
theorem cahead_v {M : Mem} {o : Nat} {C : CoatA} {A P : Nat → Nat} (h : SQ M o C A P) {a b : Nat} (ha : a < cN C) (hb : b < cN C) : ∃ M', f_X3_ways (sA M 17 2 b (nI (A b ||| 2 ^ a))) = some (nI (gw (rst (mayP A P) b (fun T => T.testBit a)) (cN C) 0), M') ∧ FX M (sA M' 17 2 b (nI (A b))) ∧ SQ (sA M' 17 2 b (nI (A b))) o C A P := by
  have hn := h.2.2.2.1.1
  have hA : ∀ s, s < 9 → A s < 512 := fun s hs => (h.2.2.2.2.2 s hs).1.2
  have hq := SQ_2 h b (v := A b ||| 2 ^ a) (or_lt (n := 9) (hA b (by omega)) (by omega))
  obtain ⟨M2, e1, e2⟩ := cways_v hq
  have e : gw (mayP (fun y => if y = b then A b ||| 2 ^ a else A y) P) (cN C) = gw (rst (mayP A P) b (fun T => T.testBit a)) (cN C) := by
    refine gw_cg (fun S s hs => ?_)
    rw [Bool.eq_iff_iff, rst_t]
    unfold mayP
    rw [Bool.and_eq_true, Bool.and_eq_true, mayB_t (by
      have h1 := hA s (by omega)
      have h2 := or_lt (n := 9) (s := a) (hA b (by omega)) (by omega)
      show (if s = b then A b ||| 2 ^ a else A s) < _
      split <;> omega), mayB_t (by have := hA s (by omega); omega)]
    show ((S.testBit s = false ∧ ∀ o, (if s = b then A b ||| 2 ^ a else A s).testBit o = true → S.testBit o = true) ∧ _) ↔ _
    by_cases q : s = b
    · subst q
      rw [if_pos rfl]
      constructor
      · rintro ⟨⟨x, y⟩, w⟩
        exact ⟨⟨⟨x, fun o ho => y o (by rw [or_tb, ho, Bool.true_or])⟩, w⟩, fun _ => y a (by rw [or_tb]; simp)⟩
      · rintro ⟨⟨⟨x, y⟩, w⟩, v⟩
        refine ⟨⟨x, fun o ho => ?_⟩, w⟩
        rw [or_tb, Bool.or_eq_true, decide_eq_true_eq] at ho
        rcases ho with ho | ho
        · exact y o ho
        · rw [← ho]; exact v rfl
    · rw [if_neg q]
      exact ⟨fun x => ⟨x, fun y => absurd y q⟩, fun x => x.1⟩
  rw [e1, e]
  refine ⟨M2, rfl, FX_tr (FX_sA _ (by omega)) (FX_tr (FKX e2) (FX_sA _ (by omega))), SQ_ext (SQ_2 (SQ_cg hq e2 rfl rfl) b (hA b (by omega))) (fun s => ?_) (fun _ => rfl)⟩
  show (if s = b then A b else if s = b then _ else A s) = A s
  by_cases q : s = b
  · rw [if_pos q, q]
  · rw [if_neg q, if_neg q]
/-! the reference -/
def MS (M : Mem) (l : Nat) (S : SightA) : Prop := l < 2 ∧ gI M 100 50 = nI l ∧ SM M (31 * l) S ∧ SV S
theorem MS_FK {M M' : Mem} {l : Nat} {S : SightA} {p : Nat → Bool} (h : MS M l S) (f : FK 100 p M M') (h9 : p 9 = false) : MS M' l S := by
  obtain ⟨a, b, c, d⟩ := h
  exact ⟨a, by rw [f.1]; exact b, SM_cg (f.2.2 100 9 (fun q => by rw [h9] at q; exact absurd q.2 (by decide))).1 c, d⟩
theorem mS_sI {M : Mem} {l : Nat} {S : SightA} {j : Nat} {v : Int32} (h : MS M l S) (hj : ¬ j = 50) : MS (sI M 100 j v) l S := by
  obtain ⟨a, b, c, d⟩ := h
  exact ⟨a, by rw [gI_sI, if_neg (fun q => hj q.2.symm)]; exact b, SM_cg rfl c, d⟩
section Sight
variable {M : Mem} {k l : Nat} {C : CoatA} {S : SightA}
theorem facts_v (h : MS M l S) : f_X10_facts M = some (nI S.1) := by
  obtain ⟨h1, h2, h3, h4⟩ := h
  unfold f_X10_facts
  rw [h2, pk_mul, gin_n (by omega) (by omega), ix_n (by omega), h3.1]
theorem fo_i (h : MS M l S) {j w : Nat} (hj : j < S.1) (hw : w ≤ 2) : f_X10_factOf M (nI j) (nI w) = some (gA M 100 9 (31 * l + (1 + 3 * j + w))) := by
  obtain ⟨h1, h2, h3, h4⟩ := h
  have := h4.1
  have e : 31 * l + 1 + 3 * j + w = 31 * l + (1 + 3 * j + w) := by omega
  unfold f_X10_factOf
  rw [h2]
  simp only [pk_mul, nI_add]
  rw [e, gin_n (by omega) (by omega), ix_n (by omega)]
theorem fo_0 (h : MS M l S) {j : Nat} (hj : j < S.1) : f_X10_factOf M (nI j) (nI 0) = some (nI (S.2.1 j)) := by
  rw [fo_i h hj (by omega)]
  exact congrArg some (h.2.2.1.2 j hj).1
theorem fo_1 (h : MS M l S) {j : Nat} (hj : j < S.1) : f_X10_factOf M (nI j) (nI 1) = some (nI (S.2.2.1 j)) := by
  rw [fo_i h hj (by omega)]
  exact congrArg some (h.2.2.1.2 j hj).2.1
theorem fo_2 (h : MS M l S) {j : Nat} (hj : j < S.1) : f_X10_factOf M (nI j) (nI 2) = some (nI (S.2.2.2 j)) := by
  rw [fo_i h hj (by omega)]
  exact congrArg some (h.2.2.1.2 j hj).2.2
theorem laySight_v (hH : MH M k C) (hV : CV C) (h : MS M l S) (c d : Int32) : f_X10_laySight_20 c d FU (nI 0, M) = some (decide (hsN S S.1 ≤ cN C), M) := by
  have hn := hV.1
  have h10 := h.2.2.2.1
  have h24 := hH.2.2.1
  obtain ⟨m, q1, q2, q3⟩ := first_of (fun j => ¬ (S.2.2.1 j < cN C ∧ (S.2.1 j = 0 → S.2.2.2 j < cN C))) S.1
  have em : decide (hsN S S.1 ≤ cN C) = decide (m = S.1) := by
    congr 1
    rw [hsN_le]
    apply propext
    constructor
    · intro z
      by_cases e : m = S.1
      · exact e
      · exact absurd (z m (by omega)) (q3 (by omega))
    · intro e j hj
      exact Classical.byContradiction (q2 j (by omega))
  rw [em]
  unfold f_X10_laySight_20
  refine lpU_find (fun j => (nI j, M)) S.1 (fun m => some (decide (m = S.1), M)) (fun j => ¬ (S.2.2.1 j < cN C ∧ (S.2.1 j = 0 → S.2.2.2 j < cN C))) (by omega) ?_ ?_ ?_ m q1 q2 q3 0 (Nat.zero_le _)
  · intro rc
    show b_X10_laySight_20 c d _ (nI S.1) M = _
    unfold b_X10_laySight_20
    rw [facts_v h, bn_s, if_pos (nI_le (Nat.le_refl _) (by omega)), decide_eq_true rfl]
  · intro rc j hj hst
    obtain ⟨v1, v2, v3, -⟩ := h.2.2.2.2 j hj
    show b_X10_laySight_20 c d _ (nI j) M = _
    unfold b_X10_laySight_20
    rw [facts_v h, bn_s, if_neg (nI_ge hj (by omega)), fo_1 h hj, bn_s, h24, ite_p (le_n (by omega) (by omega)), decide_eq_false (show ¬ j = S.1 by omega)]
    by_cases z : cN C ≤ S.2.2.1 j
    · rw [if_pos z]
    · have z2 : S.2.1 j = 0 ∧ ¬ S.2.2.2 j < cN C := by
        apply Classical.byContradiction
        intro y
        apply hst
        refine ⟨by omega, fun e => ?_⟩
        apply Classical.byContradiction
        intro f
        exact y ⟨e, f⟩
      rw [if_neg z, fo_0 h hj, bn_s, z2.1, if_pos rfl, fo_2 h hj, bn_s, ite_p (lt_n (by omega) (by omega)), if_neg z2.2]
  · intro rc j hj hst
    obtain ⟨v1, v2, v3, -⟩ := h.2.2.2.2 j hj
    have hst2 := Classical.byContradiction hst
    show b_X10_laySight_20 c d _ (nI j) M = _
    unfold b_X10_laySight_20 f_X10_laySight_65
    rw [facts_v h, bn_s, if_neg (nI_ge hj (by omega)), fo_1 h hj, bn_s, h24, ite_p (le_n (by omega) (by omega)), if_neg (by have := hst2.1; omega), fo_0 h hj, bn_s, ite_p (eq_n (a := S.2.1 j) (b := 0) (by omega) (by omega)), nI_add]
    by_cases z : S.2.1 j = 0
    · rw [if_pos z, fo_2 h hj, bn_s, ite_p (lt_n (by omega) (by omega)), if_pos (hst2.2 z), nm_s]
    · rw [if_neg z, nm_s]
theorem isSo_v (hH : MH M k C) (hV : CV C) (h : MS M l S) {T s : Nat} (hT : T < 512) (hs : s < cN C) : f_X10_isSo M (nI T) (nI s) = some (so C S T s) := by
  have hn := hV.1
  have h10 := h.2.2.2.1
  have hp := pc_le T 9
  unfold f_X10_isSo
  rw [mayNext_v hH hV hT hs, bn_s]
  unfold f_X10_isSo_10 so
  refine lpU_inv (fun i a => a = (soK C S T s i, nI i)) S.1 (fun x => x = some (soK C S T s S.1)) (by omega) ?_ ?_ 0 _ (Nat.zero_le _) rfl
  · rintro rc a rfl
    show b_X10_isSo_10 M (nI T) (nI s) _ (soK C S T s S.1) (nI S.1) = _
    unfold b_X10_isSo_10
    rw [facts_v h, bn_s, if_pos (nI_le (Nat.le_refl _) (by omega))]
  · rintro rc i a hi rfl
    show b_X10_isSo_10 M (nI T) (nI s) _ (soK C S T s i) (nI i) = _ ∨ ∃ a', _ ∧ b_X10_isSo_10 M (nI T) (nI s) _ (soK C S T s i) (nI i) = _
    obtain ⟨v1, v2, v3, -⟩ := h.2.2.2.2 i hi
    cases hb : soK C S T s i with
    | false =>
      left
      unfold b_X10_isSo_10
      rw [facts_v h, bn_s, if_neg (nI_ge hi (by omega)), if_neg (by decide), soK_f hb (by omega)]
    | true =>
      right
      have eS : soK C S T s (i + 1) = foB S i T s := by
        show (soK C S T s i && foB S i T s) = _
        rw [hb, Bool.true_and]
      refine ⟨_, rfl, ?_⟩
      rw [eS]
      unfold b_X10_isSo_10 f_X10_isSo_66 f_X10_isSo_71 f_X10_isSo_97 f_X10_isSo_111 f_X10_isSo_119 f_X10_isSo_138 f_X10_isSo_143 f_X10_isSo_144
      rw [facts_v h, bn_s, if_neg (nI_ge hi (by omega)), if_pos rfl, fo_1 h hi, bn_s, fo_2 h hi, bn_s, fo_0 h hi, bn_s, bn_s, has_v (by omega) (by omega), ones_v hT, bn_s, ite_p (eq_n (a := S.2.1 i) (b := 0) (by omega) (by omega)), ite_p (eq_n (a := S.2.1 i) (b := 1) (by omega) (by omega)), ite_p (eq_n (a := s) (b := S.2.2.2 i) (by omega) (by omega)), ite_p (eq_n (a := s) (b := S.2.2.1 i) (by omega) (by omega)), ite_p (eq_n (a := s) (b := S.2.2.1 i) (by omega) (by omega))]
      simp only [bn_s, nm_s, nI_add]
      have hpc : (nI (pc T 9) = nI (S.2.2.2 i)) = (pc T 9 = S.2.2.2 i) := eq_n (by omega) (by omega)
      simp only [hpc]
      unfold foB
      by_cases c0 : S.2.1 i = 0
      · rw [if_pos c0, if_pos c0]
        by_cases c1 : s = S.2.2.2 i
        · rw [if_pos c1]
          cases hb2 : T.testBit (S.2.2.1 i) with
          | false => simp [c1]
          | true => simp [c1]
        · have b1 : (s == S.2.2.2 i) = false := beq_eq_false_iff_ne.mpr c1
          rw [if_neg c1, b1]
          rfl
      · rw [if_neg c0, if_neg c0]
        by_cases c1 : S.2.1 i = 1
        · rw [if_pos c1, if_pos c1]
          by_cases c2 : s = S.2.2.1 i
          · have b2 : (s == S.2.2.1 i) = true := beq_iff_eq.mpr c2
            rw [if_pos c2, b2]
            by_cases c3 : pc T 9 = S.2.2.2 i
            · have b3 : (pc T 9 == S.2.2.2 i) = true := beq_iff_eq.mpr c3
              rw [if_pos c3, b3]
              rfl
            · have b3 : (pc T 9 == S.2.2.2 i) = false := beq_eq_false_iff_ne.mpr c3
              rw [if_neg c3, b3]
              rfl
          · have b2 : (s == S.2.2.1 i) = false := beq_eq_false_iff_ne.mpr c2
            rw [if_neg c2, b2]
            by_cases c3 : pc T 9 = S.2.2.2 i
            · have b3 : (pc T 9 == S.2.2.2 i) = true := beq_iff_eq.mpr c3
              rw [if_pos c3, b3]
              rfl
            · have b3 : (pc T 9 == S.2.2.2 i) = false := beq_eq_false_iff_ne.mpr c3
              rw [if_neg c3, b3]
              rfl
        · rw [if_neg c1, if_neg c1]
          by_cases c2 : s = S.2.2.1 i
          · have b2 : (s == S.2.2.1 i) = true := beq_iff_eq.mpr c2
            rw [if_pos c2, b2]
            by_cases c3 : pc T 9 = S.2.2.2 i
            · have b3 : (pc T 9 == S.2.2.2 i) = true := beq_iff_eq.mpr c3
              rw [if_pos c3, b3]
              rfl
            · have b3 : (pc T 9 == S.2.2.2 i) = false := beq_eq_false_iff_ne.mpr c3
              rw [if_neg c3, b3]
              rfl
          · have b2 : (s == S.2.2.1 i) = false := beq_eq_false_iff_ne.mpr c2
            rw [if_neg c2, b2]
            rfl
end Sight
