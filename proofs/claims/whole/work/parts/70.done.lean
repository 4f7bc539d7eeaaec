/-! DONE of a round told by figures -/
def dgS (r n i : Nat) : Nat := r / 6 ^ (n - 1 - i) % 6
def dOK (T : TownA) (r n : Nat) : Prop := (∀ i, i < n → dgS r n i < tW T) ∧ ∀ i j, i < j → j < n → ¬ dgS r n i = dgS r n j
theorem usB_row {n : Nat} : ∀ {p : List Nat}, VS n p → ∀ w, (usB p).testBit w = true ↔ ∃ j, j < p.length ∧ rowF p j = w
  | [], _, w => by
    show (0 : Nat).testBit w = true ↔ _
    rw [Nat.zero_testBit]
    exact ⟨fun h => absurd h (by decide), fun ⟨j, hj, _⟩ => absurd hj (Nat.not_lt_zero j)⟩
  | v :: p, h, w => by
    show (usB p ||| 2 ^ v).testBit w = true ↔ _
    rw [or_tb, Bool.or_eq_true, decide_eq_true_eq, usB_row h.2.2 w]
    constructor
    · rintro (⟨j, a, b⟩ | q)
      · exact ⟨j, Nat.lt_succ_of_lt a, by rw [rowF_lo a]; exact b⟩
      · exact ⟨p.length, Nat.lt_succ_self _, by rw [rowF_top]; exact q⟩
    · rintro ⟨j, a, b⟩
      have a' : j < p.length + 1 := a
      by_cases q : j = p.length
      · right
        subst q
        rw [rowF_top] at b
        exact b
      · left
        exact ⟨j, by omega, by rw [← rowF_lo (w := v) (show j < p.length by omega)]; exact b⟩
theorem VS_inj {n : Nat} : ∀ {p : List Nat}, VS n p → ∀ i j, i < j → j < p.length → ¬ rowF p i = rowF p j
  | [], _, i, j, _, hj => absurd hj (Nat.not_lt_zero j)
  | v :: p, h, i, j, hij, hj => by
    have hj' : j < p.length + 1 := hj
    rw [rowF_lo (show i < p.length by omega)]
    by_cases q : j = p.length
    · subst q
      rw [rowF_top]
      intro e
      have := (usB_row h.2.2 v).mpr ⟨i, hij, e⟩
      rw [h.2.1] at this
      exact absurd this (by decide)
    · rw [rowF_lo (show j < p.length by omega)]
      exact VS_inj h.2.2 i j hij (by omega)
noncomputable def dRes (p : Prop) (a : Int32) : Int32 := @ite Int32 p (Classical.propDecidable p) a (-1)
theorem dRes_t {p : Prop} {a : Int32} (h : p) : dRes p a = a := by unfold dRes; exact if_pos h
theorem dRes_f {p : Prop} {a : Int32} (h : ¬ p) : dRes p a = -1 := by unfold dRes; exact if_neg h
theorem p6 : ∀ i, i < 6 → 1 ≤ 6 ^ i ∧ 6 ^ i ≤ 7776 := by decide
theorem doneX_v {M B : Mem} {T : TownA} {o x y : Nat} (hV : TV T) (hx : x < 100) (hy : y < 100) (hB : TX B o T) (ho : o < 10) (h : WK B T o x y [] M) {r n k : Nat} (hr : r < 2147483648) (hn : n ≤ 6) (hk : k < n) (a : Int32) : ∃ M', f_X9_done_98 a (nI r) (nI n) (nI k) FU (nI (6 ^ (n - 1)), nI 0, M) = some (dRes (dOK T r n) (nI (dyF T x y (dgS r n) k)), M') ∧ FX B M' := by
  have h6 := hV.1.2.2.2.2
  unfold f_X9_done_98
  have hin : ∀ M1 : Mem, ∀ z : Option (Int32 × Mem), gin (nI k) 6 z = z := fun _ z => gin_n (by omega) (by omega)
  refine lpU_inv (fun i a => ∃ p M', a = (nI (if i < n then 6 ^ (n - 1 - i) else 0), nI i, M') ∧ WK B T o x y p M' ∧ p.length = i ∧ ∀ j, j < i → rowF p j = dgS r n j) n (fun z => ∃ M', z = some (dRes (dOK T r n) (nI (dyF T x y (dgS r n) k)), M') ∧ FX B M') (by omega) ?_ ?_ 0 _ (Nat.zero_le _) ⟨[], M, by rw [if_pos (by omega), Nat.sub_zero], h, rfl, fun j hj => by omega⟩
  · rintro rc s ⟨p, M1, rfl, hw, hl, hp⟩
    show ∃ M', b_X9_done_98 a (nI r) (nI n) (nI k) _ _ (nI n) M1 = _ ∧ _
    unfold b_X9_done_98
    have hd : dOK T r n := ⟨fun i hi => by rw [← hp i hi]; exact VS_row hw.1 i (by omega), fun i j hij hj => by rw [← hp i (by omega), ← hp j hj]; exact VS_inj hw.1 i j hij (by omega)⟩
    rw [if_pos (nI_le (Nat.le_refl _) (by omega)), hin M1, ix_n (by omega), (hw.2.2.2.2.2.2 k (by omega)).2.1, dRes_t hd, dyF_cg (r := rowF p) (r' := dgS r n) k (fun j hj => hp j (by omega))]
    exact ⟨M1, rfl, hw.2.1.1⟩
  · rintro rc i s hi ⟨p, M1, rfl, hw, hl, hp⟩
    obtain ⟨u1, u2⟩ := p6 (n - 1 - i) (by omega)
    have hdg : dgS r n i < 6 := Nat.mod_lt _ (by omega)
    have hdiv : r / 6 ^ (n - 1 - i) < 2147483648 := Nat.lt_of_le_of_lt (Nat.div_le_self _ _) hr
    have enx : nI (6 ^ (n - 1 - i)) / nI 6 = nI (if i + 1 < n then 6 ^ (n - 1 - (i + 1)) else 0) := by
      rw [div_n (by omega) (by omega) (by omega)]
      congr 1
      by_cases c : i + 1 < n
      · rw [if_pos c, show n - 1 - i = (n - 1 - (i + 1)) + 1 by omega, Nat.pow_succ, Nat.mul_div_cancel _ (by omega)]
      · rw [if_neg c, show n - 1 - i = 0 by omega]
    show (∃ M', b_X9_done_98 a (nI r) (nI n) (nI k) _ (nI (if i < n then 6 ^ (n - 1 - i) else 0)) (nI i) M1 = _ ∧ _) ∨ ∃ a', _ ∧ b_X9_done_98 a (nI r) (nI n) (nI k) _ (nI (if i < n then 6 ^ (n - 1 - i) else 0)) (nI i) M1 = _
    unfold b_X9_done_98
    rw [if_pos hi, if_neg (nI_ge hi (by omega)), if_neg (nI_ge u1 (by omega)), gnz_n u1 (by omega), gnz_n (b := 6) (by decide) (by decide), div_n hr (by omega) u1, rem_n hdiv (by decide) (by decide), show r / 6 ^ (n - 1 - i) % 6 = dgS r n i from rfl, enx]
    by_cases c : tW T ≤ dgS r n i ∨ (usB p).testBit (dgS r n i) = true
    · left
      have nd : ¬ dOK T r n := by
        rintro ⟨q1, q2⟩
        rcases c with c | c
        · have := q1 i hi; omega
        · obtain ⟨j, hj, e⟩ := (usB_row hw.1 _).mp c
          rw [hp j (by omega)] at e
          exact q2 j i (by omega) hi e
      rw [go_n hB ho hV hw (by omega) c, bp_s, if_neg (show ¬ (false = true) by decide), dRes_f nd]
      exact ⟨M1, rfl, hw.2.1.1⟩
    · right
      have c1 : dgS r n i < tW T := by
        apply Classical.byContradiction
        intro z
        exact c (Or.inl (by omega))
      have c2 : (usB p).testBit (dgS r n i) = false := by
        cases z : (usB p).testBit (dgS r n i) with
        | false => rfl
        | true => exact absurd (Or.inr z) c
      obtain ⟨M2, g1, g2, g3⟩ := go_v hV hx hy hB ho hw c1 c2
      rw [g1, bp_s, if_pos rfl, gnz_n (b := 6) (by decide) (by decide), nI_add, nm_s, nm_s]
      refine ⟨_, ⟨dgS r n i :: p, M2, rfl, g2, by show p.length + 1 = i + 1; omega, fun j hj => ?_⟩, rfl⟩
      show (if j = p.length then dgS r n i else rowF p j) = dgS r n j
      by_cases q : j = p.length
      · rw [if_pos q, q, hl]
      · rw [if_neg q]
        exact hp j (by omega)
def hdS (r n : Nat) : Nat → Nat
  | 0 => 0
  | t + 1 => hdS r n t ||| 2 ^ dgS r n (n - 1 - t)
theorem hdS_lt (r n : Nat) : ∀ t, hdS r n t < 2 ^ 6 := by
  intro t
  induction t with
  | zero => exact (by decide : 0 < 2 ^ 6)
  | succ t ih => exact or_lt ih (Nat.mod_lt _ (by omega))
theorem hdS_tb (r n : Nat) (o : Nat) : ∀ t, t ≤ n → ((hdS r n t).testBit o = true ↔ ∃ j, n - t ≤ j ∧ j < n ∧ dgS r n j = o) := by
  intro t
  induction t with
  | zero =>
    intro _
    show (0 : Nat).testBit o = true ↔ _
    rw [Nat.zero_testBit]
    exact ⟨fun h => absurd h (by decide), fun ⟨j, a, b, _⟩ => by omega⟩
  | succ t ih =>
    intro ht
    show (hdS r n t ||| 2 ^ dgS r n (n - 1 - t)).testBit o = true ↔ _
    rw [or_tb, Bool.or_eq_true, decide_eq_true_eq, ih (by omega)]
    constructor
    · rintro (⟨j, a, b, c⟩ | q)
      · exact ⟨j, by omega, b, c⟩
      · exact ⟨n - 1 - t, by omega, by omega, q⟩
    · rintro ⟨j, a, b, c⟩
      by_cases q : j = n - 1 - t
      · exact Or.inr (by rw [← q]; exact c)
      · exact Or.inl ⟨j, by omega, b, c⟩
theorem doneM_v {M : Mem} {kk : Nat} {T : TownA} {x y : Nat} (h : RI M kk T x y) (hV : TV T) (hx : x < 100) (hy : y < 100) {r n k : Nat} (hr : r < 2147483648) (hn : 1 ≤ n ∧ n ≤ 6) (hk : k < n) (a : Int32) : ∃ M', f_X10_done_52 a (nI r) (nI n) (nI k) FU (nI r, nI 0, dnI n, M) = some (dRes (dOK T r n ∧ r / 6 ^ n = 0) (nI (dyF T x y (dgS r n) k)), M') ∧ FM M M' := by
  have h6 := hV.1.2.2.2.2
  have h40 : gI M 100 40 = nI (tW T) := h.1.2.2.1
  unfold f_X10_done_52
  refine lpU_inv (fun t a => ∃ M', a = (nI (r / 6 ^ t), nI (hdS r n t), dnI (n - t), M') ∧ FK 100 (p1 43) M M' ∧ (∀ j, n - t ≤ j → j < n → gA M' 100 43 j = nI (dgS r n j) ∧ dgS r n j < tW T) ∧ ∀ i j, n - t ≤ i → i < j → j < n → ¬ dgS r n i = dgS r n j) n (fun z => ∃ M', z = some (dRes (dOK T r n ∧ r / 6 ^ n = 0) (nI (dyF T x y (dgS r n) k)), M') ∧ FM M M') (by omega) ?_ ?_ 0 _ (Nat.zero_le _) ⟨M, by rw [Nat.pow_zero, Nat.div_one, Nat.sub_zero]; rfl, FK_rf M, fun j h1 h2 => by omega, fun i j h1 h2 h3 => by omega⟩
  · rintro rc s ⟨M1, rfl, hf, ht, hd⟩
    show ∃ M', b_X10_done_52 a (nI r) (nI n) (nI k) _ (nI (r / 6 ^ n)) (nI (hdS r n n)) (dnI (n - n)) M1 = _ ∧ _
    unfold b_X10_done_52
    rw [Nat.sub_self] at ht hd
    have hq : r / 6 ^ n < 2147483648 := Nat.lt_of_le_of_lt (Nat.div_le_self _ _) hr
    have hOK : dOK T r n := ⟨fun i hi => (ht i (Nat.zero_le _) hi).2, fun i j hij hj => hd i j (Nat.zero_le _) hij hj⟩
    rw [Nat.sub_self, if_pos dnI_0, ite_p (le_n hq (by omega))]
    by_cases c : r / 6 ^ n = 0
    · have hI := RI_FK h hf rfl
      obtain ⟨M2, g1, g2, g3⟩ := walk_v hI hV hx hy hn.2 (r := dgS r n) (fun j hj => (ht j (Nat.zero_le _) hj).1) (fun j hj => (ht j (Nat.zero_le _) hj).2)
      rw [if_pos (show r / 6 ^ n ≤ 0 by rw [c]; exact Nat.le_refl 0), g1, bn_s, gin_n (by omega) (by omega), ix_n (by omega), g3 k hk, dRes_t ⟨hOK, c⟩]
      exact ⟨M2, rfl, FM_tr (FM_p hf (by omega)) (FM_p g2 (by omega))⟩
    · rw [if_neg (show ¬ r / 6 ^ n ≤ 0 from fun z => c (Nat.le_zero.mp z)), dRes_f (fun z => c z.2)]
      exact ⟨M1, rfl, FM_p hf (by omega)⟩
  · rintro rc t s hlt ⟨M1, rfl, hf, ht, hd⟩
    have hdg : dgS r n (n - 1 - t) < 6 := Nat.mod_lt _ (by omega)
    have hdv : r / 6 ^ t < 2147483648 := Nat.lt_of_le_of_lt (Nat.div_le_self _ _) hr
    have ev : n - t = (n - 1 - t) + 1 := by omega
    have edg : r / 6 ^ t % 6 = dgS r n (n - 1 - t) := by
      unfold dgS
      rw [show n - 1 - (n - 1 - t) = t by omega]
    have enx : nI (r / 6 ^ t) / nI 6 = nI (r / 6 ^ (t + 1)) := by
      rw [div_n hdv (by omega) (by omega), Nat.pow_succ, Nat.div_div_eq_div_mul]
    have hb := hdS_lt r n t
    have hb2 : hdS r n t < 64 := hb
    have h43 : gA (sA M1 100 43 (n - 1 - t) (nI (dgS r n (n - 1 - t)))) 100 43 (n - 1 - t) = nI (dgS r n (n - 1 - t)) := by rw [gA_sA, if_pos ⟨rfl, rfl, rfl⟩]
    have hf2 : FK 100 (p1 43) M (sA M1 100 43 (n - 1 - t) (nI (dgS r n (n - 1 - t)))) := FK_tr hf (FK_sA _ (p1_r 43))
    have hg : ∀ z : Option (Int32 × Mem), gin (nI (n - 1 - t)) 6 z = z := fun z => gin_n (by omega) (by omega)
    have e40 : gI (sA M1 100 43 (n - 1 - t) (nI (dgS r n (n - 1 - t)))) 100 40 = nI (tW T) := by rw [hf2.1, h40]
    show (∃ M', b_X10_done_52 a (nI r) (nI n) (nI k) _ (nI (r / 6 ^ t)) (nI (hdS r n t)) (dnI (n - t)) M1 = _ ∧ _) ∨ ∃ a', _ ∧ b_X10_done_52 a (nI r) (nI n) (nI k) _ (nI (r / 6 ^ t)) (nI (hdS r n t)) (dnI (n - t)) M1 = _
    unfold b_X10_done_52
    simp only [nm_s]
    rw [ev, dnI_s, if_neg (n_nneg (by omega)), gnz_n (by omega) (by omega)]
    simp only [hg]
    rw [ix_n (by omega), rem_n hdv (by omega) (by omega), edg, gnz_n (by omega) (by omega), h43, isWearer_v e40 (by omega) (by omega), bn_s]
    by_cases c1 : dgS r n (n - 1 - t) < tW T
    · rw [if_pos (dT c1), has_v (by omega) (by omega), bn_s]
      by_cases c2 : (hdS r n t).testBit (dgS r n (n - 1 - t)) = true
      · left
        have nd : ¬ (dOK T r n ∧ r / 6 ^ n = 0) := by
          rintro ⟨⟨-, q2⟩, -⟩
          obtain ⟨j, j1, j2, j3⟩ := (hdS_tb r n _ t (by omega)).mp c2
          exact q2 (n - 1 - t) j (by omega) j2 j3.symm
        rw [if_pos c2, dRes_f nd]
        exact ⟨_, rfl, FM_p hf2 (by omega)⟩
      · right
        rw [if_neg c2, or_nI (by omega), enx, dnI_n]
        refine ⟨_, ⟨_, by rw [show n - (t + 1) = n - 1 - t by omega]; rfl, hf2, fun j j1 j2 => ?_, fun i j j1 j2 j3 => ?_⟩, rfl⟩
        · by_cases q : j = n - 1 - t
          · rw [q]; exact ⟨h43, c1⟩
          · rw [gA_sA, if_neg (fun z => q z.2.2)]
            exact ht j (by omega) j2
        · by_cases q : i = n - 1 - t
          · rw [q]
            intro e
            exact c2 ((hdS_tb r n _ t (by omega)).mpr ⟨j, by omega, j3, e.symm⟩)
          · exact hd i j (by omega) j2 j3
    · left
      have nd : ¬ (dOK T r n ∧ r / 6 ^ n = 0) := by
        rintro ⟨⟨q1, -⟩, -⟩
        exact c1 (q1 (n - 1 - t) (by omega))
      rw [if_neg (dF c1), dRes_f nd]
      exact ⟨_, rfl, FM_p hf2 (by omega)⟩
theorem unit_v {M : Mem} {o r n k : Nat} (hr : r < 2147483648) (hn : 1 ≤ n ∧ n ≤ 6) (a : Int32) : f_X9_done_46 a (nI r) (nI n) (nI k) o FU (nI 1, nI 1, M) = if r / 6 ^ (n - 1) < 6 then bn (f_X7_begin M o (gI M o 0) (gI M o 1)) (fun M18 => f_X9_done_98 a (nI r) (nI n) (nI k) FU (nI (6 ^ (n - 1)), nI 0, M18)) else some (-1, M) := by
  unfold f_X9_done_46
  refine lpU_for (fun i => (nI (6 ^ (i - 1)), nI i, M)) n _ (by omega) 1 hn.1 ?_ ?_
  · intro rc
    obtain ⟨u1, u2⟩ := p6 (n - 1) (by omega)
    have hdv : r / 6 ^ (n - 1) < 2147483648 := Nat.lt_of_le_of_lt (Nat.div_le_self _ _) hr
    show b_X9_done_46 a (nI r) (nI n) (nI k) o _ (nI (6 ^ (n - 1))) (nI n) M = _
    unfold b_X9_done_46
    rw [if_pos (nI_le (Nat.le_refl _) (by omega)), gnz_n (by omega) (by omega), div_n hr (by omega) (by omega), ite_p (lt_n hdv (by omega))]
  · intro rc i h1 hi
    show b_X9_done_46 a (nI r) (nI n) (nI k) o _ (nI (6 ^ (i - 1))) (nI i) M = _
    unfold b_X9_done_46
    rw [if_neg (nI_ge hi (by omega)), pk_mul, nI_add, nm_s, nm_s, ← Nat.pow_succ, show (i - 1).succ = i + 1 - 1 by omega]
theorem q_done {Mx Mm : Mem} (H : Rl Mx Mm) (a r n k : Int32) : EqI Mx Mm (f_X9_done Mx a r n k) (f_X10_done Mm a r n k) := by
  have h0 := FM_sI Mm (o := 100) (k := 0) (v := nI 0)
  unfold f_X9_done f_X10_done
  rw [nm_s]
  rcases town_cases H a with ⟨e1, e2⟩ | ⟨kk, T, hk, rfl, hV, hX, hM, e1, e2⟩
  · rw [e1, bn_s, opt_none, e2 _ h0]
    exact ⟨_, _, _, rfl, rfl, Rl_fr H (FX_rf Mx) (FM_tr h0 (FM_sI _))⟩
  · have hF := FM_tr h0 (FM_mt (sI Mm 100 0 (nI 0)) kk T)
    have hI := mt_RI (M := sI Mm 100 0 (nI 0)) hk (TM_cg rfl hM)
    obtain ⟨x1, y1, -, -, h6⟩ := hV.1
    have hR := Rl_fr H (FX_rf Mx) hF
    rw [e1, bn_s, opt_some, e2 _ h0, bp_s, if_pos rfl]
    rcases int_cases n with hn | ⟨n, hn, rfl⟩
    · rw [in_neg hn 1 (by omega), if_pos (neg_lt hn 1 (by omega))]
      exact ⟨_, _, _, rfl, rfl, hR⟩
    rw [in_n hn (by omega) (by omega), bn_s, ite_p (lt_n hn (by omega)), ite_p (lt_n (by omega) hn)]
    by_cases c1 : 1 ≤ n ∧ n ≤ 6
    · rw [if_pos (dT c1), if_neg (by omega), if_neg (by omega)]
      rcases int_cases k with hk2 | ⟨k, hk2, rfl⟩
      · rw [in_neg hk2 0 (by omega), if_pos (show k < nI 0 from hk2)]
        exact ⟨_, _, _, rfl, rfl, hR⟩
      rw [in_upto hk2 hn, bn_s, if_neg (n_nneg hk2), ite_p (le_n hn hk2)]
      by_cases c2 : k < n
      · rw [if_pos (dT c2), if_neg (by omega)]
        rcases int_cases r with hr | ⟨r, hr, rfl⟩
        · rw [if_neg (neg_nle hr 0 (by omega)), if_neg (neg_nle hr 0 (by omega))]
          exact ⟨_, _, _, rfl, rfl, hR⟩
        rw [if_pos (nI_le (Nat.zero_le _) hr), if_pos (nI_le (Nat.zero_le _) hr), nm_s, unit_v hr c1, hX.1.1, hX.1.2.1, show nI n - nI 1 = dnI n from rfl]
        have e6 : (6 : Nat) ^ n = 6 ^ (n - 1) * 6 := by
          obtain ⟨q, hq⟩ : ∃ q, n = q + 1 := ⟨n - 1, by omega⟩
          rw [hq, Nat.pow_succ, show q + 1 - 1 = q by omega]
        have edv : r / 6 ^ n = r / 6 ^ (n - 1) / 6 := by rw [e6, Nat.div_div_eq_div_mul]
        obtain ⟨M2, g3, g4⟩ := doneM_v hI hV (by omega) (by omega) hr c1 c2 (nI kk)
        rw [g3]
        by_cases c3 : r / 6 ^ (n - 1) < 6
        · obtain ⟨M1, g1, g2⟩ := begin_v hV hX (show 6 + kk < 10 by omega) (tX T) (tY T)
          obtain ⟨M3, g5, g6⟩ := doneX_v hV (x := tX T) (y := tY T) (by omega) (by omega) hX (by omega) g2 hr c1.2 c2 (nI kk)
          have e0 : r / 6 ^ n = 0 := by rw [edv]; exact Nat.div_eq_of_lt c3
          rw [if_pos c3, g1, bn_s, g5]
          by_cases d : dOK T r n
          · rw [dRes_t d, dRes_t ⟨d, e0⟩]
            exact ⟨_, _, _, rfl, rfl, Rl_fr H g6 (FM_tr hF g4)⟩
          · rw [dRes_f d, dRes_f (fun z => d z.1)]
            exact ⟨_, _, _, rfl, rfl, Rl_fr H g6 (FM_tr hF g4)⟩
        · have e1 : ¬ (dOK T r n ∧ r / 6 ^ n = 0) := by
            rintro ⟨-, z⟩
            rw [edv] at z
            have := Nat.div_pos (show 6 ≤ r / 6 ^ (n - 1) from Nat.le_of_not_lt c3) (show 0 < 6 by decide)
            omega
          rw [if_neg c3, dRes_f e1]
          exact ⟨_, _, _, rfl, rfl, Rl_fr H (FX_rf Mx) (FM_tr hF g4)⟩
      · rw [if_neg (dF c2), if_pos (by omega)]
        exact ⟨_, _, _, rfl, rfl, hR⟩
    · rw [if_neg (dF c1)]
      by_cases d : n < 1
      · rw [if_pos d]
        exact ⟨_, _, _, rfl, rfl, hR⟩
      · rw [if_neg d, if_pos (by omega)]
        exact ⟨_, _, _, rfl, rfl, hR⟩
