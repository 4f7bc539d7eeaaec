/-! GUILD; rounds -/
def bfB (T : TownA) (o w : Nat) : Bool := decide (tDu T o < tDu T w) || (decide (tDu T o = tDu T w) && decide (o < w))
theorem bf_t {T : TownA} {o w : Nat} : bfB T o w = true ↔ (tDu T o < tDu T w ∨ (tDu T o = tDu T w ∧ o < w)) := by
  unfold bfB
  rw [Bool.or_eq_true, Bool.and_eq_true, decide_eq_true_eq, decide_eq_true_eq, decide_eq_true_eq]
def rkS (T : TownA) (w : Nat) : Nat := gSum (fun o => if bfB T o w = true then 1 else 0) (tW T)
theorem rk_lt {T : TownA} {v w : Nat} (hv : v < tW T) (h : bfB T v w = true) : rkS T v < rkS T w := by
  have e := gS_add (fun o => if bfB T o v = true then 1 else 0) (fun o => if o = v then 1 else 0) (tW T)
  rw [gS_pick, if_pos hv] at e
  have l := gS_le (f := fun o => (if bfB T o v = true then 1 else 0) + (if o = v then 1 else 0)) (g := fun o => if bfB T o w = true then 1 else 0) (tW T) (fun o _ => by
    show (if bfB T o v = true then 1 else 0) + (if o = v then 1 else 0) ≤ if bfB T o w = true then 1 else 0
    rw [bf_t] at h
    by_cases q : o = v
    · have c : ¬ bfB T o v = true := by rw [bf_t]; subst q; omega
      have d : bfB T o w = true := by rw [bf_t, q]; exact h
      rw [if_neg c, if_pos d, if_pos q]
      omega
    · rw [if_neg q]
      by_cases c : bfB T o v = true
      · have d : bfB T o w = true := by rw [bf_t] at c ⊢; omega
        rw [if_pos c, if_pos d]
        omega
      · rw [if_neg c]
        exact Nat.zero_le _)
  unfold rkS
  omega
theorem rk_n {T : TownA} {w : Nat} (hw : w < tW T) : rkS T w < tW T := by
  have e := gS_add (fun o => if bfB T o w = true then 1 else 0) (fun o => if o = w then 1 else 0) (tW T)
  rw [gS_pick, if_pos hw] at e
  have l := gS_le (f := fun o => (if bfB T o w = true then 1 else 0) + (if o = w then 1 else 0)) (g := fun _ => 1) (tW T) (fun o _ => by
    show (if bfB T o w = true then 1 else 0) + (if o = w then 1 else 0) ≤ 1
    by_cases q : o = w
    · have c : ¬ bfB T o w = true := by rw [bf_t]; subst q; omega
      rw [if_neg c, if_pos q]
      omega
    · rw [if_neg q]
      split <;> omega)
  rw [gS_const] at l
  unfold rkS
  omega
theorem rk_inj {T : TownA} {v w : Nat} (hv : v < tW T) (hw : w < tW T) (h : ¬ v = w) : ¬ rkS T v = rkS T w := by
  by_cases c : bfB T v w = true
  · have := rk_lt hv c; omega
  · have d : bfB T w v = true := by rw [bf_t] at c ⊢; omega
    have := rk_lt hw d; omega
/-- who is next of those left -/
def ndD (T : TownA) (S : Nat) : Nat → Nat
  | 0 => 0
  | w + 1 => if S.testBit w = false ∧ (ndD T S w = 0 ∨ tDu T w < tDu T (ndD T S w - 1)) then w + 1 else ndD T S w
theorem ndD_v (T : TownA) (S : Nat) : ∀ w, (ndD T S w = 0 → ∀ v, v < w → S.testBit v = true) ∧ (¬ ndD T S w = 0 → ndD T S w - 1 < w ∧ S.testBit (ndD T S w - 1) = false ∧ ∀ v, v < w → S.testBit v = false → ¬ v = ndD T S w - 1 → bfB T (ndD T S w - 1) v = true) := by
  intro w
  induction w with
  | zero => exact ⟨fun _ v hv => by omega, fun h => absurd rfl h⟩
  | succ w ih =>
    have e : ndD T S (w + 1) = if S.testBit w = false ∧ (ndD T S w = 0 ∨ tDu T w < tDu T (ndD T S w - 1)) then w + 1 else ndD T S w := rfl
    by_cases c : S.testBit w = false ∧ (ndD T S w = 0 ∨ tDu T w < tDu T (ndD T S w - 1))
    · rw [if_pos c] at e
      rw [e]
      refine ⟨fun h => by omega, fun _ => ⟨by omega, c.1, fun v hv hb hne => ?_⟩⟩
      have hv2 : v < w := by omega
      rw [show w + 1 - 1 = w by omega, bf_t]
      rcases c.2 with d | d
      · rw [ih.1 d v hv2] at hb
        exact absurd hb (by decide)
      · by_cases f : ndD T S w = 0
        · rw [ih.1 f v hv2] at hb
          exact absurd hb (by decide)
        · by_cases g : v = ndD T S w - 1
          · rw [g]; exact Or.inl d
          · have := (ih.2 f).2.2 v hv2 hb g
            rw [bf_t] at this
            omega
    · rw [if_neg c] at e
      rw [e]
      refine ⟨fun h v hv => ?_, fun h => ?_⟩
      · by_cases q : v = w
        · subst q
          cases z : S.testBit v with
          | true => rfl
          | false => exact absurd ⟨z, Or.inl h⟩ c
        · exact ih.1 h v (by omega)
      · obtain ⟨a, b, d⟩ := ih.2 h
        refine ⟨by omega, b, fun v hv hb hne => ?_⟩
        by_cases q : v = w
        · subst q
          rw [bf_t]
          have : ¬ tDu T v < tDu T (ndD T S v - 1) := fun z => c ⟨hb, Or.inr z⟩
          omega
        · exact d v (by omega) hb hne
theorem ndD_b (T : TownA) (S : Nat) : ∀ w, ndD T S w ≤ w := by
  intro w
  have := ndD_v T S w
  by_cases q : ndD T S w = 0
  · omega
  · have := (this.2 q).1
    omega
section Walk
variable {B : Mem} {T : TownA} {o x y : Nat} {M : Mem}
theorem lateByDue_v (hV : TV T) (hx : x < 100) (hy : y < 100) (hB : TX B o T) (ho : o < 10) (h : WK B T o x y [] M) : ∃ p M', VS (tW T) p ∧ p.length = tW T ∧ (∀ j, j < tW T → rkS T (rowF p j) = j) ∧ f_X7_lateByDue M = some (nI (ltF T x y (rowF p) (tW T)), M') ∧ FX B M' := by
  have h6 := hV.1.2.2.2.2
  unfold f_X7_lateByDue f_X7_lateByDue_2
  refine lpU_inv (fun i a => ∃ p M', a = (nI i, M') ∧ p.length = i ∧ WK B T o x y p M' ∧ (∀ j, j < i → rkS T (rowF p j) = j) ∧ ∀ u v, u < tW T → v < tW T → (usB p).testBit u = true → (usB p).testBit v = false → bfB T u v = true) (tW T) (fun z => ∃ p M', VS (tW T) p ∧ p.length = tW T ∧ (∀ j, j < tW T → rkS T (rowF p j) = j) ∧ z = some (nI (ltF T x y (rowF p) (tW T)), M') ∧ FX B M') (by omega) ?_ ?_ 0 _ (Nat.zero_le _) ⟨[], M, rfl, rfl, h, fun j hj => by omega, fun u v _ _ hu => ?_⟩
  · rintro rc a ⟨p, M1, rfl, hl, hk, hrk, hcl⟩
    show ∃ p M', _ ∧ _ ∧ _ ∧ b_X7_lateByDue_2 _ (nI (tW T)) M1 = _ ∧ _
    unfold b_X7_lateByDue_2
    have hX1 := wk_X hB ho hk
    rw [hk.2.1.2, hX1.1.2.2.2.2, if_pos (nI_le (Nat.le_refl _) (by omega)), (wk_late hV hx hy hk).1, bn_s]
    refine ⟨p, M1, hk.1, hl, hrk, ?_, hk.2.1.1⟩
    unfold latS
    rw [hl]
  · rintro rc i a hi ⟨p, M1, rfl, hl, hk, hrk, hcl⟩
    refine Or.inr ?_
    show ∃ a', _ ∧ b_X7_lateByDue_2 _ (nI i) M1 = _
    unfold b_X7_lateByDue_2
    have hX1 := wk_X hB ho hk
    have hus := usB_lt hk.1
    have w2 := (pw9 (tW T) (by omega)).2.1
    have em : (-1 : Int32) = dnI 0 := by decide +kernel
    have hnd := ndD_b T (usB p)
    rw [hk.2.1.2, hX1.1.2.2.2.2, if_neg (nI_ge hi (by omega)), em]
    have eloop : f_X7_lateByDue_17 (fun x0 x1 => rc (x0, x1)) (nI i) FU (dnI 0, nI 0, M1) = bp (f_X7_go M1 (dnI (ndD T (usB p) (tW T)))) (fun r13 M12 => rc (nI (i + 1), M12)) := by
      unfold f_X7_lateByDue_17
      refine lpU_for (fun w => (dnI (ndD T (usB p) w), nI w, M1)) (tW T) _ (by omega) 0 (Nat.zero_le _) ?_ ?_
      · intro rc2
        show b_X7_lateByDue_17 _ (nI i) _ _ (nI (tW T)) M1 = _
        unfold b_X7_lateByDue_17
        rw [hk.2.1.2, hX1.1.2.2.2.2, if_pos (nI_le (Nat.le_refl _) (by omega)), nI_add]
        rfl
      · intro rc2 w _ hw
        have hb := hnd w
        show b_X7_lateByDue_17 _ (nI i) _ _ (nI w) M1 = rc2 (dnI (if (usB p).testBit w = false ∧ (ndD T (usB p) w = 0 ∨ tDu T w < tDu T (ndD T (usB p) w - 1)) then w + 1 else ndD T (usB p) w), nI (w + 1), M1)
        unfold b_X7_lateByDue_17 f_X7_lateByDue_44 f_X7_lateByDue_77 f_X7_lateByDue_79
        simp only [nm_s, if_true, Bool.false_eq_true, if_false]
        rw [hk.2.1.2, hX1.1.2.2.2.2, if_neg (nI_ge hw (by omega)), hk.2.2.2.2.1, ite_p (bit0_n (by omega) (by omega)), ite_p (dnI_m1 (ndD T (usB p) w) (by omega)), nI_add]
        by_cases c1 : (usB p).testBit w = false
        · rw [if_pos c1]
          by_cases c2 : ndD T (usB p) w = 0
          · rw [if_pos c2, if_pos (show (usB p).testBit w = false ∧ (ndD T (usB p) w = 0 ∨ tDu T w < tDu T (ndD T (usB p) w - 1)) from ⟨c1, Or.inl c2⟩), dnI_s]
          · obtain ⟨u, hu⟩ : ∃ u, ndD T (usB p) w = u + 1 := ⟨ndD T (usB p) w - 1, by omega⟩
            have hun : u < tW T := by omega
            obtain ⟨-, -, -, d1⟩ := hV.2.1 w hw
            obtain ⟨-, -, -, d2⟩ := hV.2.1 u hun
            rw [if_neg c2, hu, dnI_s, gin_n (by omega) (by omega), gin_n (by omega) (by omega), ix_n (by omega), ix_n (by omega), (hX1.2.1 w hw).2.2.2, (hX1.2.1 u hun).2.2.2, ite_p (le_n (by omega) (by omega)), show u + 1 - 1 = u by omega]
            by_cases c3 : tDu T w < tDu T u
            · rw [if_neg (show ¬ tDu T u ≤ tDu T w by omega), if_pos (show (usB p).testBit w = false ∧ (u + 1 = 0 ∨ tDu T w < tDu T u) from ⟨c1, Or.inr c3⟩), dnI_s]
            · rw [if_pos (show tDu T u ≤ tDu T w by omega), if_neg (show ¬ ((usB p).testBit w = false ∧ (u + 1 = 0 ∨ tDu T w < tDu T u)) by omega), dnI_s]
        · rw [if_neg c1, if_neg (show ¬ ((usB p).testBit w = false ∧ (ndD T (usB p) w = 0 ∨ tDu T w < tDu T (ndD T (usB p) w - 1))) from fun z => c1 z.1)]
    rw [eloop]
    obtain ⟨n1, n2⟩ := ndD_v T (usB p) (tW T)
    have hne : ¬ ndD T (usB p) (tW T) = 0 := fun z => by
      have hall := n1 z
      have hp := VS_len hk.1
      have : pc (usB p) (tW T) = tW T := by
        have e : pc (usB p) (tW T) = gSum (fun _ => 1) (tW T) := gS_cg _ (fun s hs => by
          show (if (usB p).testBit s = true then 1 else 0) = 1
          rw [if_pos (hall s hs)])
        rw [e, gS_const]
        omega
      omega
    obtain ⟨m1, m2, m3⟩ := n2 hne
    obtain ⟨u, hu⟩ : ∃ u, ndD T (usB p) (tW T) = u + 1 := ⟨ndD T (usB p) (tW T) - 1, by omega⟩
    rw [hu, show u + 1 - 1 = u by omega] at m1 m2 m3
    obtain ⟨M2, g1, g2, g3⟩ := go_v hV hx hy hB ho hk m1 m2
    rw [hu, dnI_s, g1, bp_s]
    have hru : rkS T u = i := by
      rw [← hl, VS_len hk.1]
      refine gS_cg _ (fun s hs => ?_)
      show (if bfB T s u = true then 1 else 0) = if (usB p).testBit s = true then 1 else 0
      by_cases c : (usB p).testBit s = true
      · rw [if_pos c, if_pos (hcl s u hs m1 c m2)]
      · rw [if_neg c, if_neg]
        intro z
        have c' : (usB p).testBit s = false := by simpa using c
        rw [bf_t] at z
        by_cases q : s = u
        · subst q; omega
        · have := m3 s hs c' q
          rw [bf_t] at this
          omega
    refine ⟨_, ⟨u :: p, M2, rfl, by show p.length + 1 = i + 1; omega, g2, fun j hj => ?_, fun a b ha hb h1 h2 => ?_⟩, rfl⟩
    · show rkS T (if j = p.length then u else rowF p j) = j
      by_cases q : j = p.length
      · rw [if_pos q, hru]; omega
      · rw [if_neg q]
        exact hrk j (by omega)
    · have h1' : (usB p ||| 2 ^ u).testBit a = true := h1
      have h2' : (usB p ||| 2 ^ u).testBit b = false := h2
      rw [or_tb, Bool.or_eq_true, decide_eq_true_eq] at h1'
      rw [or_tb, Bool.or_eq_false_iff, decide_eq_false_iff_not] at h2'
      rcases h1' with q | q
      · exact hcl a b ha hb q h2'.1
      · rw [← q]
        exact m3 b hb h2'.1 (fun z => h2'.2 z.symm)
  · have hu' : (0 : Nat).testBit u = true := hu
    rw [Nat.zero_testBit] at hu'
    exact absurd hu' (by decide)
end Walk
theorem guild_v {M : Mem} {k : Nat} {T : TownA} {x y : Nat} (h : RI M k T x y) (hV : TV T) (hx : x < 100) (hy : y < 100) {p : List Nat} (hp : VS (tW T) p) (hl : p.length = tW T) (hrk : ∀ j, j < tW T → rkS T (rowF p j) = j) : ∃ M', f_X10_guild M = some (nI (ltF T x y (rowF p) (tW T)), M') ∧ FM M M' := by
  have h6 := hV.1.2.2.2.2
  have h40 : gI M 100 40 = nI (tW T) := h.1.2.2.1
  have hrow : ∀ j, j < tW T → rowF p j < tW T := fun j hj => VS_row hp j (by omega)
  unfold f_X10_guild f_X10_guild_2
  refine lpU_inv (fun w a => ∃ M', a = (nI w, M') ∧ FK 100 (p1 43) M M' ∧ ∀ v, v < w → gA M' 100 43 (rkS T v) = nI v) (tW T) (fun z => ∃ M', z = some (nI (ltF T x y (rowF p) (tW T)), M') ∧ FM M M') (by omega) ?_ ?_ 0 _ (Nat.zero_le _) ⟨M, rfl, FK_rf M, fun v hv => by omega⟩
  · rintro rc a ⟨M1, rfl, hf, ht⟩
    have hI := RI_FK h hf rfl
    have hr : RW M1 (tW T) (rowF p) := fun j hj => by
      have := ht (rowF p j) (hrow j hj)
      rw [hrk j hj] at this
      exact this
    obtain ⟨M2, g1, g2, g3⟩ := walk_v hI hV hx hy h6 hr hrow
    have hI2 := RI_FK hI g2 rfl
    show ∃ M', b_X10_guild_2 _ (nI (tW T)) M1 = _ ∧ _
    unfold b_X10_guild_2
    rw [hf.1, h40, if_pos (nI_le (Nat.le_refl _) (by omega)), g1, bn_s, lateness_v hI2 hV hx hy (RW_cg hr (FK_o g2 (by omega))) hrow g3, bn_s]
    exact ⟨M2, rfl, FM_tr (FM_p hf (by omega)) (FM_p g2 (by omega))⟩
  · rintro rc w a hw ⟨M1, rfl, hf, ht⟩
    refine Or.inr ?_
    have hI := RI_FK h hf rfl
    have hn := rk_n hw
    show ∃ a', _ ∧ b_X10_guild_2 _ (nI w) M1 = _
    unfold b_X10_guild_2
    rw [hf.1, h40, if_neg (nI_ge hw (by omega))]
    have eloop : f_X10_guild_14 (fun x0 x1 => rc (x0, x1)) (nI w) FU (nI 0, nI 0, M1) = rc (nI (w + 1), sA M1 100 43 (rkS T w) (nI w)) := by
      unfold f_X10_guild_14
      refine lpU_for (fun o => (nI (gSum (fun o => if bfB T o w = true then 1 else 0) o), nI o, M1)) (tW T) _ (by omega) 0 (Nat.zero_le _) ?_ ?_
      · intro rc2
        show b_X10_guild_14 _ (nI w) _ (nI (rkS T w)) (nI (tW T)) M1 = _
        unfold b_X10_guild_14
        rw [hf.1, h40, if_pos (nI_le (Nat.le_refl _) (by omega)), gin_n (by omega) (by omega), ix_n (by omega), nm_s, nI_add, nm_s]
      · intro rc2 o _ ho
        obtain ⟨-, -, -, d1⟩ := hV.2.1 w hw
        obtain ⟨-, -, -, d2⟩ := hV.2.1 o ho
        show b_X10_guild_14 _ (nI w) _ (nI (gSum (fun o => if bfB T o w = true then 1 else 0) o)) (nI o) M1 = rc2 (nI (gSum (fun o => if bfB T o w = true then 1 else 0) o + (if bfB T o w = true then 1 else 0)), nI (o + 1), M1)
        unfold b_X10_guild_14 f_X10_guild_66 f_X10_guild_70 f_X10_guild_71
        rw [hf.1, h40, if_neg (nI_ge ho (by omega)), due_v hI hV ho, due_v hI hV hw]
        simp only [bn_s, nm_s]
        rw [ite_p (lt_n (by omega) (by omega)), ite_p (eq_n (a := tDu T o) (b := tDu T w) (by omega) (by omega)), ite_p (le_n (by omega) (by omega)), show b2i true = nI 1 from rfl, show b2i false = nI 0 from rfl, nI_add, nI_add, nI_add]
        by_cases c1 : tDu T o < tDu T w
        · rw [if_pos c1, if_pos (bf_t.mpr (Or.inl c1))]
        · rw [if_neg c1]
          by_cases c2 : tDu T o = tDu T w
          · rw [if_pos c2]
            by_cases c3 : w ≤ o
            · rw [if_pos c3, if_neg (fun z => by rw [bf_t] at z; omega)]
            · rw [if_neg c3, if_pos (bf_t.mpr (Or.inr ⟨c2, by omega⟩))]
          · rw [if_neg c2, if_neg (fun z => by rw [bf_t] at z; omega)]
    rw [eloop]
    refine ⟨_, ⟨_, rfl, FK_tr hf (FK_sA _ (p1_r 43)), fun v hv => ?_⟩, rfl⟩
    rw [gA_sA]
    by_cases q : v = w
    · rw [q, if_pos ⟨rfl, rfl, rfl⟩]
    · rw [if_neg (fun z => rk_inj (by omega) hw q z.2.2)]
      exact ht v (by omega)
theorem q_rounds {Mx Mm : Mem} (H : Rl Mx Mm) (a w : Int32) : EqI Mx Mm (f_X9_rounds Mx a w) (f_X10_rounds Mm a w) := by
  have h0 := FM_sI Mm (o := 100) (k := 0) (v := nI 0)
  unfold f_X9_rounds f_X10_rounds
  rw [nm_s]
  rcases town_cases H a with ⟨e1, e2⟩ | ⟨k, T, hk, rfl, hV, hX, hM, e1, e2⟩
  · rw [e1, bn_s, opt_none, e2 _ h0]
    exact ⟨_, _, _, rfl, rfl, Rl_fr H (FX_rf Mx) (FM_tr h0 (FM_sI _))⟩
  · have hF := FM_tr h0 (FM_mt (sI Mm 100 0 (nI 0)) k T)
    have hI := mt_RI (M := sI Mm 100 0 (nI 0)) hk (TM_cg rfl hM)
    obtain ⟨x1, y1, -, -, h6⟩ := hV.1
    have ho : 6 + k < 10 := by omega
    obtain ⟨M1, g1, g2⟩ := begin_v hV hX ho (tX T) (tY T)
    obtain ⟨M2, f1, f2, f3, f4, f5, f6, ⟨f7, f8, f9⟩, f10⟩ := findRounds_v hI hV (by omega) (by omega)
    have hR : Rl M1 M2 := Rl_fr H g2.2.1.1 (FM_tr hF f3)
    obtain ⟨M3, s, s1, s2, s3, s4, s5, s6⟩ := most_v hV (x := tX T) (y := tY T) (by omega) (by omega) hX ho g2
    obtain ⟨mo1, mo2⟩ := mo_eq hV (tX T) (tY T)
    rw [← s1] at mo1 mo2
    have hX1 := TX_cg (g2.2.1.1 (6 + k) (by omega)) hX
    have h40 : gI M2 100 40 = nI (tW T) := f2.1.2.2.1
    rw [e1, bn_s, opt_some, e2 _ h0, bp_s, if_pos rfl, f1, bn_s, hX.1.1, hX.1.2.1, g1, bn_s, h40, f4, f5, f6, s2]
    have hRm : Rl M3 M2 := Rl_fr H s3 (FM_tr hF f3)
    -- the class's last part
    have k92 : ∀ v, (tW T = 0 → ∀ u, f_X9_rounds_92 (nI k) v (6 + k) u M1 = some (-1, M1)) := by
      intro v z u
      unfold f_X9_rounds_92
      rw [hX1.1.2.2.2.2, z, if_pos rfl]
    rcases int_cases w with hw | ⟨w, hw, rfl⟩
    · have n92 : ∀ u, f_X9_rounds_92 (nI k) w (6 + k) u M1 = some (-1, M1) := by
        intro u
        by_cases z : tW T = 0
        · exact k92 w z u
        · unfold f_X9_rounds_92
          rw [hX1.1.2.2.2.2, if_neg (ne_n z (by omega) (by omega)), if_neg (neg_ne hw 1 (by omega)), if_neg (neg_ne hw 2 (by omega)), if_neg (neg_ne hw 3 (by omega)), if_pos (neg_lt hw 20 (by omega))]
      rw [if_neg (neg_ne hw 0 (by omega)), if_neg (neg_ne hw 0 (by omega)), gnz_n (by omega) (by omega), nm_s, if_pos (neg_lt hw 10 (by omega)), n92, in_neg hw 10 (by omega), in_neg hw 20 (by omega), if_neg (neg_ne hw 1 (by omega)), if_neg (neg_ne hw 2 (by omega)), if_neg (neg_ne hw 3 (by omega)), bn_s, bn_s, if_neg (show ¬ (false = true) by decide), if_neg (show ¬ (false = true) by decide)]
      by_cases z : tW T = 0
      · rw [if_pos (show nI (tW T) = nI 0 by rw [z])]
        exact ⟨_, _, _, rfl, rfl, hR⟩
      · rw [if_neg (ne_n z (by omega) (by omega))]
        exact ⟨_, _, _, rfl, rfl, hR⟩
    by_cases c0 : w = 0
    · subst c0
      rw [if_pos rfl, if_pos rfl, bp_s, mo1]
      exact ⟨_, _, _, rfl, rfl, hRm⟩
    have hsm : s.1 ≤ 6 := by omega
    rw [if_neg (ne_n c0 (by omega) (by omega)), if_neg (ne_n c0 (by omega) (by omega)), gnz_n (by omega) (by omega), rem_n (by omega) (by omega) (by omega), nm_s, ite_p (lt_n (by omega) (by omega)), ite_p (le_n (by omega) (by omega)), bp_s, ite_p (le_n (by omega) (by omega)), ite_p (le_n (by omega) (by omega)), nI_add, in_n hw (by omega) (by omega), bn_s, nI_add, in_n hw (by omega) (by omega), bn_s, ite_p (eq_n (a := tW T) (b := 0) (by omega) (by omega))]
    by_cases z : tW T = 0
    · rw [if_pos z, k92 _ z]
      by_cases d1 : w < 10
      · rw [if_pos d1]
        exact ⟨_, _, _, rfl, rfl, hR⟩
      · rw [if_neg d1]
        by_cases d2 : 20 ≤ w
        · rw [if_pos d2]
          exact ⟨_, _, _, rfl, rfl, hR⟩
        · rw [if_neg d2, if_pos (by omega)]
          exact ⟨_, _, _, rfl, rfl, hRm⟩
    · rw [if_neg z]
      by_cases d1 : 10 ≤ w ∧ w < 20
      · rw [if_neg (by omega), if_neg (by omega)]
        by_cases d2 : w - 10 < s.1
        · have hm : w % 10 = w - 10 := by omega
          have hb := s4 (w - 10) (by omega)
          have hc := (f10 (w - 10) (by omega)).1 (by omega)
          rw [if_neg (by omega), if_neg (by omega), gin_n (by omega) (by omega), ix_n (by omega), if_pos (dT (by omega)), hm, hb, sub_n (by omega), gin_n (by omega) (by omega), ix_n (by omega), hc, mo2 (w - 10) d2]
          exact ⟨_, _, _, rfl, rfl, hRm⟩
        · rw [if_pos (by omega), if_neg (dF (by omega)), if_neg (dF (by omega)), if_neg (ne_n (by omega) hw (by omega)), if_neg (ne_n (by omega) hw (by omega)), if_neg (ne_n (by omega) hw (by omega))]
          exact ⟨_, _, _, rfl, rfl, hRm⟩
      · have e92 : (if w < 10 then f_X9_rounds_92 (nI k) (nI w) (6 + k) (nI (w % 10)) M1 else if 20 ≤ w then f_X9_rounds_92 (nI k) (nI w) (6 + k) (nI (w % 10)) M1 else (if s.1 ≤ w % 10 then some (-1, M3) else if 6 ≤ w % 10 then some (-1, M3) else gin (nI (w % 10)) 6 (some (gA M3 19 9 (ix (nI (w % 10))), M3)))) = f_X9_rounds_92 (nI k) (nI w) (6 + k) (nI (w % 10)) M1 := by
          by_cases q : w < 10
          · rw [if_pos q]
          · rw [if_neg q, if_pos (by omega)]
        rw [e92, if_neg (dF (by omega))]
        unfold f_X9_rounds_92
        rw [hX1.1.2.2.2.2, if_neg (ne_n z (by omega) (by omega)), ite_p (eq_n (a := w) (b := 1) (by omega) (by omega)), ite_p (eq_n (a := w) (b := 2) (by omega) (by omega)), ite_p (eq_n (a := w) (b := 3) (by omega) (by omega)), ite_p (eq_n (a := w) (b := 1) (by omega) (by omega)), ite_p (eq_n (a := w) (b := 2) (by omega) (by omega)), ite_p (eq_n (a := w) (b := 3) (by omega) (by omega)), ite_p (lt_n (a := w) (b := 20) (by omega) (by omega)), ite_p (le_n (a := 30) (b := w) (by omega) (by omega)), ite_p (lt_n (a := w % 10) (b := tW T) (by omega) (by omega))]
        obtain ⟨M4, b, b1, b2, b3, b4⟩ := soonest_v hV (x := tX T) (y := tY T) (by omega) (by omega) hX ho g2 (l := 1000000) (Nat.le_refl _)
        rw [so_eq hV] at b1
        have hR4 : Rl M4 M2 := Rl_fr H b3 (FM_tr hF f3)
        by_cases d2 : w = 1
        · rw [if_pos d2, b2, bp_s, if_neg (dF (by omega)), if_pos d2, b1]
          exact ⟨_, _, _, rfl, rfl, hR4⟩
        rw [if_neg d2]
        by_cases d3 : w = 2
        · obtain ⟨M5, l1, l2⟩ := leastLate_v hV (x := tX T) (y := tY T) (by omega) (by omega) hX ho g2
          rw [if_pos d3, l1, bp_s, if_neg (dF (by omega)), if_neg d2, if_pos d3, la_eq hV]
          exact ⟨_, _, _, rfl, rfl, Rl_fr H l2 (FM_tr hF f3)⟩
        rw [if_neg d3]
        by_cases d4 : w = 3
        · obtain ⟨p, M5, l1, l2, l3, l4, l5⟩ := lateByDue_v hV (x := tX T) (y := tY T) (by omega) (by omega) hX ho g2
          obtain ⟨M6, l6, l7⟩ := guild_v f2 hV (by omega) (by omega) l1 l2 l3
          rw [if_pos d4, l4, bp_s, if_neg (dF (by omega)), if_neg d2, if_neg d3, if_pos d4, l6, bp_s]
          exact ⟨_, _, _, rfl, rfl, Rl_fr H l5 (FM_tr hF (FM_tr f3 l7))⟩
        rw [if_neg d4]
        by_cases d5 : 20 ≤ w ∧ w ≤ 19 + tW T
        · obtain ⟨r1, r2⟩ := rs_one hV (by omega) (x := tX T) (y := tY T) (by omega) (by omega)
          have hm : w % 10 = w - 20 := by omega
          have hb := b4 (w - 20) (by rw [b1, r2]; omega)
          have hc := (f10 (w - 20) (by omega)).2 r1
          rw [if_neg (by omega), if_neg (by omega), if_pos (by omega), b2, bp_s, hm, gin_n (by omega) (by omega), ix_n (by omega), hb, if_pos (dT (by omega)), sub_n (by omega), gin_n (by omega) (by omega), ix_n (by omega), hc, b1]
          exact ⟨_, _, _, rfl, rfl, hR4⟩
        · rw [if_neg (dF (by omega)), if_neg d2, if_neg d3, if_neg d4]
          by_cases d6 : w < 20
          · rw [if_pos d6]
            exact ⟨_, _, _, rfl, rfl, hR⟩
          · rw [if_neg d6]
            by_cases d7 : 30 ≤ w
            · rw [if_pos d7]
              exact ⟨_, _, _, rfl, rfl, hR⟩
            · rw [if_neg d7, if_neg (by omega)]
              exact ⟨_, _, _, rfl, rfl, hR⟩
