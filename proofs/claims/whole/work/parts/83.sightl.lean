/-! TEXTS: a line of a SIGHT on both sides -/
def KF (x : Nat × Nat) (Mx Mm : Mem) : Prop := ∃ n, n ≤ 10 ∧ gI Mx 14 0 = nI n ∧ gA Mm 100 19 0 = nI n ∧ (x.1 = 0 → ∃ S, S.1 = n ∧ SV S ∧ SX Mx 14 S ∧ SR1 Mm S)
theorem SX_N {M M' : Mem} {o : Nat} {S : SightA} (ho : 11 ≤ o) (f : FNx M M') (h : SX M o S) : SX M' o S := SX_cg ⟨fun k => f.1 o k (by omega), fun k => f.2.1 o k⟩ h
theorem SX_L {Mx M3 : Mem} {S : SightA} (f : FLx Mx M3) : SX Mx 14 S → SX M3 14 S := SX_cg ⟨fun k => f.1 14 k (by omega), fun k => f.2.1 14 k (by omega)⟩
theorem SR1_cg {M M' : Mem} {S : SightA} (h : gA M' 100 19 = gA M 100 19) (H : SR1 M S) : SR1 M' S := by
  unfold SR1 at H ⊢
  rw [h]
  exact H
theorem KF_add {x x' : Nat × Nat} {n w a b : Nat} {Mx Mm Mx' M5 M6 : Mem} (n9 : n ≤ 10) (h : x.1 = 0 → ∃ S, S.1 = n ∧ SV S ∧ SX Mx 14 S ∧ SR1 Mm S) (h0 : x'.1 = 0 → x.1 = 0 ∧ n < 10 ∧ w ≤ 2 ∧ a ≤ 8 ∧ b ≤ 8 ∧ (w = 0 → a ≠ b)) (x1 : gI Mx' 14 0 = nI (min (n + 1) 10)) (x2 : ∀ S, S.1 = n → n < 10 → SX Mx 14 S → SX Mx' 14 (setF S w a b)) (m1 : gA M5 100 19 0 = nI (min (n + 1) 10)) (m2 : ∀ S, S.1 = n → n < 10 → SR1 Mm S → SR1 M5 (setF S w a b)) (hF : FTm M5 M6) : KF x' Mx' M6 := by
  refine ⟨min (n + 1) 10, by omega, x1, by rw [hF.2]; exact m1, fun z => ?_⟩
  obtain ⟨z1, z2, z3, z4, z5, z6⟩ := h0 z
  obtain ⟨S, c1, ⟨c2, c3⟩, c4, c5⟩ := h z1
  refine ⟨setF S w a b, ?_, ⟨?_, fun k hk => ?_⟩, x2 S c1 z2 c4, SR1_cg (hF.2 100 19) (m2 S c1 z2 c5)⟩
  · show S.1 + 1 = _; omega
  · show S.1 + 1 ≤ 10; omega
  · have hk2 : k < S.1 + 1 := hk
    by_cases q : k = S.1
    · have e1 : (setF S w a b).2.1 k = w := if_pos q
      have e2 : (setF S w a b).2.2.1 k = a := if_pos q
      have e3 : (setF S w a b).2.2.2 k = b := if_pos q
      rw [e1, e2, e3]
      exact ⟨z3, z4, z5, z6⟩
    · have e1 : (setF S w a b).2.1 k = S.2.1 k := if_neg q
      have e2 : (setF S w a b).2.2.1 k = S.2.2.1 k := if_neg q
      have e3 : (setF S w a b).2.2.2 k = S.2.2.2 k := if_neg q
      rw [e1, e2, e3]
      exact c3 k (by omega)
section SightL
variable {tb : Nat → Nat} {tl : Nat} {M : Mem}
def xFact (tb : Nat → Nat) (tl e n w : Nat) (x : Nat × Nat) : Nat × Nat := ntc ((vN tb tl e 1 < 0 ∨ 8 < vN tb tl e 1) ∨ (w = 0 ∧ vN tb tl e 0 = vN tb tl e 1)) 2 (pN tb tl e 1) (ntc (vN tb tl e 0 < 0 ∨ 8 < vN tb tl e 0) 2 (pN tb tl e 0) (ntc (10 ≤ n) 3 (tkF tb tl e) x))
theorem fact_x {x : Nat × Nat} {e n w : Nat} (h : FPx M x) (hN : NMx tb tl e 2 M) (hv : OKn tb tl e 2) (hn : gI M 14 0 = nI n) (n9 : n ≤ 10) (hw : w ≤ 2) : ∃ M', f_X2_lineOfSight M (nI w) (nI (tkF tb tl e)) = some M' ∧ FPx M' (xFact tb tl e n w x) ∧ FBx M M' ∧ gI M' 14 0 = nI (min (n + 1) 10) ∧ ∀ S, S.1 = n → n < 10 → SX M 14 S → SX M' 14 (setF S w (vN tb tl e 0) (vN tb tl e 1)) := by
  obtain ⟨v0, n0, m0⟩ := num_x hN hv (j := 0) (by omega)
  obtain ⟨v1, n1, m1⟩ := num_x hN hv (j := 1) (by omega)
  obtain ⟨M1, a1, a2, a3⟩ := room_v h (n := n) (m := 10) (q := tkF tb tl e) (by omega) (by omega)
  have fin : ∀ M2, FPx M2 (xFact tb tl e n w x) → FNx M1 M2 → ∃ M', f_X2_lineOfSight_41 (nI w) (nI (tkF tb tl e)) M2 = some M' ∧ FPx M' (xFact tb tl e n w x) ∧ FBx M M' ∧ gI M' 14 0 = nI (min (n + 1) 10) ∧ ∀ S, S.1 = n → n < 10 → SX M 14 S → SX M' 14 (setF S w (vN tb tl e 0) (vN tb tl e 1)) := by
    intro M2 b2 b3
    have c3 := FNx_tr a3 b3
    obtain ⟨M5, i1, i2, i3, i5⟩ := addFact_v (M := M2) (n := n) (w := w) (a := vN tb tl e 0) (b := vN tb tl e 1) (by rw [c3.1 14 0 (by omega)]; exact hn) n9
    unfold f_X2_lineOfSight_41
    rw [gin_n (by omega) (by omega), gin_n (by omega) (by omega), ix_n (by omega), ix_n (by omega), c3.2.1, n0, n1, i1, bn_s]
    exact ⟨M5, rfl, FPx_O b2 i2, FBx_tr (FBx_N c3) (FBx_O i2), i3, fun L q1 q2 q3 => i5 L q1 q2 (SX_N (by omega) c3 q3)⟩
  unfold f_X2_lineOfSight
  rw [hn, a1, bn_s, ite_p (eq_n (by omega) (by omega))]
  by_cases w0 : w = 0
  · obtain ⟨M2, b1, b2, b3⟩ := couple_v a2 (v0 := vN tb tl e 0) (v1 := vN tb tl e 1) (q0 := pN tb tl e 0) (q1 := pN tb tl e 1) (by rw [a3.2.1]; exact n0) (by rw [a3.2.1]; exact m0) (by rw [a3.2.1]; exact n1) (by rw [a3.2.1]; exact m1) (by omega) (by omega)
    rw [if_pos w0, b1, bn_s]
    refine fin M2 ?_ b3
    unfold xFact
    rw [ntc_cg (d := (vN tb tl e 1 < 0 ∨ 8 < vN tb tl e 1) ∨ vN tb tl e 0 = vN tb tl e 1) (by omega)]
    exact b2
  · obtain ⟨M2, b1, b2, b3⟩ := bound_v a2 (j := 0) (lo := 0) (hi := 8) (by omega) (by rw [a3.2.1]; exact n0) (by rw [a3.2.1]; exact m0) (by omega) (by omega) (by omega)
    have c3 := FNx_tr a3 b3
    obtain ⟨M3, d1, d2, d3⟩ := bound_v b2 (j := 1) (lo := 0) (hi := 8) (by omega) (by rw [c3.2.1]; exact n1) (by rw [c3.2.1]; exact m1) (by omega) (by omega) (by omega)
    rw [if_neg w0, b1, bn_s, d1, bn_s]
    refine fin M3 ?_ (FNx_tr b3 d3)
    unfold xFact
    rw [ntc_cg (d := vN tb tl e 1 < 0 ∨ 8 < vN tb tl e 1) (by omega)]
    exact d2
theorem fact93 {e n w : Nat} {b : Int32} {x : Nat × Nat} {wd : Int64} {q : Int32} {M0 : Mem} (h : MLs tb tl e 1 (ntc (vN tb tl e 0 < 0 ∨ 8 < vN tb tl e 0) 2 (pN tb tl e 0) (ntc (10 ≤ n) 3 (tkF tb tl e) x)) M) (hF : FT2 M0 M) (hb : nI (vN tb tl e 1) = b ↔ (w = 0 ∧ vN tb tl e 0 = vN tb tl e 1)) (h1 : gA M 100 20 1 = nI (vN tb tl e 0)) (hc : gA M0 100 19 0 = nI n) (n9 : n ≤ 10) : LR tb tl e 2 (fun M' => MLs tb tl e 2 (xFact tb tl e n w x) M' ∧ FM M0 M' ∧ gA M' 100 19 0 = nI (min (n + 1) 10) ∧ ∀ S, S.1 = n → n < 10 → SR1 M0 S → SR1 M' (setF S w (vN tb tl e 0) (vN tb tl e 1))) M0 (f_X10_sightLine_93 wd q (nI w) (nI 2) false (nI 8) b M) := by
  unfold f_X10_sightLine_93
  rw [show b2i false = nI 0 from rfl]
  refine but_LR h (FT2_FM hF) (by omega) (by omega) (by omega) (by omega) fun M3 b1 b2 b3 b4 b5 => ?_
  have F : FT2 M0 M3 := FT2_tr hF b2
  have f19 : gA M3 100 19 = gA M0 100 19 := F.2 19 (by omega)
  have b1' : MLs tb tl e 2 (xFact tb tl e n w x) M3 := by
    unfold xFact
    rw [ntc_cg (d := (vN tb tl e 1 < 0 ∨ 8 < vN tb tl e 1) ∨ nI (vN tb tl e 1) = b) (by rw [hb])]
    exact b1
  obtain ⟨M', k1, k2, k3, k4, k5, k6⟩ := keep_v (n := 3) (m := 10) (c := n) (MLs_A b1' (k := 20) (j := 0) (v := nI w) (by omega)) (by omega) (by omega) (by rw [gA_sA, if_neg (by omega), f19]; exact hc) n9 (by omega)
  rw [gin_n (by omega) (by omega), ix_n (by omega), nm_s, k1, bn_s]
  refine LR_e b1'.2.2.2.2 ⟨k2, FM_tr (FT2_FM F) (FM_tr (FM_sA _ (by omega)) k3), k4, ?_⟩
  rintro S hL hn ⟨g1, g2⟩
  obtain ⟨r1, r2⟩ := k6 hn
  refine ⟨by rw [k4]; show nI (min (n + 1) 10) = nI (S.1 + 1); rw [show min (n + 1) 10 = S.1 + 1 by omega], fun k hk => ?_⟩
  have hk2 : k < S.1 + 1 := hk
  show _ = nI (if k = S.1 then w else S.2.1 k) ∧ _ = nI (if k = S.1 then vN tb tl e 0 else S.2.2.1 k) ∧ _ = nI (if k = S.1 then vN tb tl e 1 else S.2.2.2 k)
  by_cases p : k = S.1
  · have s0 := r1 0 (by omega)
    have s1 := r1 1 (by omega)
    have s2 := r1 2 (by omega)
    rw [gA_sA, if_pos ⟨rfl, rfl, rfl⟩] at s0
    rw [gA_sA, if_neg (by omega), b4 1 (by omega), h1] at s1
    rw [gA_sA, if_neg (by omega), b3] at s2
    rw [if_pos p, if_pos p, if_pos p, p, hL]
    exact ⟨s0, s1, s2⟩
  · rw [if_neg p, if_neg p, if_neg p, r2 _ (by omega) (by omega), r2 _ (by omega) (by omega), r2 _ (by omega) (by omega), gA_sA, if_neg (by omega), gA_sA, if_neg (by omega), gA_sA, if_neg (by omega), f19]
    exact g2 k (by omega)
theorem fact_m {x : Nat × Nat} {e n w : Nat} (h : MSt tb tl e x M) (hn : gA M 100 19 0 = nI n) (n9 : n ≤ 10) (hw : w ≤ 2) : LR tb tl e 2 (fun M' => MLs tb tl e 2 (xFact tb tl e n w x) M' ∧ FM M M' ∧ gA M' 100 19 0 = nI (min (n + 1) 10) ∧ ∀ S, S.1 = n → n < 10 → SR1 M S → SR1 M' (setF S w (vN tb tl e 0) (vN tb tl e 1))) M (f_X10_sightLine M (lN (wC (15 + w))) (nI (tkF tb tl e))) := by
  obtain ⟨M1, M2, a1, a2, a3, a4⟩ := full_first h hn n9 (by omega)
  have e37 : f_X10_sightLine M (lN (wC (15 + w))) (nI (tkF tb tl e)) = f_X10_sightLine_37 (lN (wC (15 + w))) (nI (tkF tb tl e)) (nI w) M := by
    obtain ⟨-, -, -, -, -, -, -, -, -, -, -, -, -, -, -, w15, w16, w17⟩ := wC_all
    have c : w = 0 ∨ w = 1 ∨ w = 2 := by omega
    unfold f_X10_sightLine
    rcases c with rfl | rfl | rfl
    · rw [w15, if_pos (by decide +kernel)]
    · rw [w16, if_neg (by decide +kernel), if_pos (by decide +kernel)]
    · rw [w17, if_neg (by decide +kernel), if_neg (by decide +kernel), if_pos (by decide +kernel)]
  rw [e37]
  unfold f_X10_sightLine_37
  rw [if_neg (nI_m1 w (by omega)), a1, bn_s, a2, bn_s]
  refine take_LR a3 (FT2_FM a4) (by omega) (by omega) (by omega) (by omega) fun M3 b1 b2 b3 b4 b5 => ?_
  rw [ite_p (eq_n (by omega) (by omega))]
  have v0 : vN tb tl e 0 ≤ 99 := b5
  by_cases w0 : w = 0
  · rw [if_pos w0, gin_n (by omega) (by omega), ix_n (by omega), b3]
    by_cases k2 : tkK tb tl (ps tb tl e 2) = 2
    · have v1 : vN tb tl e 1 ≤ 99 := vlT_99 k2
      refine fact93 b1 (FT2_tr a4 b2) ?_ b3 hn n9
      show nI (vN tb tl e 1) = nI (vN tb tl e 0) ↔ _
      rw [eq_n (by omega) (by omega)]
      omega
    · obtain ⟨M', g1, g2, g3⟩ := but_n (b := nI (vlT tb tl (ps tb tl e (0 + 1)))) (s := nI 2) (lo := b2i false) (hi := nI 8) b1 k2
      unfold f_X10_sightLine_93
      rw [g1, bp_s, if_neg (by decide)]
      exact Or.inr ⟨1, by omega, b1.2.2.2.2, k2, M', rfl, g2, FT2_FM (FT2_tr a4 (FT2_tr b2 g3))⟩
  · rw [if_neg w0]
    by_cases k2 : tkK tb tl (ps tb tl e 2) = 2
    · have v1 : vN tb tl e 1 ≤ 99 := vlT_99 k2
      refine fact93 b1 (FT2_tr a4 b2) ?_ b3 hn n9
      exact ⟨fun z => absurd z (nI_m1 _ (by omega)), fun z => absurd z.1 w0⟩
    · obtain ⟨M', g1, g2, g3⟩ := but_n (b := -1) (s := nI 2) (lo := b2i false) (hi := nI 8) b1 k2
      unfold f_X10_sightLine_93
      rw [g1, bp_s, if_neg (by decide)]
      exact Or.inr ⟨1, by omega, b1.2.2.2.2, k2, M', rfl, g2, FT2_FM (FT2_tr a4 (FT2_tr b2 g3))⟩
theorem wordF {e : Nat} (h : XTk tb tl e M) (hk : tkK tb tl e = 1) : (∀ w, w ≤ 2 → wdT tb tl e = wC (15 + w) → f_X2_wordOf M (nI 3) = some (nI w)) ∧ ((∀ w, w ≤ 2 → ¬ wdT tb tl e = wC (15 + w)) → f_X2_wordOf M (nI 3) = some (-1)) := by
  unfold f_X2_wordOf
  rw [if_neg (by decide), if_neg (by decide), if_neg (by decide), if_pos rfl, (is_word h hk (k := 15) (by omega)).1, (is_word h hk (k := 16) (by omega)).1, (is_word h hk (k := 17) (by omega)).1, bn_s, bn_s, bn_s]
  refine ⟨fun w hw e => ?_, fun hn => ?_⟩
  · rw [e]
    have key : ∀ w, w ≤ 2 → (if decide (wC (15 + w) = wC 15) = true then some (nI 0) else if decide (wC (15 + w) = wC 16) = true then some (nI 1) else if decide (wC (15 + w) = wC 17) = true then some (nI 2) else some (-1)) = some (nI w) := by decide +kernel
    exact key w hw
  · rw [decide_eq_false (hn 0 (by omega)), decide_eq_false (hn 1 (by omega)), decide_eq_false (hn 2 (by omega))]
    rfl
theorem sight_line {e : Nat} {x : Nat × Nat} {Mx Mm : Mem} (hX : XTk tb tl e Mx) (hFx : FPx Mx x) (hM : MTk tb tl e Mm) (hFm : FPm Mm x) (hP : PB x (tkF tb tl e)) (hK : KF x Mx Mm) (hk0 : ¬ tkK tb tl e = 0) : StepR tb tl KF 3 e Mx Mm := by
  obtain ⟨n, n9, k1, k2, k3⟩ := hK
  have hlo : ∀ M (wd : Int64) v, f_X10_lineOf M (nI 3) wd v = f_X10_sightLine M wd v := fun M wd v => by
    unfold f_X10_lineOf
    rw [if_neg (by decide), if_neg (by decide), if_neg (by decide)]
    cases f_X10_sightLine M wd v <;> rfl
  have hbo : ∀ w q M, bodyX (nI 3) w q M = f_X2_lineOfSight M w q := fun w q M => by
    unfold bodyX
    rw [if_neg (by decide), if_neg (by decide), if_neg (by decide)]
    cases f_X2_lineOfSight M w q <;> rfl
  have hfail : ∀ M v wd, (∀ k, k ≤ 2 → ¬ (lg_cmp wd (lN (wC (15 + k))) = nI 0)) → f_X10_lineOf M (nI 3) wd v = some (false, sI M 100 16 (gI M 100 12)) := by
    intro M v wd hne2
    have n0 := hne2 0 (by omega)
    have n1 := hne2 1 (by omega)
    have n2 := hne2 2 (by omega)
    obtain ⟨-, -, -, -, -, -, -, -, -, -, -, -, -, -, -, w15, w16, w17⟩ := wC_all
    rw [w15] at n0
    rw [w16] at n1
    rw [w17] at n2
    rw [hlo]
    unfold f_X10_sightLine f_X10_sightLine_37
    rw [if_neg n0, if_neg n1, if_neg n2, if_pos rfl]
    rfl
  by_cases hk : tkK tb tl e = 1
  · obtain ⟨hw1, hw2⟩ := wordF hX hk
    have w63 := (is_word hX hk (k := 0) (by omega)).2
    by_cases hex : ∃ w, w ≤ 2 ∧ wdT tb tl e = wC (15 + w)
    · obtain ⟨w, w5, pw⟩ := hex
      have hw := hw1 w w5 pw
      have hnum : ∀ w, w ≤ 2 → f_X2_numbersOf (nI 3) (nI w) = some (nI 2) := by decide +kernel
      refine join hX hM hP hFm hk hw (by omega) (n := 2) (hnum w w5) (by omega) (x' := xFact tb tl e n w x) (fun Mx' => gI Mx' 14 0 = nI (min (n + 1) 10) ∧ ∀ S, S.1 = n → n < 10 → SX Mx 14 S → SX Mx' 14 (setF S w (vN tb tl e 0) (vN tb tl e 1))) (fun M5 => gA M5 100 19 0 = nI (min (n + 1) 10) ∧ ∀ S, S.1 = n → n < 10 → SR1 Mm S → SR1 M5 (setF S w (vN tb tl e 0) (vN tb tl e 1))) ?_ ?_ ?_
      · intro M3 f1 f2 f3 f4
        obtain ⟨Mx', g1, g2, g3, g4, g5⟩ := fact_x (FPx_L hFx f4) f2 f3 (by rw [f1.1 14 0 (by omega)]; exact k1) n9 w5
        exact ⟨Mx', by rw [hbo]; exact g1, g2, g3, g4, fun L q1 q2 q3 => g5 L q1 q2 (SX_L f1 q3)⟩
      · intro hst
        rw [hlo, pw]
        exact LR_mono (fact_m hst (n := n) (by rw [gA_sI]; exact k2) n9 w5) fun M' z => ⟨z.1, z.2.1, z.2.2.1, fun L q1 q2 q3 => z.2.2.2 L q1 q2 (SR1_cg rfl q3)⟩
      · intro Mx' M5 M6 _ q1 q2 q3
        refine KF_add (w := w) n9 k3 (fun z => ?_) q1.1 q1.2 q2.1 q2.2 q3
        obtain ⟨z1, z2⟩ := ntc_0 (by omega) z
        obtain ⟨z3, z4⟩ := ntc_0 (by omega) z1
        obtain ⟨z5, z6⟩ := ntc_0 (by omega) z3
        exact ⟨z5, by omega, w5, by omega, by omega, fun w0 => by omega⟩
    · have hne : ∀ w, w ≤ 2 → ¬ wdT tb tl e = wC (15 + w) := fun w w5 z => hex ⟨w, w5, z⟩
      refine join_n hX hM hk0 (fun _ => hw2 hne) fun M v wd hwd => hfail M v wd fun k hk4 => ?_
      rcases hwd with rfl | ⟨-, rfl⟩
      · rw [lcmp_n (Nat.two_pow_pos 63) (wC_63 (15 + k) (by omega)).1]
        exact fun z => (wC_63 (15 + k) (by omega)).2 z.symm
      · rw [lcmp_n w63 (wC_63 (15 + k) (by omega)).1]
        exact hne k hk4
  · refine join_n hX hM hk0 (fun z => absurd z hk) fun M v wd hwd => hfail M v wd fun k hk4 => ?_
    rcases hwd with rfl | ⟨z, -⟩
    · rw [lcmp_n (Nat.two_pow_pos 63) (wC_63 (15 + k) (by omega)).1]
      exact fun z => (wC_63 (15 + k) (by omega)).2 z.symm
    · exact absurd z hk
end SightL
