/-! TEXTS: a line of a LIFE on both sides -/
def KL (x : Nat × Nat) (Mx Mm : Mem) : Prop := ∃ n, n ≤ 40 ∧ gI Mx 12 0 = nI n ∧ gA Mm 100 19 0 = nI n ∧ (x.1 = 0 → ∃ L, L.1 = n ∧ LV L ∧ LX Mx 12 L ∧ LR1 Mm L)
def okD (w : Nat) (v : Int32) : Prop := w ≤ 5 ∧ (w ≤ 2 → ∃ s, s ≤ 8 ∧ v = nI s) ∧ (w = 3 ∨ w = 4 → ∃ g, 1 ≤ g ∧ g ≤ 9 ∧ v = nI g) ∧ (w = 5 → v = -1)
theorem LX_N {M M' : Mem} {o : Nat} {L : LifeA} (ho : 11 ≤ o) (f : FNx M M') (h : LX M o L) : LX M' o L := LX_cg ⟨fun k => f.1 o k (by omega), fun k => f.2.1 o k⟩ h
theorem LX_L {Mx M3 : Mem} {L : LifeA} (f : FLx Mx M3) : LX Mx 12 L → LX M3 12 L := LX_cg ⟨fun k => f.1 12 k (by omega), fun k => f.2.1 12 k (by omega)⟩
theorem LR1_cg {M M' : Mem} {L : LifeA} (h : gA M' 100 19 = gA M 100 19) (H : LR1 M L) : LR1 M' L := by
  unfold LR1 at H ⊢
  rw [h]
  exact H
theorem KL_add {x x' : Nat × Nat} {n w : Nat} {v : Int32} {Mx Mm Mx' M5 M6 : Mem} (n9 : n ≤ 40) (h : x.1 = 0 → ∃ L, L.1 = n ∧ LV L ∧ LX Mx 12 L ∧ LR1 Mm L) (h0 : x'.1 = 0 → x.1 = 0 ∧ n < 40 ∧ okD w v) (x1 : gI Mx' 12 0 = nI (min (n + 1) 40)) (x2 : ∀ L, L.1 = n → n < 40 → LX Mx 12 L → LX Mx' 12 (setL L w v)) (m1 : gA M5 100 19 0 = nI (min (n + 1) 40)) (m2 : ∀ L, L.1 = n → n < 40 → LR1 Mm L → LR1 M5 (setL L w v)) (hF : FTm M5 M6) : KL x' Mx' M6 := by
  refine ⟨min (n + 1) 40, by omega, x1, by rw [hF.2]; exact m1, fun z => ?_⟩
  obtain ⟨z1, z2, z3, z4, z5, z6⟩ := h0 z
  obtain ⟨L, c1, ⟨c2, c3⟩, c4, c5⟩ := h z1
  refine ⟨setL L w v, ?_, ⟨?_, fun k hk => ?_⟩, x2 L c1 z2 c4, LR1_cg (hF.2 100 19) (m2 L c1 z2 c5)⟩
  · show L.1 + 1 = _; omega
  · show L.1 + 1 ≤ 40; omega
  · have hk2 : k < L.1 + 1 := hk
    by_cases q : k = L.1
    · have e1 : (setL L w v).2.1 k = w := if_pos q
      have e2 : (setL L w v).2.2 k = v := if_pos q
      rw [e1, e2]
      exact ⟨z3, z4, z5, z6⟩
    · have e1 : (setL L w v).2.1 k = L.2.1 k := if_neg q
      have e2 : (setL L w v).2.2 k = L.2.2 k := if_neg q
      rw [e1, e2]
      exact c3 k (by omega)
section LifeL
variable {tb : Nat → Nat} {tl : Nat} {M : Mem}
def xDay (tb : Nat → Nat) (tl e n : Nat) (x : Nat × Nat) : Nat × Nat := ntc (40 ≤ n) 3 (tkF tb tl e) x
def xDeed (tb : Nat → Nat) (tl e n lo hi : Nat) (x : Nat × Nat) : Nat × Nat := ntc (vN tb tl e 0 < lo ∨ hi < vN tb tl e 0) 2 (pN tb tl e 0) (xDay tb tl e n x)
theorem day_x {x : Nat × Nat} {e n : Nat} (h : FPx M x) (hn : gI M 12 0 = nI n) (n9 : n ≤ 40) : ∃ M', f_X2_lineOfLife M (nI 5) (nI (tkF tb tl e)) = some M' ∧ FPx M' (xDay tb tl e n x) ∧ FBx M M' ∧ gI M' 12 0 = nI (min (n + 1) 40) ∧ ∀ L, L.1 = n → n < 40 → LX M 12 L → LX M' 12 (setL L 5 (-1)) := by
  obtain ⟨M1, a1, a2, a3⟩ := room_v h (n := n) (m := 40) (q := tkF tb tl e) (by omega) (by omega)
  obtain ⟨M5, i1, i2, i3, i5⟩ := addDeed_v (M := M1) (n := n) (w := 5) (v := -1) (by rw [a3.1 12 0 (by omega)]; exact hn) n9
  unfold f_X2_lineOfLife
  rw [hn, a1, bn_s, if_pos rfl, i1, bn_s]
  exact ⟨M5, rfl, FPx_O a2 i2, FBx_tr (FBx_N a3) (FBx_O i2), i3, fun L q1 q2 q3 => i5 L q1 q2 (LX_N (by omega) a3 q3)⟩
theorem deed_x {x : Nat × Nat} {e n w lo hi : Nat} (h : FPx M x) (hN : NMx tb tl e 1 M) (hv : OKn tb tl e 1) (hn : gI M 12 0 = nI n) (n9 : n ≤ 40) (hw : (w ≤ 2 ∧ lo = 0 ∧ hi = 8) ∨ ((w = 3 ∨ w = 4) ∧ lo = 1 ∧ hi = 9)) : ∃ M', f_X2_lineOfLife M (nI w) (nI (tkF tb tl e)) = some M' ∧ FPx M' (xDeed tb tl e n lo hi x) ∧ FBx M M' ∧ gI M' 12 0 = nI (min (n + 1) 40) ∧ ∀ L, L.1 = n → n < 40 → LX M 12 L → LX M' 12 (setL L w (nI (vN tb tl e 0))) := by
  obtain ⟨v0, n0, m0⟩ := num_x hN hv (j := 0) (by omega)
  obtain ⟨M1, a1, a2, a3⟩ := room_v h (n := n) (m := 40) (q := tkF tb tl e) (by omega) (by omega)
  obtain ⟨M2, b1, b2, b3⟩ := bound_v a2 (j := 0) (lo := lo) (hi := hi) (by omega) (by rw [a3.2.1]; exact n0) (by rw [a3.2.1]; exact m0) (by omega) (by omega) (by omega)
  have c3 := FNx_tr a3 b3
  obtain ⟨M5, i1, i2, i3, i5⟩ := addDeed_v (M := M2) (n := n) (w := w) (v := nI (vN tb tl e 0)) (by rw [c3.1 12 0 (by omega)]; exact hn) n9
  have e58 : f_X2_lineOfLife_58 (nI w) (nI (tkF tb tl e)) M2 = some M5 := by
    unfold f_X2_lineOfLife_58
    rw [gin_n (by omega) (by omega), ix_n (by omega), c3.2.1, n0, i1, bn_s]
  have ef : f_X2_lineOfLife M (nI w) (nI (tkF tb tl e)) = some M5 := by
    unfold f_X2_lineOfLife f_X2_lineOfLife_39
    rw [hn, a1, bn_s, if_neg (ne_n (by omega) (by omega) (by omega))]
    rcases hw with ⟨w1, rfl, rfl⟩ | ⟨w1, rfl, rfl⟩
    · rw [if_neg (ne_n (by omega) (by omega) (by omega)), if_neg (ne_n (by omega) (by omega) (by omega)), b1, bn_s, e58]
    · rcases w1 with rfl | rfl
      · rw [if_pos rfl, b1, bn_s]; exact e58
      · rw [if_neg (by decide), if_pos rfl, b1, bn_s]; exact e58
  exact ⟨M5, ef, FPx_O b2 i2, FBx_tr (FBx_N c3) (FBx_O i2), i3, fun L q1 q2 q3 => i5 L q1 q2 (LX_N (by omega) c3 q3)⟩
theorem deedBy_v : ∀ w, w ≤ 5 → f_X10_deedBy (lN (wC (4 + w))) = some (nI w) := by decide +kernel
theorem life76 {e j n w : Nat} {v : Int32} {x : Nat × Nat} {wd : Int64} {q : Int32} {M0 : Mem} (h : MLs tb tl e j x M) (hF : FM M0 M) (hv : gA M 100 20 1 = v) (hc : gA M 100 19 0 = nI n) (n9 : n ≤ 40) : LR tb tl e j (fun M' => MLs tb tl e j x M' ∧ FM M0 M' ∧ gA M' 100 19 0 = nI (min (n + 1) 40) ∧ ∀ L, L.1 = n → n < 40 → LR1 M L → LR1 M' (setL L w v)) M0 (f_X10_lifeLine_76 wd q (nI w) M) := by
  obtain ⟨M', k1, k2, k3, k4, k5, k6⟩ := keep_v (n := 2) (m := 40) (c := n) (MLs_A h (k := 20) (j := 0) (v := nI w) (by omega)) (by omega) (by omega) (by rw [gA_sA, if_neg (by omega)]; exact hc) n9 (by omega)
  unfold f_X10_lifeLine_76
  rw [gin_n (by omega) (by omega), ix_n (by omega), nm_s, k1, bn_s]
  refine LR_e h.2.2.2.2 ⟨k2, FM_tr hF (FM_tr (FM_sA _ (by omega)) k3), k4, ?_⟩
  rintro L hL hn ⟨g1, g2⟩
  obtain ⟨r1, r2⟩ := k6 hn
  refine ⟨by rw [k4]; show nI (min (n + 1) 40) = nI (L.1 + 1); rw [show min (n + 1) 40 = L.1 + 1 by omega], fun k hk => ?_⟩
  have hk2 : k < L.1 + 1 := hk
  show _ = nI (if k = L.1 then w else L.2.1 k) ∧ _ = if k = L.1 then v else L.2.2 k
  by_cases p : k = L.1
  · have s0 := r1 0 (by omega)
    have s1 := r1 1 (by omega)
    rw [gA_sA, if_pos ⟨rfl, rfl, rfl⟩] at s0
    rw [gA_sA, if_neg (by omega), hv] at s1
    rw [if_pos p, if_pos p, p, hL]
    exact ⟨s0, s1⟩
  · rw [if_neg p, if_neg p, r2 _ (by omega) (by omega), r2 _ (by omega) (by omega), gA_sA, if_neg (by omega), gA_sA, if_neg (by omega)]
    exact g2 k (by omega)
theorem day_m {x : Nat × Nat} {e n : Nat} (h : MSt tb tl e x M) (hn : gA M 100 19 0 = nI n) (n9 : n ≤ 40) : LR tb tl e 0 (fun M' => MLs tb tl e 0 (xDay tb tl e n x) M' ∧ FM M M' ∧ gA M' 100 19 0 = nI (min (n + 1) 40) ∧ ∀ L, L.1 = n → n < 40 → LR1 M L → LR1 M' (setL L 5 (-1))) M (f_X10_lifeLine M (lN (wC (4 + 5))) (nI (tkF tb tl e))) := by
  obtain ⟨M1, M2, a1, a2, a3, a4⟩ := full_first h hn n9 (by omega)
  unfold f_X10_lifeLine f_X10_lifeLine_53
  rw [deedBy_v 5 (by omega), bn_s, if_neg (nI_m1 5 (by omega)), a1, bn_s, a2, bn_s, gin_n (by omega) (by omega), ix_n (by omega), nm_s, if_pos (by decide), in_n (by omega) (by omega) (by omega), bn_s, if_neg (by decide)]
  have e19 : gA M2 100 19 = gA M 100 19 := a4.2 19 (by omega)
  refine LR_mono (life76 (w := 5) (v := -1) (n := n) (MLs_A a3 (by omega)) (FM_tr (FT2_FM a4) (FM_sA _ (by omega))) (by rw [gA_sA, if_pos ⟨rfl, rfl, rfl⟩]) (by rw [gA_sA, if_neg (by omega), e19]; exact hn) n9) fun M' z => ⟨z.1, z.2.1, z.2.2.1, fun L q1 q2 q3 => z.2.2.2 L q1 q2 (LR1_cg (by funext s; rw [gA_sA, if_neg (by omega), e19]) q3)⟩
theorem deed_m {x : Nat × Nat} {e n w lo hi : Nat} (h : MSt tb tl e x M) (hn : gA M 100 19 0 = nI n) (n9 : n ≤ 40) (hw : (w ≤ 2 ∧ lo = 0 ∧ hi = 8) ∨ ((w = 3 ∨ w = 4) ∧ lo = 1 ∧ hi = 9)) : LR tb tl e 1 (fun M' => MLs tb tl e 1 (xDeed tb tl e n lo hi x) M' ∧ FM M M' ∧ gA M' 100 19 0 = nI (min (n + 1) 40) ∧ ∀ L, L.1 = n → n < 40 → LR1 M L → LR1 M' (setL L w (nI (vN tb tl e 0)))) M (f_X10_lifeLine M (lN (wC (4 + w))) (nI (tkF tb tl e))) := by
  obtain ⟨M1, M2, a1, a2, a3, a4⟩ := full_first h hn n9 (by omega)
  unfold f_X10_lifeLine
  rw [deedBy_v w (by omega), bn_s, if_neg (nI_m1 w (by omega)), a1, bn_s, a2, bn_s, gin_n (by omega) (by omega), ix_n (by omega), nm_s, ite_p (le_n (by omega) (by omega))]
  have e19 : gA (sA M2 100 20 1 (-1)) 100 19 = gA M 100 19 := by
    funext s
    rw [gA_sA, if_neg (by omega), a4.2 19 (by omega)]
  have fin : ∀ M3, MLs tb tl e (0 + 1) (xDeed tb tl e n lo hi x) M3 → FT2 (sA M2 100 20 1 (-1)) M3 → gA M3 100 20 1 = nI (vlT tb tl (ps tb tl e (0 + 1))) → LR tb tl e 1 (fun M' => MLs tb tl e 1 (xDeed tb tl e n lo hi x) M' ∧ FM M M' ∧ gA M' 100 19 0 = nI (min (n + 1) 40) ∧ ∀ L, L.1 = n → n < 40 → LR1 M L → LR1 M' (setL L w (nI (vN tb tl e 0)))) M (f_X10_lifeLine_76 (lN (wC (4 + w))) (nI (tkF tb tl e)) (nI w) M3) := by
    intro M3 b1 b2 b3
    have f19 : gA M3 100 19 = gA M 100 19 := by rw [b2.2 19 (by omega), e19]
    exact LR_mono (life76 (w := w) (n := n) b1 (FM_tr (FT2_FM a4) (FM_tr (FM_sA _ (by omega)) (FT2_FM b2))) b3 (by rw [f19]; exact hn) n9) fun M' z => ⟨z.1, z.2.1, z.2.2.1, fun L q1 q2 q3 => z.2.2.2 L q1 q2 (LR1_cg f19 q3)⟩
  rcases hw with ⟨w1, rfl, rfl⟩ | ⟨w1, rfl, rfl⟩
  · rw [if_neg (by omega)]
    refine take_LR (MLs_A a3 (by omega)) (FM_tr (FT2_FM a4) (FM_sA _ (by omega))) (by omega) (by omega) (by omega) (by omega) fun M3 b1 b2 b3 b4 b5 => ?_
    unfold f_X10_lifeLine_53
    rw [in_n (by omega) (by omega) (by omega), bn_s, if_neg (by simp only [decide_eq_true_eq]; omega)]
    exact fin M3 b1 b2 b3
  · rw [if_pos (by omega)]
    unfold f_X10_lifeLine_53
    rw [in_n (by omega) (by omega) (by omega), bn_s, if_pos (by simp only [decide_eq_true_eq]; omega)]
    refine take_LR (MLs_A a3 (by omega)) (FM_tr (FT2_FM a4) (FM_sA _ (by omega))) (by omega) (by omega) (by omega) (by omega) fun M3 b1 b2 b3 b4 b5 => ?_
    exact fin M3 b1 b2 b3
theorem wordL {e : Nat} (h : XTk tb tl e M) (hk : tkK tb tl e = 1) : (∀ w, w ≤ 5 → wdT tb tl e = wC (4 + w) → f_X2_wordOf M (nI 1) = some (nI w)) ∧ ((∀ w, w ≤ 5 → ¬ wdT tb tl e = wC (4 + w)) → f_X2_wordOf M (nI 1) = some (-1)) := by
  unfold f_X2_wordOf
  rw [if_neg (by decide), if_pos rfl, (is_word h hk (k := 4) (by omega)).1, (is_word h hk (k := 5) (by omega)).1, (is_word h hk (k := 6) (by omega)).1, (is_word h hk (k := 7) (by omega)).1, (is_word h hk (k := 8) (by omega)).1, (is_word h hk (k := 9) (by omega)).1, bn_s, bn_s, bn_s, bn_s, bn_s, bn_s]
  refine ⟨fun w hw e => ?_, fun hn => ?_⟩
  · rw [e]
    have key : ∀ w, w ≤ 5 → (if decide (wC (4 + w) = wC 4) = true then some (nI 0) else if decide (wC (4 + w) = wC 5) = true then some (nI 1) else if decide (wC (4 + w) = wC 6) = true then some (nI 2) else if decide (wC (4 + w) = wC 7) = true then some (nI 3) else if decide (wC (4 + w) = wC 8) = true then some (nI 4) else if decide (wC (4 + w) = wC 9) = true then some (nI 5) else some (-1)) = some (nI w) := by decide +kernel
    exact key w hw
  · rw [decide_eq_false (hn 0 (by omega)), decide_eq_false (hn 1 (by omega)), decide_eq_false (hn 2 (by omega)), decide_eq_false (hn 3 (by omega)), decide_eq_false (hn 4 (by omega)), decide_eq_false (hn 5 (by omega))]
    rfl
theorem life_line {e : Nat} {x : Nat × Nat} {Mx Mm : Mem} (hX : XTk tb tl e Mx) (hFx : FPx Mx x) (hM : MTk tb tl e Mm) (hFm : FPm Mm x) (hP : PB x (tkF tb tl e)) (hK : KL x Mx Mm) (hk0 : ¬ tkK tb tl e = 0) : StepR tb tl KL 1 e Mx Mm := by
  obtain ⟨n, n9, k1, k2, k3⟩ := hK
  have hlo : ∀ M (wd : Int64) v, f_X10_lineOf M (nI 1) wd v = f_X10_lifeLine M wd v := fun M wd v => by
    unfold f_X10_lineOf
    rw [if_neg (by decide), if_pos rfl]
    cases f_X10_lifeLine M wd v <;> rfl
  have hbo : ∀ w q M, bodyX (nI 1) w q M = f_X2_lineOfLife M w q := fun w q M => by
    unfold bodyX
    rw [if_neg (by decide), if_pos rfl]
    cases f_X2_lineOfLife M w q <;> rfl
  by_cases hk : tkK tb tl e = 1
  · obtain ⟨hw1, hw2⟩ := wordL hX hk
    have w63 := (is_word hX hk (k := 0) (by omega)).2
    by_cases hex : ∃ w, w ≤ 5 ∧ wdT tb tl e = wC (4 + w)
    · obtain ⟨w, w5, pw⟩ := hex
      have hw := hw1 w w5 pw
      by_cases wd : w = 5
      · subst wd
        refine join hX hM hP hFm hk hw (by omega) (n := 0) (by decide +kernel) (by omega) (x' := xDay tb tl e n x) (fun Mx' => gI Mx' 12 0 = nI (min (n + 1) 40) ∧ ∀ L, L.1 = n → n < 40 → LX Mx 12 L → LX Mx' 12 (setL L 5 (-1))) (fun M5 => gA M5 100 19 0 = nI (min (n + 1) 40) ∧ ∀ L, L.1 = n → n < 40 → LR1 Mm L → LR1 M5 (setL L 5 (-1))) ?_ ?_ ?_
        · intro M3 f1 f2 f3 f4
          obtain ⟨Mx', g1, g2, g3, g4, g5⟩ := day_x (tb := tb) (tl := tl) (e := e) (FPx_L hFx f4) (by rw [f1.1 12 0 (by omega)]; exact k1) n9
          exact ⟨Mx', by rw [hbo]; exact g1, g2, g3, g4, fun L q1 q2 q3 => g5 L q1 q2 (LX_L f1 q3)⟩
        · intro hst
          rw [hlo, pw]
          exact LR_mono (day_m hst (n := n) (by rw [gA_sI]; exact k2) n9) fun M' z => ⟨z.1, z.2.1, z.2.2.1, fun L q1 q2 q3 => z.2.2.2 L q1 q2 (LR1_cg rfl q3)⟩
        · intro Mx' M5 M6 _ q1 q2 q3
          refine KL_add (w := 5) (v := -1) n9 k3 (fun z => ?_) q1.1 q1.2 q2.1 q2.2 q3
          obtain ⟨z1, z2⟩ := ntc_0 (by omega) z
          exact ⟨z1, by omega, by omega, fun z => by omega, fun z => by omega, fun _ => rfl⟩
      · obtain ⟨lo, hi, hlh⟩ : ∃ lo hi, (w ≤ 2 ∧ lo = 0 ∧ hi = 8) ∨ ((w = 3 ∨ w = 4) ∧ lo = 1 ∧ hi = 9) := by
          by_cases q : w ≤ 2
          · exact ⟨0, 8, Or.inl ⟨q, rfl, rfl⟩⟩
          · exact ⟨1, 9, Or.inr ⟨by omega, rfl, rfl⟩⟩
        have hnum : ∀ w, w ≤ 5 → ¬ w = 5 → f_X2_numbersOf (nI 1) (nI w) = some (nI 1) := by decide +kernel
        refine join hX hM hP hFm hk hw (by omega) (n := 1) (hnum w w5 wd) (by omega) (x' := xDeed tb tl e n lo hi x) (fun Mx' => gI Mx' 12 0 = nI (min (n + 1) 40) ∧ ∀ L, L.1 = n → n < 40 → LX Mx 12 L → LX Mx' 12 (setL L w (nI (vN tb tl e 0)))) (fun M5 => gA M5 100 19 0 = nI (min (n + 1) 40) ∧ ∀ L, L.1 = n → n < 40 → LR1 Mm L → LR1 M5 (setL L w (nI (vN tb tl e 0)))) ?_ ?_ ?_
        · intro M3 f1 f2 f3 f4
          obtain ⟨Mx', g1, g2, g3, g4, g5⟩ := deed_x (FPx_L hFx f4) f2 f3 (by rw [f1.1 12 0 (by omega)]; exact k1) n9 hlh
          exact ⟨Mx', by rw [hbo]; exact g1, g2, g3, g4, fun L q1 q2 q3 => g5 L q1 q2 (LX_L f1 q3)⟩
        · intro hst
          rw [hlo, pw]
          exact LR_mono (deed_m hst (n := n) (by rw [gA_sI]; exact k2) n9 hlh) fun M' z => ⟨z.1, z.2.1, z.2.2.1, fun L q1 q2 q3 => z.2.2.2 L q1 q2 (LR1_cg rfl q3)⟩
        · intro Mx' M5 M6 _ q1 q2 q3
          refine KL_add (w := w) (v := nI (vN tb tl e 0)) n9 k3 (fun z => ?_) q1.1 q1.2 q2.1 q2.2 q3
          obtain ⟨z1, z2⟩ := ntc_0 (by omega) z
          obtain ⟨z3, z4⟩ := ntc_0 (by omega) z1
          exact ⟨z3, by omega, w5, fun z => ⟨vN tb tl e 0, by omega, rfl⟩, fun z => ⟨vN tb tl e 0, by omega, by omega, rfl⟩, fun z => absurd z wd⟩
    · have hne : ∀ w, w ≤ 5 → ¬ wdT tb tl e = wC (4 + w) := fun w w5 z => hex ⟨w, w5, z⟩
      refine join_n hX hM hk0 (fun _ => hw2 hne) fun M v wd hwd => ?_
      have hne2 : ∀ k, k ≤ 5 → ¬ (lg_cmp wd (lN (wC (4 + k))) = nI 0) := by
        intro k hk4
        rcases hwd with rfl | ⟨-, rfl⟩
        · rw [lcmp_n (Nat.two_pow_pos 63) (wC_63 (4 + k) (by omega)).1]
          exact fun z => (wC_63 (4 + k) (by omega)).2 z.symm
        · rw [lcmp_n w63 (wC_63 (4 + k) (by omega)).1]
          exact hne k hk4
      have hdb : f_X10_deedBy wd = some (-1) := by
        have n0 := hne2 0 (by omega)
        have n1 := hne2 1 (by omega)
        have n2 := hne2 2 (by omega)
        have n3 := hne2 3 (by omega)
        have n4 := hne2 4 (by omega)
        have n5 := hne2 5 (by omega)
        obtain ⟨-, -, -, -, w4, w5, w6, w7, w8, w9, -⟩ := wC_all
        rw [w4] at n0
        rw [w5] at n1
        rw [w6] at n2
        rw [w7] at n3
        rw [w8] at n4
        rw [w9] at n5
        unfold f_X10_deedBy
        rw [if_neg n0, if_neg n1, if_neg n2, if_neg n3, if_neg n4, if_neg n5]
      rw [hlo]
      unfold f_X10_lifeLine
      rw [hdb, bn_s, if_pos rfl]
      rfl
  · refine join_n hX hM hk0 (fun z => absurd z hk) fun M v wd hwd => ?_
    rcases hwd with rfl | ⟨z, -⟩
    · rw [hlo]
      have : f_X10_deedBy (lN 0) = some (-1) := by decide +kernel
      unfold f_X10_lifeLine
      rw [this, bn_s, if_pos rfl]
      rfl
    · exact absurd z hk
end LifeL
