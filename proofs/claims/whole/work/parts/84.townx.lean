/-! TEXTS: the lines of a TOWN, each side -/
def setTW (T : TownA) (a b c d : Nat) : TownA := ((tX T, tY T, tSp T, tMi T, tW T + 1), (fun w => if w = tW T then a else tXs T w), (fun w => if w = tW T then b else tYs T w), (fun w => if w = tW T then c else tSt T w), (fun w => if w = tW T then d else tDu T w), tFr T, tTo T)
def setTA (T : TownA) (v a b : Nat) : TownA := (T.1, tXs T, tYs T, tSt T, tDu T, (fun w => if w = v then nI a else tFr T w), fun w => if w = v then nI b else tTo T w)
def setTS (T : TownA) (v : Nat) : TownA := ((tX T, tY T, v, tMi T, tW T), T.2)
def setTM (T : TownA) (v : Nat) : TownA := ((tX T, tY T, tSp T, v, tW T), T.2)
def setTP (T : TownA) (a b : Nat) : TownA := ((a, b, tSp T, tMi T, tW T), T.2)
def TR1 (M : Mem) (T : TownA) : Prop := (gA M 100 19 0 = nI (tW T) ∧ gA M 100 19 1 = nI (tSp T) ∧ gA M 100 19 2 = nI (tMi T) ∧ gA M 100 19 3 = nI (tX T) ∧ gA M 100 19 4 = nI (tY T)) ∧ (∀ w, w < tW T → gA M 100 19 (5 + w) = nI (tXs T w) ∧ gA M 100 19 (11 + w) = nI (tYs T w) ∧ gA M 100 19 (17 + w) = nI (tSt T w) ∧ gA M 100 19 (23 + w) = nI (tDu T w)) ∧ ∀ w, w < 6 → gA M 100 19 (29 + w) = tFr T w ∧ gA M 100 19 (35 + w) = tTo T w
theorem TR1_cg {M M' : Mem} {T : TownA} (h : gA M' 100 19 = gA M 100 19) (H : TR1 M T) : TR1 M' T := by
  unfold TR1 at H ⊢
  rw [h]
  exact H
theorem TX_N {M M' : Mem} {o : Nat} {T : TownA} (ho : 11 ≤ o) (f : FNx M M') (h : TX M o T) : TX M' o T := TX_cg ⟨fun k => f.1 o k (by omega), fun k => f.2.1 o k⟩ h
theorem TX_L {Mx M3 : Mem} {T : TownA} (f : FLx Mx M3) : TX Mx 13 T → TX M3 13 T := TX_cg ⟨fun k => f.1 13 k (by omega), fun k => f.2.1 13 k (by omega)⟩
section TownX
variable {tb : Nat → Nat} {tl : Nat} {M : Mem}
def xTa (tb : Nat → Nat) (tl e : Nat) (x : Nat × Nat) : Nat × Nat := ntc (vN tb tl e 1 < 0 ∨ 9 < vN tb tl e 1) 2 (pN tb tl e 1) (ntc (vN tb tl e 0 < 0 ∨ 9 < vN tb tl e 0) 2 (pN tb tl e 0) x)
def xWe (tb : Nat → Nat) (tl e n : Nat) (x : Nat × Nat) : Nat × Nat := ntc (vN tb tl e 3 < 0 ∨ 99 < vN tb tl e 3) 2 (pN tb tl e 3) (ntc (vN tb tl e 2 < 1 ∨ 30 < vN tb tl e 2) 2 (pN tb tl e 2) (ntc (vN tb tl e 1 < 0 ∨ 9 < vN tb tl e 1) 2 (pN tb tl e 1) (ntc (vN tb tl e 0 < 0 ∨ 9 < vN tb tl e 0) 2 (pN tb tl e 0) (ntc (6 ≤ n) 3 (tkF tb tl e) x))))
def xAw (tb : Nat → Nat) (tl e : Nat) (x : Nat × Nat) : Nat × Nat := ntc (vN tb tl e 2 < vN tb tl e 1 ∨ 99 < vN tb tl e 2) 2 (pN tb tl e 2) (ntc (vN tb tl e 1 < 0 ∨ 99 < vN tb tl e 1) 2 (pN tb tl e 1) (ntc (vN tb tl e 0 < 0 ∨ 5 < vN tb tl e 0) 2 (pN tb tl e 0) x))
theorem speed_x {x : Nat × Nat} {e : Nat} (h : FPx M x) (hN : NMx tb tl e 1 M) (hv : OKn tb tl e 1) : ∃ M', f_X2_lineOfTown M (nI 0) (nI (tkF tb tl e)) = some M' ∧ FPx M' (xPace tb tl e x) ∧ FBx M M' ∧ gI M' 13 4 = gI M 13 4 ∧ gI M' 10 11 = gI M 10 11 ∧ ∀ T, TX M 13 T → TX M' 13 (setTS T (vN tb tl e 0)) := by
  obtain ⟨v0, n0, m0⟩ := num_x hN hv (j := 0) (by omega)
  obtain ⟨M1, a1, a2, a3⟩ := bound_v h (j := 0) (lo := 1) (hi := 9) (by omega) n0 m0 (by omega) (by omega) (by omega)
  unfold f_X2_lineOfTown
  rw [if_pos rfl, a1, bn_s, gin_n (by omega) (by omega), ix_n (by omega), a3.2.1, n0, nm_s]
  refine ⟨_, rfl, FPx_O a2 (FOx_sI _ (by omega)), FBx_tr (FBx_N a3) (FBx_O (FOx_sI _ (by omega))), ?_, ?_, fun T hT => ?_⟩
  · rw [gI_sI, if_neg (by omega), a3.1 13 4 (by omega)]
  · rw [gI_sI, if_neg (by omega), a3.1 10 11 (by omega)]
  · obtain ⟨⟨h0, h1, h2, h3, h4⟩, h5, h6⟩ := TX_N (by omega) a3 hT
    refine ⟨⟨?_, ?_, ?_, ?_, ?_⟩, h5, h6⟩
    · rw [gI_sI, if_neg (by omega)]; exact h0
    · rw [gI_sI, if_neg (by omega)]; exact h1
    · rw [gI_sI, if_pos ⟨rfl, rfl⟩]; rfl
    · rw [gI_sI, if_neg (by omega)]; exact h3
    · rw [gI_sI, if_neg (by omega)]; exact h4
theorem miles_x {x : Nat × Nat} {e : Nat} (h : FPx M x) (hN : NMx tb tl e 1 M) (hv : OKn tb tl e 1) : ∃ M', f_X2_lineOfTown M (nI 1) (nI (tkF tb tl e)) = some M' ∧ FPx M' (xPace tb tl e x) ∧ FBx M M' ∧ gI M' 13 4 = gI M 13 4 ∧ gI M' 10 11 = gI M 10 11 ∧ ∀ T, TX M 13 T → TX M' 13 (setTM T (vN tb tl e 0)) := by
  obtain ⟨v0, n0, m0⟩ := num_x hN hv (j := 0) (by omega)
  obtain ⟨M1, a1, a2, a3⟩ := bound_v h (j := 0) (lo := 1) (hi := 9) (by omega) n0 m0 (by omega) (by omega) (by omega)
  unfold f_X2_lineOfTown
  rw [if_neg (by decide), if_pos rfl, a1, bn_s, gin_n (by omega) (by omega), ix_n (by omega), a3.2.1, n0, nm_s]
  refine ⟨_, rfl, FPx_O a2 (FOx_sI _ (by omega)), FBx_tr (FBx_N a3) (FBx_O (FOx_sI _ (by omega))), ?_, ?_, fun T hT => ?_⟩
  · rw [gI_sI, if_neg (by omega), a3.1 13 4 (by omega)]
  · rw [gI_sI, if_neg (by omega), a3.1 10 11 (by omega)]
  · obtain ⟨⟨h0, h1, h2, h3, h4⟩, h5, h6⟩ := TX_N (by omega) a3 hT
    refine ⟨⟨?_, ?_, ?_, ?_, ?_⟩, h5, h6⟩
    · rw [gI_sI, if_neg (by omega)]; exact h0
    · rw [gI_sI, if_neg (by omega)]; exact h1
    · rw [gI_sI, if_neg (by omega)]; exact h2
    · rw [gI_sI, if_pos ⟨rfl, rfl⟩]; rfl
    · rw [gI_sI, if_neg (by omega)]; exact h4
theorem tailor_x {x : Nat × Nat} {e : Nat} (h : FPx M x) (hN : NMx tb tl e 2 M) (hv : OKn tb tl e 2) : ∃ M', f_X2_lineOfTown M (nI 2) (nI (tkF tb tl e)) = some M' ∧ FPx M' (xTa tb tl e x) ∧ FBx M M' ∧ gI M' 13 4 = gI M 13 4 ∧ gI M' 10 11 = gI M 10 11 ∧ ∀ T, TX M 13 T → TX M' 13 (setTP T (vN tb tl e 0) (vN tb tl e 1)) := by
  obtain ⟨v0, n0, m0⟩ := num_x hN hv (j := 0) (by omega)
  obtain ⟨v1, n1, m1⟩ := num_x hN hv (j := 1) (by omega)
  obtain ⟨M1, a1, a2, a3⟩ := bound_v h (j := 0) (lo := 0) (hi := 9) (by omega) n0 m0 (by omega) (by omega) (by omega)
  obtain ⟨M2, b1, b2, b3⟩ := bound_v a2 (j := 1) (lo := 0) (hi := 9) (by omega) (by rw [a3.2.1]; exact n1) (by rw [a3.2.1]; exact m1) (by omega) (by omega) (by omega)
  have c3 := FNx_tr a3 b3
  unfold f_X2_lineOfTown
  rw [if_neg (by decide), if_neg (by decide), if_pos rfl, a1, bn_s, b1, bn_s, gin_n (by omega) (by omega), ix_n (by omega), c3.2.1, n0, nm_s, gin_n (by omega) (by omega), ix_n (by omega), gA_sI, c3.2.1, n1, nm_s]
  refine ⟨_, rfl, FPx_O b2 (FOx_tr (FOx_sI _ (by omega)) (FOx_sI _ (by omega))), FBx_tr (FBx_N c3) (FBx_O (FOx_tr (FOx_sI _ (by omega)) (FOx_sI _ (by omega)))), ?_, ?_, fun T hT => ?_⟩
  · rw [gI_sI, if_neg (by omega), gI_sI, if_neg (by omega), c3.1 13 4 (by omega)]
  · rw [gI_sI, if_neg (by omega), gI_sI, if_neg (by omega), c3.1 10 11 (by omega)]
  · obtain ⟨⟨h0, h1, h2, h3, h4⟩, h5, h6⟩ := TX_N (by omega) c3 hT
    refine ⟨⟨?_, ?_, ?_, ?_, ?_⟩, h5, h6⟩
    · rw [gI_sI, if_neg (by omega), gI_sI, if_pos ⟨rfl, rfl⟩]; rfl
    · rw [gI_sI, if_pos ⟨rfl, rfl⟩]; rfl
    · rw [gI_sI, if_neg (by omega), gI_sI, if_neg (by omega)]; exact h2
    · rw [gI_sI, if_neg (by omega), gI_sI, if_neg (by omega)]; exact h3
    · rw [gI_sI, if_neg (by omega), gI_sI, if_neg (by omega)]; exact h4
theorem addWearer_v {n a b c d : Nat} (hn : gI M 13 4 = nI n) (n4 : n ≤ 6) : ∃ M', f_X6_addWearer M 13 (nI a) (nI b) (nI c) (nI d) = some M' ∧ FOx M M' ∧ gI M' 13 4 = nI (min (n + 1) 6) ∧ gI M' 10 11 = gI M 10 11 ∧ ∀ T, tW T = n → n < 6 → TX M 13 T → TX M' 13 (setTW T a b c d) := by
  unfold f_X6_addWearer
  rw [hn, ite_p (le_n (by omega) (by omega))]
  by_cases p : 6 ≤ n
  · rw [if_pos p]
    exact ⟨M, rfl, FOx_rf _, by rw [hn, show min (n + 1) 6 = n by omega], rfl, fun T _ z => by omega⟩
  · rw [if_neg p, gin_n (by omega) (by omega), nm_s]
    simp only [gI_sA, hn]
    rw [gin_n (by omega) (by omega), nm_s]
    simp only [gI_sA, hn]
    rw [gin_n (by omega) (by omega), nm_s]
    simp only [gI_sA, hn]
    rw [gin_n (by omega) (by omega), nm_s]
    simp only [gI_sA, hn]
    rw [nm_s, nI_add, ix_n (by omega)]
    refine ⟨_, rfl, FOx_tr (FOx_sA _ (by omega)) (FOx_tr (FOx_sA _ (by omega)) (FOx_tr (FOx_sA _ (by omega)) (FOx_tr (FOx_sA _ (by omega)) (FOx_sI _ (by omega))))), ?_, ?_, ?_⟩
    · rw [gI_sI, if_pos ⟨rfl, rfl⟩, show min (n + 1) 6 = n + 1 by omega]
    · rw [gI_sI, if_neg (by omega)]; rfl
    · rintro T hT - ⟨⟨h0, h1, h2, h3, h4⟩, h5, h6⟩
      refine ⟨⟨?_, ?_, ?_, ?_, ?_⟩, fun w hw => ?_, fun w hw => ?_⟩
      · rw [gI_sI, if_neg (by omega)]; exact h0
      · rw [gI_sI, if_neg (by omega)]; exact h1
      · rw [gI_sI, if_neg (by omega)]; exact h2
      · rw [gI_sI, if_neg (by omega)]; exact h3
      · rw [gI_sI, if_pos ⟨rfl, rfl⟩]; show nI (n + 1) = nI (tW T + 1); rw [hT]
      · have hw2 : w < tW T + 1 := hw
        show _ = nI (if w = tW T then a else tXs T w) ∧ _ = nI (if w = tW T then b else tYs T w) ∧ _ = nI (if w = tW T then c else tSt T w) ∧ _ = nI (if w = tW T then d else tDu T w)
        by_cases q : w = n
        · have q2 : w = tW T := by omega
          rw [if_pos q2, if_pos q2, if_pos q2, if_pos q2, q]
          refine ⟨?_, ?_, ?_, ?_⟩
          · rw [gA_sI, gA_sA, if_neg (by omega), gA_sA, if_neg (by omega), gA_sA, if_neg (by omega), gA_sA, if_pos ⟨rfl, rfl, rfl⟩]
          · rw [gA_sI, gA_sA, if_neg (by omega), gA_sA, if_neg (by omega), gA_sA, if_pos ⟨rfl, rfl, rfl⟩]
          · rw [gA_sI, gA_sA, if_neg (by omega), gA_sA, if_pos ⟨rfl, rfl, rfl⟩]
          · rw [gA_sI, gA_sA, if_pos ⟨rfl, rfl, rfl⟩]
        · have q2 : ¬ w = tW T := by omega
          obtain ⟨g1, g2, g3, g4⟩ := h5 w (by omega)
          rw [if_neg q2, if_neg q2, if_neg q2, if_neg q2]
          refine ⟨?_, ?_, ?_, ?_⟩
          · rw [gA_sI, gA_sA, if_neg (by omega), gA_sA, if_neg (by omega), gA_sA, if_neg (by omega), gA_sA, if_neg (by omega)]; exact g1
          · rw [gA_sI, gA_sA, if_neg (by omega), gA_sA, if_neg (by omega), gA_sA, if_neg (by omega), gA_sA, if_neg (by omega)]; exact g2
          · rw [gA_sI, gA_sA, if_neg (by omega), gA_sA, if_neg (by omega), gA_sA, if_neg (by omega), gA_sA, if_neg (by omega)]; exact g3
          · rw [gA_sI, gA_sA, if_neg (by omega), gA_sA, if_neg (by omega), gA_sA, if_neg (by omega), gA_sA, if_neg (by omega)]; exact g4
      · obtain ⟨g1, g2⟩ := h6 w hw
        refine ⟨?_, ?_⟩
        · rw [gA_sI, gA_sA, if_neg (by omega), gA_sA, if_neg (by omega), gA_sA, if_neg (by omega), gA_sA, if_neg (by omega)]; exact g1
        · rw [gA_sI, gA_sA, if_neg (by omega), gA_sA, if_neg (by omega), gA_sA, if_neg (by omega), gA_sA, if_neg (by omega)]; exact g2
theorem wearer_x {x : Nat × Nat} {e n : Nat} (h : FPx M x) (hN : NMx tb tl e 4 M) (hv : OKn tb tl e 4) (hn : gI M 13 4 = nI n) (n9 : n ≤ 6) : ∃ M', f_X2_lineOfTown M (nI 3) (nI (tkF tb tl e)) = some M' ∧ FPx M' (xWe tb tl e n x) ∧ FBx M M' ∧ gI M' 13 4 = nI (min (n + 1) 6) ∧ gI M' 10 11 = gI M 10 11 ∧ ∀ T, tW T = n → n < 6 → TX M 13 T → TX M' 13 (setTW T (vN tb tl e 0) (vN tb tl e 1) (vN tb tl e 2) (vN tb tl e 3)) := by
  obtain ⟨v0, n0, m0⟩ := num_x hN hv (j := 0) (by omega)
  obtain ⟨v1, n1, m1⟩ := num_x hN hv (j := 1) (by omega)
  obtain ⟨v2, n2, m2⟩ := num_x hN hv (j := 2) (by omega)
  obtain ⟨v3, n3, m3⟩ := num_x hN hv (j := 3) (by omega)
  obtain ⟨M1, a1, a2, a3⟩ := room_v h (n := n) (m := 6) (q := tkF tb tl e) (by omega) (by omega)
  obtain ⟨M2, b1, b2, b3⟩ := bound_v a2 (j := 0) (lo := 0) (hi := 9) (by omega) (by rw [a3.2.1]; exact n0) (by rw [a3.2.1]; exact m0) (by omega) (by omega) (by omega)
  have c3 := FNx_tr a3 b3
  obtain ⟨M3, d1, d2, d3⟩ := bound_v b2 (j := 1) (lo := 0) (hi := 9) (by omega) (by rw [c3.2.1]; exact n1) (by rw [c3.2.1]; exact m1) (by omega) (by omega) (by omega)
  have e3 := FNx_tr c3 d3
  obtain ⟨M4, f1, f2, f3⟩ := bound_v d2 (j := 2) (lo := 1) (hi := 30) (by omega) (by rw [e3.2.1]; exact n2) (by rw [e3.2.1]; exact m2) (by omega) (by omega) (by omega)
  have g3 := FNx_tr e3 f3
  obtain ⟨M5, h1, h2, h3⟩ := bound_v f2 (j := 3) (lo := 0) (hi := 99) (by omega) (by rw [g3.2.1]; exact n3) (by rw [g3.2.1]; exact m3) (by omega) (by omega) (by omega)
  have k3 := FNx_tr g3 h3
  obtain ⟨M6, i1, i2, i3, i4, i5⟩ := addWearer_v (M := M5) (n := n) (a := vN tb tl e 0) (b := vN tb tl e 1) (c := vN tb tl e 2) (d := vN tb tl e 3) (by rw [k3.1 13 4 (by omega)]; exact hn) n9
  unfold f_X2_lineOfTown
  rw [if_neg (by decide), if_neg (by decide), if_neg (by decide), if_pos rfl, hn, a1, bn_s, b1, bn_s, d1, bn_s, f1, bn_s, h1, bn_s, gin_n (by omega) (by omega), gin_n (by omega) (by omega), gin_n (by omega) (by omega), gin_n (by omega) (by omega), ix_n (by omega), ix_n (by omega), ix_n (by omega), ix_n (by omega), k3.2.1, n0, n1, n2, n3, i1, bn_s]
  exact ⟨M6, rfl, FPx_O h2 i2, FBx_tr (FBx_N k3) (FBx_O i2), i3, by rw [i4, k3.1 10 11 (by omega)], fun T q1 q2 q3 => i5 T q1 q2 (TX_N (by omega) k3 q3)⟩
theorem away_x {x : Nat × Nat} {e : Nat} (h : FPx M x) (hN : NMx tb tl e 3 M) (hv : OKn tb tl e 3) : ∃ M', f_X2_lineOfTown M (nI 4) (nI (tkF tb tl e)) = some M' ∧ FPx M' (xAw tb tl e x) ∧ FBx M M' ∧ gI M' 13 4 = gI M 13 4 ∧ (vN tb tl e 0 ≤ 5 → gI M' 10 11 = gI M 10 11 ||| nI (2 ^ vN tb tl e 0) ∧ ∀ T, TX M 13 T → TX M' 13 (setTA T (vN tb tl e 0) (vN tb tl e 1) (vN tb tl e 2))) := by
  obtain ⟨v0, n0, m0⟩ := num_x hN hv (j := 0) (by omega)
  obtain ⟨v1, n1, m1⟩ := num_x hN hv (j := 1) (by omega)
  obtain ⟨v2, n2, m2⟩ := num_x hN hv (j := 2) (by omega)
  obtain ⟨M2, b1, b2, b3⟩ := bound_v h (j := 0) (lo := 0) (hi := 5) (by omega) n0 m0 (by omega) (by omega) (by omega)
  obtain ⟨M3, d1, d2, d3⟩ := bound_v b2 (j := 1) (lo := 0) (hi := 99) (by omega) (by rw [b3.2.1]; exact n1) (by rw [b3.2.1]; exact m1) (by omega) (by omega) (by omega)
  have e3 := FNx_tr b3 d3
  obtain ⟨M4, f1, f2, f3⟩ := bound_v d2 (j := 2) (lo := vN tb tl e 1) (hi := 99) (by omega) (by rw [e3.2.1]; exact n2) (by rw [e3.2.1]; exact m2) (by omega) (by omega) (by omega)
  have g3 := FNx_tr e3 f3
  have hg : ∀ (j : Nat) (z : Option Mem), j < 4 → gin (nI j) 4 z = z := fun j z hj => gin_n hj (by omega)
  unfold f_X2_lineOfTown
  rw [if_neg (by decide), if_neg (by decide), if_neg (by decide), if_neg (by decide), b1, bn_s, d1, bn_s, hg _ _ (by omega), ix_n (by omega), e3.2.1 10 4, n1, f1, bn_s, hg _ _ (by omega), ix_n (by omega), g3.2.1 10 4, n0, ite_p (lt_n (by omega) (by omega)), if_neg (by omega), hg _ _ (by omega), ite_p (le_n (by omega) (by omega))]
  by_cases p : 6 ≤ vN tb tl e 0
  · rw [if_pos p]
    exact ⟨M4, rfl, f2, FBx_N g3, g3.1 13 4 (by omega), fun z => by omega⟩
  · rw [if_neg p, hg _ _ (by omega), hg _ _ (by omega), gin_n (by omega) (by omega), ix_n (by omega), n1, nm_s, hg _ _ (by omega), hg _ _ (by omega), gA_sA, if_neg (by omega), g3.2.1 10 4, n0, gin_n (by omega) (by omega), ix_n (by omega), ix_n (by omega), gA_sA, if_neg (by omega), g3.2.1 10 4, n2, nm_s, hg _ _ (by omega), gI_sA, gI_sA, gA_sA, if_neg (by omega), gA_sA, if_neg (by omega), g3.2.1 10 4, n0, g3.1 10 11 (by omega), shl1_n (s := vN tb tl e 0) (by omega), nm_s]
    refine ⟨_, rfl, FPx_O f2 (FOx_tr (FOx_sA _ (by omega)) (FOx_tr (FOx_sA _ (by omega)) (FOx_sI _ (by omega)))), FBx_tr (FBx_N g3) (FBx_O (FOx_tr (FOx_sA _ (by omega)) (FOx_tr (FOx_sA _ (by omega)) (FOx_sI _ (by omega))))), ?_, fun _ => ⟨?_, fun T hT => ?_⟩⟩
    · rw [gI_sI, if_neg (by omega), gI_sA, gI_sA, g3.1 13 4 (by omega)]
    · rw [gI_sI, if_pos ⟨rfl, rfl⟩]
    · obtain ⟨⟨h0, h1, h2, h3, h4⟩, h5, h6⟩ := TX_N (by omega) g3 hT
      refine ⟨⟨?_, ?_, ?_, ?_, ?_⟩, fun w hw => ?_, fun w hw => ?_⟩
      · rw [gI_sI, if_neg (by omega), gI_sA, gI_sA]; exact h0
      · rw [gI_sI, if_neg (by omega), gI_sA, gI_sA]; exact h1
      · rw [gI_sI, if_neg (by omega), gI_sA, gI_sA]; exact h2
      · rw [gI_sI, if_neg (by omega), gI_sA, gI_sA]; exact h3
      · rw [gI_sI, if_neg (by omega), gI_sA, gI_sA]; exact h4
      · obtain ⟨k1, k2, k3, k4⟩ := h5 w hw
        refine ⟨?_, ?_, ?_, ?_⟩
        · rw [gA_sI, gA_sA, if_neg (by omega), gA_sA, if_neg (by omega)]; exact k1
        · rw [gA_sI, gA_sA, if_neg (by omega), gA_sA, if_neg (by omega)]; exact k2
        · rw [gA_sI, gA_sA, if_neg (by omega), gA_sA, if_neg (by omega)]; exact k3
        · rw [gA_sI, gA_sA, if_neg (by omega), gA_sA, if_neg (by omega)]; exact k4
      · obtain ⟨k1, k2⟩ := h6 w hw
        show _ = (if w = vN tb tl e 0 then nI (vN tb tl e 1) else tFr T w) ∧ _ = if w = vN tb tl e 0 then nI (vN tb tl e 2) else tTo T w
        by_cases q : w = vN tb tl e 0
        · rw [if_pos q, if_pos q]
          refine ⟨?_, ?_⟩
          · rw [gA_sI, gA_sA, if_neg (by omega), gA_sA, if_pos ⟨rfl, rfl, q⟩]
          · rw [gA_sI, gA_sA, if_pos ⟨rfl, rfl, q⟩]
        · rw [if_neg q, if_neg q]
          refine ⟨?_, ?_⟩
          · rw [gA_sI, gA_sA, if_neg (by omega), gA_sA, if_neg (by omega)]; exact k1
          · rw [gA_sI, gA_sA, if_neg (by omega), gA_sA, if_neg (by omega)]; exact k2
end TownX
