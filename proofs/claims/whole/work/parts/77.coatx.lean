/-! TEXTS: the class's lines of a COAT -/
abbrev vN (tb : Nat → Nat) (tl e j : Nat) : Nat := vlT tb tl (ps tb tl e (j + 1))
abbrev pN (tb : Nat → Nat) (tl e j : Nat) : Nat := tkF tb tl (ps tb tl e (j + 1))
def setS (C : CoatA) (a b c : Nat) : CoatA := (cN C + 1, cP C, (fun s => if s = cN C then a else cSt C s), (fun s => if s = cN C then b else cCo C s), (fun s => if s = cN C then c else cEs C s), cAf C, cGr C)
def setA (C : CoatA) (a b : Nat) : CoatA := (cN C, cP C, cSt C, cCo C, cEs C, (fun s => if s = a then cAf C s ||| 2 ^ b else cAf C s), cGr C)
def setG (C : CoatA) (d g : Nat) : CoatA := (cN C, cP C, cSt C, cCo C, cEs C, cAf C, fun s => if s = d then g else cGr C s)
def setP (C : CoatA) (p : Nat) : CoatA := (cN C, p, cSt C, cCo C, cEs C, cAf C, cGr C)
/-- only the class's spare objects, and what is told of, have changed -/
def FOx (M M' : Mem) : Prop := (∀ o k, ¬ (11 ≤ o ∧ o ≤ 14) → ¬ (o = 10 ∧ k = 11) → gI M' o k = gI M o k) ∧ (∀ o k, ¬ (11 ≤ o ∧ o ≤ 14) → gA M' o k = gA M o k) ∧ ∀ o k, gR M' o k = gR M o k
theorem FOx_rf (M : Mem) : FOx M M := ⟨fun _ _ _ _ => rfl, fun _ _ _ => rfl, fun _ _ => rfl⟩
theorem FOx_tr {A B C : Mem} (h : FOx A B) (g : FOx B C) : FOx A C := ⟨fun o k q r => (g.1 o k q r).trans (h.1 o k q r), fun o k q => (g.2.1 o k q).trans (h.2.1 o k q), fun o k => (g.2.2 o k).trans (h.2.2 o k)⟩
theorem FOx_sI (M : Mem) {o k : Nat} {v : Int32} (h : (11 ≤ o ∧ o ≤ 14) ∨ (o = 10 ∧ k = 11)) : FOx M (sI M o k v) := ⟨fun a b q r => if_neg (fun z => by omega), fun _ _ _ => rfl, fun _ _ => rfl⟩
theorem FOx_sA (M : Mem) {o k j : Nat} {v : Int32} (h : 11 ≤ o ∧ o ≤ 14) : FOx M (sA M o k j v) := ⟨fun _ _ _ _ => rfl, fun a b q => if_neg (fun z => by omega), fun _ _ => rfl⟩
def FBx (M M' : Mem) : Prop := (∀ o k, ¬ (11 ≤ o ∧ o ≤ 14) → ¬ (o = 10 ∧ (11 ≤ k ∧ k ≤ 13)) → gI M' o k = gI M o k) ∧ (∀ o k, ¬ (11 ≤ o ∧ o ≤ 14) → gA M' o k = gA M o k) ∧ ∀ o k, gR M' o k = gR M o k
theorem FBx_tr {A B C : Mem} (h : FBx A B) (g : FBx B C) : FBx A C := ⟨fun o k q r => (g.1 o k q r).trans (h.1 o k q r), fun o k q => (g.2.1 o k q).trans (h.2.1 o k q), fun o k => (g.2.2 o k).trans (h.2.2 o k)⟩
theorem FBx_O {M M' : Mem} (h : FOx M M') : FBx M M' := ⟨fun o k q r => h.1 o k q (fun z => by omega), h.2⟩
theorem FBx_N {M M' : Mem} (h : FNx M M') : FBx M M' := ⟨fun o k _ r => h.1 o k (fun z => by omega), fun o k _ => h.2.1 o k, h.2.2⟩
theorem FPx_O {M M' : Mem} {x : Nat × Nat} (h : FPx M x) (f : FOx M M') : FPx M' x := ⟨h.1, by rw [f.1 10 12 (by omega) (by omega)]; exact h.2.1, by rw [f.1 10 13 (by omega) (by omega)]; exact h.2.2⟩
theorem CX_N {M M' : Mem} {o : Nat} {C : CoatA} (ho : 11 ≤ o) (f : FNx M M') (h : CX M o C) : CX M' o C := CX_cg ⟨fun k => f.1 o k (by omega), fun k => f.2.1 o k⟩ h
section CoatX
variable {tb : Nat → Nat} {tl : Nat} {M : Mem}
theorem XTk_B {i : Nat} {M' : Mem} (h : XTk tb tl i M) (f : FBx M M') : XTk tb tl i M' := by
  obtain ⟨⟨a1, a2, a3, a4⟩, h1, h2, h3, h4⟩ := h
  exact ⟨⟨by rw [f.2.2]; exact a1, by rw [f.1 10 7 (by omega) (by omega)]; exact a2, fun j hj => by rw [f.2.1 1 0 (by omega)]; exact a3 j hj, a4⟩, h1, by rw [f.1 10 9 (by omega) (by omega)]; exact h2, by rw [f.1 10 10 (by omega) (by omega)]; exact h3, by rw [f.1 10 8 (by omega) (by omega)]; exact h4⟩
theorem num_x {e n j : Nat} (hN : NMx tb tl e n M) (hv : OKn tb tl e n) (hj : j < n) : vN tb tl e j ≤ 99 ∧ gA M 10 4 j = nI (vN tb tl e j) ∧ gA M 10 5 j = nI (pN tb tl e j) := ⟨vlT_99 (hv j hj), hN j hj⟩
theorem addSeam_v {n a b c : Nat} (hn : gI M 11 0 = nI n) (n9 : n ≤ 9) : ∃ M', f_X0_addSeam M 11 (nI a) (nI b) (nI c) = some M' ∧ FOx M M' ∧ gI M' 11 0 = nI (min (n + 1) 9) ∧ gI M' 10 11 = gI M 10 11 ∧ ∀ C, cN C = n → n < 9 → CX M 11 C → CX M' 11 (setS C a b c) := by
  unfold f_X0_addSeam
  rw [hn, ite_p (le_n (by omega) (by omega))]
  by_cases p : 9 ≤ n
  · rw [if_pos p]
    exact ⟨M, rfl, FOx_rf _, by rw [hn, show min (n + 1) 9 = n by omega], rfl, fun C _ z => by omega⟩
  · rw [if_neg p, gin_n (by omega) (by omega), nm_s]
    simp only [gI_sA, hn]
    rw [gin_n (by omega) (by omega), nm_s]
    simp only [gI_sA, hn]
    rw [gin_n (by omega) (by omega), nm_s]
    simp only [gI_sA, hn]
    rw [nm_s, nI_add, ix_n (by omega)]
    refine ⟨_, rfl, FOx_tr (FOx_sA _ (by omega)) (FOx_tr (FOx_sA _ (by omega)) (FOx_tr (FOx_sA _ (by omega)) (FOx_sI _ (by omega)))), ?_, ?_, ?_⟩
    · rw [gI_sI, if_pos ⟨rfl, rfl⟩, show min (n + 1) 9 = n + 1 by omega]
    · rw [gI_sI, if_neg (by omega)]; rfl
    · rintro C hC - ⟨h1, h2, h3, h4, h5⟩
      refine ⟨?_, ?_, fun s hs => ?_, fun s hs => ?_, fun d hd => ?_⟩
      · rw [gI_sI, if_pos ⟨rfl, rfl⟩]; show nI (n + 1) = nI (cN C + 1); rw [hC]
      · rw [gI_sI, if_neg (by omega)]; exact h2
      · have hs2 : s < cN C + 1 := hs
        rw [gA_sI, gA_sI, gA_sI, gA_sA, gA_sA, gA_sA, gA_sA, gA_sA, gA_sA, gA_sA, gA_sA, gA_sA]
        show _ = nI (if s = cN C then a else cSt C s) ∧ _ = nI (if s = cN C then b else cCo C s) ∧ _ = nI (if s = cN C then c else cEs C s)
        by_cases q : s = n
        · rw [if_neg (by omega), if_neg (by omega), if_pos ⟨rfl, rfl, q⟩, if_pos (by omega), if_neg (by omega), if_pos ⟨rfl, rfl, q⟩, if_pos (by omega), if_pos ⟨rfl, rfl, q⟩, if_pos (by omega)]
          exact ⟨rfl, rfl, rfl⟩
        · rw [if_neg (by omega), if_neg (by omega), if_neg (by omega), if_neg (by omega), if_neg (by omega), if_neg (by omega), if_neg (by omega), if_neg (by omega), if_neg (by omega), if_neg (by omega), if_neg (by omega), if_neg (by omega)]
          exact h3 s (by omega)
      · rw [gA_sI, gA_sA, gA_sA, gA_sA, if_neg (by omega), if_neg (by omega), if_neg (by omega)]
        exact h4 s hs
      · rw [gA_sI, gA_sA, gA_sA, gA_sA, if_neg (by omega), if_neg (by omega), if_neg (by omega)]
        exact h5 d hd
def xSeam (tb : Nat → Nat) (tl e n : Nat) (x : Nat × Nat) : Nat × Nat := ntc (vN tb tl e 2 < 0 ∨ 9 < vN tb tl e 2) 2 (pN tb tl e 2) (ntc (vN tb tl e 1 < 0 ∨ 3 < vN tb tl e 1) 2 (pN tb tl e 1) (ntc (vN tb tl e 0 < 1 ∨ 9 < vN tb tl e 0) 2 (pN tb tl e 0) (ntc (9 ≤ n) 3 (tkF tb tl e) x)))
theorem seam_x {x : Nat × Nat} {e n : Nat} (h : FPx M x) (hN : NMx tb tl e 3 M) (hv : OKn tb tl e 3) (hn : gI M 11 0 = nI n) (n9 : n ≤ 9) : ∃ M', f_X2_lineOfCoat M (nI 0) (nI (tkF tb tl e)) = some M' ∧ FPx M' (xSeam tb tl e n x) ∧ FBx M M' ∧ gI M' 11 0 = nI (min (n + 1) 9) ∧ gI M' 10 11 = gI M 10 11 ∧ ∀ C, cN C = n → n < 9 → CX M 11 C → CX M' 11 (setS C (vN tb tl e 0) (vN tb tl e 1) (vN tb tl e 2)) := by
  obtain ⟨v0, n0, m0⟩ := num_x hN hv (j := 0) (by omega)
  obtain ⟨v1, n1, m1⟩ := num_x hN hv (j := 1) (by omega)
  obtain ⟨v2, n2, m2⟩ := num_x hN hv (j := 2) (by omega)
  obtain ⟨M1, a1, a2, a3⟩ := room_v h (n := n) (m := 9) (q := tkF tb tl e) (by omega) (by omega)
  obtain ⟨M2, b1, b2, b3⟩ := bound_v a2 (j := 0) (lo := 1) (hi := 9) (by omega) (by rw [a3.2.1]; exact n0) (by rw [a3.2.1]; exact m0) (by omega) (by omega) (by omega)
  have c3 := FNx_tr a3 b3
  obtain ⟨M3, d1, d2, d3⟩ := bound_v b2 (j := 1) (lo := 0) (hi := 3) (by omega) (by rw [c3.2.1]; exact n1) (by rw [c3.2.1]; exact m1) (by omega) (by omega) (by omega)
  have e3 := FNx_tr c3 d3
  obtain ⟨M4, f1, f2, f3⟩ := bound_v d2 (j := 2) (lo := 0) (hi := 9) (by omega) (by rw [e3.2.1]; exact n2) (by rw [e3.2.1]; exact m2) (by omega) (by omega) (by omega)
  have g3 := FNx_tr e3 f3
  obtain ⟨M5, i1, i2, i3, i4, i5⟩ := addSeam_v (M := M4) (n := n) (a := vN tb tl e 0) (b := vN tb tl e 1) (c := vN tb tl e 2) (by rw [g3.1 11 0 (by omega)]; exact hn) n9
  unfold f_X2_lineOfCoat
  rw [if_pos rfl, hn, a1, bn_s, b1, bn_s, d1, bn_s, f1, bn_s, gin_n (by omega) (by omega), gin_n (by omega) (by omega), gin_n (by omega) (by omega), ix_n (by omega), ix_n (by omega), ix_n (by omega), g3.2.1, n0, n1, n2, i1, bn_s]
  exact ⟨M5, rfl, FPx_O f2 i2, FBx_tr (FBx_N g3) (FBx_O i2), i3, by rw [i4, g3.1 10 11 (by omega)], fun C q1 q2 q3 => i5 C q1 q2 (CX_N (by omega) g3 q3)⟩
def xPace (tb : Nat → Nat) (tl e : Nat) (x : Nat × Nat) : Nat × Nat := ntc (vN tb tl e 0 < 1 ∨ 9 < vN tb tl e 0) 2 (pN tb tl e 0) x
theorem pace_x {x : Nat × Nat} {e : Nat} (h : FPx M x) (hN : NMx tb tl e 1 M) (hv : OKn tb tl e 1) : ∃ M', f_X2_lineOfCoat M (nI 3) (nI (tkF tb tl e)) = some M' ∧ FPx M' (xPace tb tl e x) ∧ FBx M M' ∧ gI M' 11 0 = gI M 11 0 ∧ gI M' 10 11 = gI M 10 11 ∧ ∀ C, CX M 11 C → CX M' 11 (setP C (vN tb tl e 0)) := by
  obtain ⟨v0, n0, m0⟩ := num_x hN hv (j := 0) (by omega)
  obtain ⟨M1, a1, a2, a3⟩ := bound_v h (j := 0) (lo := 1) (hi := 9) (by omega) n0 m0 (by omega) (by omega) (by omega)
  unfold f_X2_lineOfCoat
  rw [if_neg (ne_n (by omega) (by omega) (by omega)), if_neg (ne_n (by omega) (by omega) (by omega)), if_neg (ne_n (by omega) (by omega) (by omega)), a1, bn_s, gin_n (by omega) (by omega), ix_n (by omega), a3.2.1, n0, nm_s]
  refine ⟨_, rfl, FPx_O a2 (FOx_sI _ (by omega)), FBx_tr (FBx_N a3) (FBx_O (FOx_sI _ (by omega))), ?_, ?_, fun C hC => ?_⟩
  · rw [gI_sI, if_neg (by omega), a3.1 11 0 (by omega)]
  · rw [gI_sI, if_neg (by omega), a3.1 10 11 (by omega)]
  · obtain ⟨h1, h2, h3, h4, h5⟩ := CX_N (by omega) a3 hC
    refine ⟨?_, ?_, h3, h4, h5⟩
    · rw [gI_sI, if_neg (by omega)]; exact h1
    · rw [gI_sI, if_pos ⟨rfl, rfl⟩]; rfl
def xGrows (tb : Nat → Nat) (tl e : Nat) (x : Nat × Nat) : Nat × Nat := ntc (vN tb tl e 1 < 0 ∨ 9 < vN tb tl e 1) 2 (pN tb tl e 1) (ntc (vN tb tl e 0 < 0 ∨ 99 < vN tb tl e 0) 2 (pN tb tl e 0) x)
theorem grows_x {x : Nat × Nat} {e : Nat} (h : FPx M x) (hN : NMx tb tl e 2 M) (hv : OKn tb tl e 2) : ∃ M', f_X2_lineOfCoat M (nI 2) (nI (tkF tb tl e)) = some M' ∧ FPx M' (xGrows tb tl e x) ∧ FBx M M' ∧ gI M' 11 0 = gI M 11 0 ∧ gI M' 10 11 = gI M 10 11 ∧ ∀ C, CX M 11 C → CX M' 11 (setG C (vN tb tl e 0) (vN tb tl e 1)) := by
  obtain ⟨v0, n0, m0⟩ := num_x hN hv (j := 0) (by omega)
  obtain ⟨v1, n1, m1⟩ := num_x hN hv (j := 1) (by omega)
  obtain ⟨M1, a1, a2, a3⟩ := bound_v h (j := 0) (lo := 0) (hi := 99) (by omega) n0 m0 (by omega) (by omega) (by omega)
  obtain ⟨M2, b1, b2, b3⟩ := bound_v a2 (j := 1) (lo := 0) (hi := 9) (by omega) (by rw [a3.2.1]; exact n1) (by rw [a3.2.1]; exact m1) (by omega) (by omega) (by omega)
  have c3 := FNx_tr a3 b3
  have hg : ∀ (j : Nat) (z : Option Mem), j < 4 → gin (nI j) 4 z = z := fun j z hj => gin_n hj (by omega)
  unfold f_X2_lineOfCoat
  rw [if_neg (ne_n (by omega) (by omega) (by omega)), if_neg (ne_n (by omega) (by omega) (by omega)), if_pos rfl, a1, bn_s, b1, bn_s, hg _ _ (by omega), ix_n (by omega), c3.2.1, n0, ite_p (lt_n (by omega) (by omega)), if_neg (by omega), hg _ _ (by omega), ite_p (le_n (by omega) (by omega)), if_neg (by omega), hg _ _ (by omega), hg _ _ (by omega), gin_n (by omega) (by omega), ix_n (by omega), ix_n (by omega), n1, nm_s]
  refine ⟨_, rfl, FPx_O b2 (FOx_sA _ (by omega)), FBx_tr (FBx_N c3) (FBx_O (FOx_sA _ (by omega))), ?_, ?_, fun C hC => ?_⟩
  · rw [gI_sA, c3.1 11 0 (by omega)]
  · rw [gI_sA, c3.1 10 11 (by omega)]
  · obtain ⟨h1, h2, h3, h4, h5⟩ := CX_N (by omega) c3 hC
    refine ⟨h1, h2, fun s hs => ?_, fun s hs => ?_, fun d hd => ?_⟩
    · rw [gA_sA, gA_sA, gA_sA, if_neg (by omega), if_neg (by omega), if_neg (by omega)]
      exact h3 s hs
    · rw [gA_sA, if_neg (by omega)]
      exact h4 s hs
    · rw [gA_sA]
      show _ = nI (if d = vN tb tl e 0 then vN tb tl e 1 else cGr C d)
      by_cases q : d = vN tb tl e 0
      · rw [if_pos ⟨rfl, rfl, q⟩, if_pos q]
      · rw [if_neg (fun z => q z.2.2), if_neg q]
        exact h5 d hd
def xAfter (tb : Nat → Nat) (tl e : Nat) (x : Nat × Nat) : Nat × Nat := ntc ((vN tb tl e 1 < 0 ∨ 8 < vN tb tl e 1) ∨ vN tb tl e 0 = vN tb tl e 1) 2 (pN tb tl e 1) (ntc (vN tb tl e 0 < 0 ∨ 8 < vN tb tl e 0) 2 (pN tb tl e 0) x)
theorem after_x {x : Nat × Nat} {e : Nat} (h : FPx M x) (hN : NMx tb tl e 2 M) (hv : OKn tb tl e 2) : ∃ M', f_X2_lineOfCoat M (nI 1) (nI (tkF tb tl e)) = some M' ∧ FPx M' (xAfter tb tl e x) ∧ FBx M M' ∧ gI M' 11 0 = gI M 11 0 ∧ ((xAfter tb tl e x).1 = 0 → gI M' 10 11 = gI M 10 11 ||| nI (2 ^ vN tb tl e 0 ||| 2 ^ vN tb tl e 1) ∧ ∀ C, CX M 11 C → CX M' 11 (setA C (vN tb tl e 0) (vN tb tl e 1))) := by
  obtain ⟨v0, n0, m0⟩ := num_x hN hv (j := 0) (by omega)
  obtain ⟨v1, n1, m1⟩ := num_x hN hv (j := 1) (by omega)
  obtain ⟨M1, a1, a2, a3⟩ := couple_v h n0 m0 n1 m1 (by omega) (by omega)
  have hg : ∀ (j : Nat) (z : Option Mem), j < 4 → gin (nI j) 4 z = z := fun j z hj => gin_n hj (by omega)
  have e12 : gI M1 10 12 = nI (xAfter tb tl e x).1 := a2.2.1
  have e4 : (xAfter tb tl e x).1 ≤ 4 := a2.1.1
  unfold f_X2_lineOfCoat
  rw [if_neg (ne_n (by omega) (by omega) (by omega)), if_pos rfl, a1, bn_s, e12, ite_p (eq_n (by omega) (by omega))]
  by_cases p : (xAfter tb tl e x).1 = 0
  · obtain ⟨p1, p2⟩ := ntc_0 (by omega) p
    obtain ⟨p3, p4⟩ := ntc_0 (by omega) p1
    have b0 : vN tb tl e 0 ≤ 8 := by omega
    have b1 : vN tb tl e 1 ≤ 8 := by omega
    have hs : ∀ a, a ≤ 8 → f_X2_isSeam (nI a) = some true := by decide +kernel
    rw [if_pos p, hg _ _ (by omega), ix_n (by omega), ix_n (by omega), a3.2.1 10 4, n0, n1, hs _ b0, bn_s, if_pos rfl, hg _ _ (by omega), hs _ b1, bn_s, if_pos rfl, hg _ _ (by omega), gin_n (by omega) (by omega), hg _ _ (by omega), gin_n (by omega) (by omega), ix_n (by omega), nm_s, hg _ _ (by omega), hg _ _ (by omega), gA_sA, gA_sA, if_neg (by omega), if_neg (by omega), a3.2.1 10 4, n0, n1, gI_sA, a3.1 10 11 (by omega), shl1_n (s := vN tb tl e 0) (by omega), shl1_n (s := vN tb tl e 1) (by omega), or_n, nm_s]
    refine ⟨_, rfl, FPx_O a2 (FOx_tr (FOx_sA _ (by omega)) (FOx_sI _ (by omega))), FBx_tr (FBx_N a3) (FBx_O (FOx_tr (FOx_sA _ (by omega)) (FOx_sI _ (by omega)))), ?_, fun _ => ⟨?_, fun C hC => ?_⟩⟩
    · rw [gI_sI, if_neg (by omega), gI_sA, a3.1 11 0 (by omega)]
    · rw [gI_sI, if_pos ⟨rfl, rfl⟩]
    · obtain ⟨h1, h2, h3, h4, h5⟩ := CX_N (by omega) a3 hC
      refine ⟨h1, h2, fun s hs => ?_, fun s hs => ?_, fun d hd => ?_⟩
      · rw [gA_sI, gA_sI, gA_sI, gA_sA, gA_sA, gA_sA, if_neg (by omega), if_neg (by omega), if_neg (by omega)]
        exact h3 s hs
      · rw [gA_sI, gA_sA]
        show _ = nI (if s = vN tb tl e 0 then cAf C s ||| 2 ^ vN tb tl e 1 else cAf C s)
        by_cases q : s = vN tb tl e 0
        · rw [if_pos ⟨rfl, rfl, q⟩, if_pos q, ← q, h4 s hs, or_n]
        · rw [if_neg (fun z => q z.2.2), if_neg q]
          exact h4 s hs
      · rw [gA_sI, gA_sA, if_neg (by omega)]
        exact h5 d hd
  · rw [if_neg p]
    exact ⟨M1, rfl, a2, FBx_N a3, a3.1 11 0 (by omega), fun z => absurd z p⟩
end CoatX
