/-! LIVES: the class's Wear and the reference step by step -/
theorem lpU_sim {α β α' β' : Type} {F : (α → Option β) → α → Option β} {G : (α' → Option β') → α' → Option β'} (I : Nat → α → α' → Prop) (n : Nat) (P : Option β → Option β' → Prop) (hn : n < 5000) (hend : ∀ rc rc' a b, I n a b → P (F rc a) (G rc' b)) (hstep : ∀ rc rc' i a b, i < n → I i a b → P (F rc a) (G rc' b) ∨ ∃ a' b', I (i + 1) a' b' ∧ F rc a = rc a' ∧ G rc' b = rc' b') (i0 : Nat) (a0 : α) (b0 : α') (hi : i0 ≤ n) (h0 : I i0 a0 b0) : P (lp F FU a0) (lp G FU b0) := by
  have key : ∀ f i a b, n - i < f → i ≤ n → I i a b → P (lp F f a) (lp G f b) := by
    intro f
    induction f with
    | zero => intro i a b h; omega
    | succ f ih =>
      intro i a b h1 h2 h3
      rw [lp_s, lp_s]
      by_cases h : i = n
      · subst h
        exact hend _ _ _ _ h3
      · rcases hstep (lp F f) (lp G f) i a b (by omega) h3 with h4 | ⟨a', b', h4, h5, h6⟩
        · exact h4
        · rw [h5, h6]
          exact ih (i + 1) a' b' (by omega) (by omega) h4
  exact key FU i0 a0 b0 (by rw [FU_v]; omega) hi h0
abbrev WP : Type := Nat × Nat × CoatA × (Int32 × Int32) × Int32 × Mem × Mem
def pO (p : WP) : Nat := p.1
def pK (p : WP) : Nat := p.2.1
def pC (p : WP) : CoatA := p.2.2.1
def pS (p : WP) : Int32 × Int32 := p.2.2.2.1
def pL' (p : WP) : Int32 := p.2.2.2.2.1
def pX (p : WP) : Mem := p.2.2.2.2.2.1
def pM (p : WP) : Mem := p.2.2.2.2.2.2
def WSa (C : CoatA) (hs : Nat → Nat) (Mx Mm : Mem) : Prop := ∀ s, s < cN C → gA Mx 15 7 s = nI (hs s) ∧ gA Mm 100 27 s = nI (hs s) ∧ hs s ≤ cSt C s ∧ ((hs s = cSt C s ∧ gA Mx 15 8 s = gA Mm 100 28 s) ∨ (hs s < cSt C s ∧ gA Mm 100 28 s = -1000))
def WSb (C : CoatA) (d t : Nat) (Mx Mm : Mem) : Prop := (gI Mx 15 1 = nI d ∧ gI Mm 100 29 = nI d ∧ d ≤ 99) ∧ gI Mx 15 2 = gI Mm 100 30 ∧ (gI Mx 15 3 = nI t ∧ gI Mm 100 31 = nI t ∧ t ≤ cP C) ∧ gI Mx 15 4 = gI Mm 100 32 ∧ gI Mx 15 5 = gI Mm 100 33
def WSc (p : WP) (Mx Mm : Mem) : Prop := (gR Mx 15 0 = pO p ∧ (pO p < 10 ∨ pO p = 16)) ∧ CX Mx (pO p) (pC p) ∧ MH Mm (pK p) (pC p) ∧ CV (pC p) ∧ (gI Mx 15 6 = (pS p).1 ∧ gI Mm 100 53 = (pS p).2 ∧ gI Mm 100 26 = pL' p) ∧ FX (pX p) Mx ∧ FM (pM p) Mm
def WS (p : WP) (hs : Nat → Nat) (d t : Nat) (Mx Mm : Mem) : Prop := WSa (pC p) hs Mx Mm ∧ WSb (pC p) d t Mx Mm ∧ WSc p Mx Mm
theorem mH_sA {M : Mem} {k : Nat} {C : CoatA} {j i : Nat} {v : Int32} (h : MH M k C) (hj : ¬ j = 6) : MH (sA M 100 j i v) k C := by
  obtain ⟨a, b, c, d, e⟩ := h
  refine ⟨a, b, c, d, CM_cg ?_ e⟩
  show gA (wA M 100 j _) 100 6 = _
  rw [gA_wA', if_neg (fun q => hj q.2.symm)]
theorem cX_sI {M : Mem} {o : Nat} {C : CoatA} {j : Nat} {v : Int32} (h : CX M o C) (ho : o < 10 ∨ o = 16) : CX (sI M 15 j v) o C := CX_cg ⟨fun k => if_neg (fun q => by omega), fun _ => rfl⟩ h
theorem cX_sA {M : Mem} {o : Nat} {C : CoatA} {j i : Nat} {v : Int32} (h : CX M o C) (ho : o < 10 ∨ o = 16) : CX (sA M 15 j i v) o C := by
  refine CX_cg (M := M) ⟨fun _ => rfl, fun k => ?_⟩ h
  show gA (wA M 15 j _) o k = gA M o k
  rw [gA_wA', if_neg (fun q => by omega)]
theorem wc_sIx {p : WP} {Mx Mm : Mem} {j : Nat} {v : Int32} (h : WSc p Mx Mm) (hj : ¬ j = 6) : WSc p (sI Mx 15 j v) Mm := by
  obtain ⟨⟨a, a'⟩, b, c, d, ⟨e1, e2, e3⟩, f, g⟩ := h
  exact ⟨⟨a, a'⟩, cX_sI b a', c, d, ⟨by rw [gI_sI, if_neg (fun q => hj q.2.symm)]; exact e1, e2, e3⟩, FX_tr f (FX_sI _ (by omega)), g⟩
theorem wc_sAx {p : WP} {Mx Mm : Mem} {j i : Nat} {v : Int32} (h : WSc p Mx Mm) : WSc p (sA Mx 15 j i v) Mm := by
  obtain ⟨⟨a, a'⟩, b, c, d, ⟨e1, e2, e3⟩, f, g⟩ := h
  exact ⟨⟨a, a'⟩, cX_sA b a', c, d, ⟨e1, e2, e3⟩, FX_tr f (FX_sA _ (by omega)), g⟩
theorem wc_sIm {p : WP} {Mx Mm : Mem} {j : Nat} {v : Int32} (h : WSc p Mx Mm) (hj : 27 ≤ j ∧ ¬ j = 53) : WSc p Mx (sI Mm 100 j v) := by
  obtain ⟨⟨a, a'⟩, b, c, d, ⟨e1, e2, e3⟩, f, g⟩ := h
  exact ⟨⟨a, a'⟩, b, mH_sI c (by omega), d, ⟨e1, by rw [gI_sI, if_neg (fun q => by omega)]; exact e2, by rw [gI_sI, if_neg (fun q => by omega)]; exact e3⟩, f, FM_tr g (FM_sI _)⟩
theorem wc_sAm {p : WP} {Mx Mm : Mem} {j i : Nat} {v : Int32} (h : WSc p Mx Mm) (hj : 27 ≤ j ∧ ¬ j = 57) : WSc p Mx (sA Mm 100 j i v) := by
  obtain ⟨⟨a, a'⟩, b, c, d, ⟨e1, e2, e3⟩, f, g⟩ := h
  exact ⟨⟨a, a'⟩, b, mH_sA c (by omega), d, ⟨e1, e2, e3⟩, f, FM_tr g (FM_sA _ (by omega))⟩
section Life
variable {p : WP} {hs : Nat → Nat} {d t : Nat} {Mx Mm : Mem}
theorem w_seam (h : WS p hs d t Mx Mm) {s : Nat} (hs2 : s < 2147483648) : f_X0_hasSeam Mx (gR Mx 15 0) (nI s) = some (decide (s < cN (pC p))) := by
  obtain ⟨-, -, ⟨a, -⟩, b, -, c, -⟩ := h
  have := c.1
  rw [a, hasSeam_v b.1 (by omega) hs2]
theorem w_wholeX (h : WS p hs d t Mx Mm) {s : Nat} (hs2 : s < cN (pC p)) : f_X8_isWhole Mx (nI s) = some (decide (hs s = cSt (pC p) s)) := by
  have hn := h.2.2.2.2.2.1.1
  have h1 := h.1 s hs2
  have h2 := (h.2.2.2.2.2.1.2.2.1 s hs2).1
  unfold f_X8_isWhole
  rw [w_seam h (by omega), bn_s, if_pos (dT hs2), gin_n (by omega) (by omega), gin_n (by omega) (by omega), ix_n (by omega), h1.1, h.2.2.1.1, (h.2.2.2.1.2.2.1 s hs2).1, ite_p (eq_n (by omega) (by omega))]
  by_cases q : hs s = cSt (pC p) s
  · rw [if_pos q, decide_eq_true q]
  · rw [if_neg q, decide_eq_false q]
theorem w_wholeM (h : WS p hs d t Mx Mm) {s : Nat} (hs2 : s < cN (pC p)) : f_X10_isWhole Mm (nI s) = some (decide (hs s = cSt (pC p) s)) := by
  have hn := h.2.2.2.2.2.1.1
  have h1 := h.1 s hs2
  have h2 := (h.2.2.2.2.2.1.2.2.1 s hs2).1
  obtain ⟨hk, y0, -, -, -, -, m2, -, -⟩ := h.2.2.2.2.1
  unfold f_X10_isWhole
  rw [gin_n (by omega) (by omega), nI_add, of_v y0 hk (by omega), (m2 s hs2).1, bn_s, ix_n (by omega), h1.2.1, ite_p (eq_n (by omega) (by omega))]
  by_cases q : hs s = cSt (pC p) s
  · rw [if_pos q, decide_eq_true q]
  · rw [if_neg q, decide_eq_false q]
/-- losing n of the stitches of a seam -/
def lsX (Mx : Mem) (s : Nat) (v n : Nat) : Mem := sI (sA Mx 15 7 s (nI (v - n))) 15 5 (gI Mx 15 5 + nI n)
def lsM (Mm : Mem) (s : Nat) (v n : Nat) : Mem := sA (sI (sA Mm 100 27 s (nI (v - n))) 100 33 (gI Mm 100 33 + nI n)) 100 28 s (-1000)
def dec (hs : Nat → Nat) (s n : Nat) : Nat → Nat := fun x => if x = s then hs s - n else hs x
theorem w_lose (h : WS p hs d t Mx Mm) {s n : Nat} (hs2 : s < cN (pC p)) (hn : 1 ≤ n ∧ n ≤ hs s) : f_X8_lose Mx (nI s) (nI n) = some (lsX Mx s (hs s) n) ∧ f_X10_loses Mm (nI s) (nI n) = some (lsM Mm s (hs s) n) ∧ WS p (dec hs s n) d t (lsX Mx s (hs s) n) (lsM Mm s (hs s) n) := by
  have h9 := h.2.2.2.2.2.1.1
  have h1 := h.1 s hs2
  have h2 := (h.2.2.2.2.2.1.2.2.1 s hs2).1
  refine ⟨?_, ?_, fun x hx => ?_, ?_, ?_⟩
  · unfold f_X8_lose lsX
    rw [w_seam h (by omega), bn_s, if_pos (dT hs2), gin_n (by omega) (by omega), gin_n (by omega) (by omega), ix_n (by omega), h1.1, sub_n hn.2, nm_s, gI_sA, nm_s]
  · unfold f_X10_loses lsM
    rw [gin_n (by omega) (by omega), gin_n (by omega) (by omega), ix_n (by omega), h1.2.1, sub_n hn.2, nm_s, gI_sA, nm_s, gin_n (by omega) (by omega), nm_s]
  · have hx1 := h.1 x hx
    unfold lsX lsM dec
    rw [gA_sI, gA_sA, gA_sA, gA_sI, gA_sA, gA_sI, gA_sA, gA_sA, gA_sI, gA_sA]
    by_cases q : x = s
    · subst q
      simp
      omega
    · simp [q]
      exact hx1
  · obtain ⟨⟨a1, a2, a3⟩, b, ⟨c1, c2, c3⟩, e, f⟩ := h.2.1
    unfold lsX lsM
    refine ⟨⟨?_, ?_, a3⟩, ?_, ⟨?_, ?_, c3⟩, ?_, ?_⟩
    · rw [gI_sI, if_neg (by omega), gI_sA]; exact a1
    · rw [gI_sA, gI_sI, if_neg (by omega), gI_sA]; exact a2
    · rw [gI_sI, if_neg (by omega), gI_sA, gI_sA, gI_sI, if_neg (by omega), gI_sA]; exact b
    · rw [gI_sI, if_neg (by omega), gI_sA]; exact c1
    · rw [gI_sA, gI_sI, if_neg (by omega), gI_sA]; exact c2
    · rw [gI_sI, if_neg (by omega), gI_sA, gI_sA, gI_sI, if_neg (by omega), gI_sA]; exact e
    · rw [gI_sI, if_pos ⟨rfl, rfl⟩, gI_sA, gI_sI, if_pos ⟨rfl, rfl⟩, f]
  · exact wc_sAm (wc_sIm (wc_sAm (wc_sIx (wc_sAx h.2.2) (by omega)) (by omega)) (by omega)) (by omega)
/-- both answer alike, and stay so -/
def WE (p : WP) (x m : Option (Bool × Mem)) : Prop := ∃ r Mx' Mm' hs' d' t', x = some (r, Mx') ∧ m = some (r, Mm') ∧ WS p hs' d' t' Mx' Mm'
theorem w_tear (h : WS p hs d t Mx Mm) {s : Nat} (hs2 : s < 2147483648) : WE p (f_X8_tear Mx (nI s)) (f_X10_tears Mm (nI s)) := by
  have h9 := h.2.2.2.2.2.1.1
  have h24 := h.2.2.2.2.1.2.2.1
  unfold f_X8_tear f_X10_tears
  rw [w_seam h hs2, isSeam_v h24 (by omega) hs2, bn_s, bn_s]
  by_cases c : s < cN (pC p)
  · have h1 := h.1 s c
    have h2 := (h.2.2.2.2.2.1.2.2.1 s c).1
    have hg : ∀ x : Option (Bool × Mem), gin (nI s) 9 x = x := fun x => gin_n (by omega) (by omega)
    simp only [hg]
    rw [if_pos (dT c), if_pos (dT c), ix_n (by omega), h1.1, h1.2.1]
    by_cases c2 : hs s = 0
    · rw [c2, if_pos rfl, if_pos rfl]
      exact ⟨_, _, _, hs, d, t, rfl, rfl, h⟩
    · obtain ⟨g1, g2, g3⟩ := w_lose h c (n := hs s) (by omega)
      rw [if_neg (ne_n c2 (by omega) (by omega)), if_neg (ne_n c2 (by omega) (by omega)), g1, g2, bn_s, bn_s]
      exact ⟨_, _, _, _, _, _, rfl, rfl, g3⟩
  · rw [if_neg (dF c), if_neg (dF c)]
    exact ⟨_, _, _, hs, d, t, rfl, rfl, h⟩
theorem w_unpick (h : WS p hs d t Mx Mm) {s : Nat} (hs2 : s < 2147483648) : WE p (f_X8_unpick Mx (nI s)) (f_X10_unpicks Mm (nI s)) := by
  have hV := h.2.2.2.2.2.1
  have h9 := hV.1
  have h24 := h.2.2.2.2.1.2.2.1
  have w2 := (pw9 (cN (pC p)) (by omega)).2.1
  have hX := h.2.2.2.1
  obtain ⟨hk, y0, -, -, -, -, -, m3, -⟩ := h.2.2.2.2.1
  unfold f_X8_unpick f_X10_unpicks
  rw [w_seam h hs2, isSeam_v h24 (by omega) hs2, bn_s, bn_s]
  by_cases c : s < cN (pC p)
  · have h1 := h.1 s c
    have h2 := (h.2.2.2.2.2.1.2.2.1 s c).1
    have hg : ∀ x : Option (Bool × Mem), gin (nI s) 9 x = x := fun x => gin_n (by omega) (by omega)
    simp only [hg]
    rw [if_pos (dT c), if_pos (dT c), ix_n (by omega), h1.1, h1.2.1]
    by_cases c2 : hs s = 0
    · rw [c2, if_pos rfl, if_pos rfl]
      exact ⟨_, _, _, hs, d, t, rfl, rfl, h⟩
    · rw [if_neg (ne_n c2 (by omega) (by omega)), if_neg (ne_n c2 (by omega) (by omega))]
      unfold f_X8_unpick_24 f_X10_unpicks_21
      refine lpU_sim (fun i a b => a = (nI i, Mx) ∧ b = (nI i, Mm)) (cN (pC p)) (WE p) (by omega) ?_ ?_ 0 _ _ (Nat.zero_le _) ⟨rfl, rfl⟩
      · rintro rc rc' a b ⟨rfl, rfl⟩
        show WE p (b_X8_unpick_24 (nI s) _ (nI (cN (pC p))) Mx) (b_X10_unpicks_21 (nI s) _ (nI (cN (pC p))) Mm)
        unfold b_X8_unpick_24 b_X10_unpicks_21
        have hm := Nat.min_le_right 2 (hs s)
        have hm2 : 1 ≤ min 2 (hs s) := by omega
        obtain ⟨g1, g2, g3⟩ := w_lose h c (n := min 2 (hs s)) ⟨hm2, hm⟩
        rw [h.2.2.1.1, hX.1, h24, if_pos (nI_le (Nat.le_refl _) (by omega)), if_pos (nI_le (Nat.le_refl _) (by omega)), gin_n (by omega) (by omega), gin_n (by omega) (by omega), ix_n (by omega), h1.1, h1.2.1, mn_n (by omega) (by omega), nm_s, lesser_n (by omega) (by omega), bn_s, g1, g2, bn_s, bn_s]
        exact ⟨_, _, _, _, _, _, rfl, rfl, g3⟩
      · rintro rc rc' i a b hi ⟨rfl, rfl⟩
        have hi1 := h.1 i hi
        have hi2 := (h.2.2.2.2.2.1.2.2.1 i hi).1
        have hA := Od_A hV i hi
        show WE p (b_X8_unpick_24 (nI s) _ (nI i) Mx) (b_X10_unpicks_21 (nI s) _ (nI i) Mm) ∨ ∃ a' b', _ ∧ b_X8_unpick_24 (nI s) _ (nI i) Mx = _ ∧ b_X10_unpicks_21 (nI s) _ (nI i) Mm = _
        unfold b_X8_unpick_24 b_X10_unpicks_21 f_X8_unpick_63 f_X10_unpicks_55
        have eo : f_X10_of Mm (nI 29 + nI i) = some (nI (cAf (pC p) i)) := by rw [nI_add, of_v y0 hk (by omega), m3 i (by omega)]
        have hg : ∀ x : Option (Bool × Mem), gin (nI i) 9 x = x := fun x => gin_n (by omega) (by omega)
        simp only [hg]
        rw [h.2.2.1.1, hX.1, h24, if_neg (nI_ge hi (by omega)), if_neg (nI_ge hi (by omega)), ix_n (by omega), hX.2.2.2.1 i (by omega), ite_p (bit_n (by omega) (by omega)), eo, bn_s, has_v (by omega) (by omega), bn_s, hi1.1, hi1.2.1, nI_add, nm_s, nm_s]
        by_cases q1 : (cAf (pC p) i).testBit s = true
        · rw [if_pos q1, if_pos q1]
          by_cases q2 : hs i ≤ 0
          · right
            rw [if_pos (nI_le q2 (by omega)), if_pos (nI_le q2 (by omega))]
            exact ⟨_, _, ⟨rfl, rfl⟩, rfl, rfl⟩
          · left
            rw [if_neg (nI_ge (by omega) (by omega)), if_neg (nI_ge (by omega) (by omega))]
            exact ⟨_, _, _, hs, d, t, rfl, rfl, h⟩
        · right
          rw [if_neg q1, if_neg q1]
          exact ⟨_, _, ⟨rfl, rfl⟩, rfl, rfl⟩
  · rw [if_neg (dF c), if_neg (dF c)]
    exact ⟨_, _, _, hs, d, t, rfl, rfl, h⟩
/-- growing by g -/
theorem w_grow (h : WS p hs d t Mx Mm) (g : Int32) : ∃ Mx' Mm' hs', f_X8_widen Mx g = some (true, Mx') ∧ f_X10_grows Mm g = some Mm' ∧ WS p hs' d t Mx' Mm' := by
  have h1 : WS p hs d t (sI Mx 15 2 (gI Mx 15 2 + g)) (sI Mm 100 30 (gI Mm 100 30 + g)) := by
    obtain ⟨a, ⟨⟨a1, a2, a3⟩, b, ⟨c1, c2, c3⟩, e, f⟩, c⟩ := h
    refine ⟨a, ⟨⟨?_, ?_, a3⟩, ?_, ⟨?_, ?_, c3⟩, ?_, ?_⟩, wc_sIm (wc_sIx c (by omega)) (by omega)⟩
    · rw [gI_sI, if_neg (by omega)]; exact a1
    · rw [gI_sI, if_neg (by omega)]; exact a2
    · rw [gI_sI, if_pos ⟨rfl, rfl⟩, gI_sI, if_pos ⟨rfl, rfl⟩, b]
    · rw [gI_sI, if_neg (by omega)]; exact c1
    · rw [gI_sI, if_neg (by omega)]; exact c2
    · rw [gI_sI, if_neg (by omega), gI_sI, if_neg (by omega)]; exact e
    · rw [gI_sI, if_neg (by omega), gI_sI, if_neg (by omega)]; exact f
  unfold f_X8_widen f_X10_grows
  rw [nm_s, nm_s]
  unfold f_X8_widen_12 f_X10_grows_12
  have h9 := h.2.2.2.2.2.1.1
  refine lpU_sim (fun i a b => ∃ Mx' Mm' hs', a = (nI i, Mx') ∧ b = (nI i, Mm') ∧ WS p hs' d t Mx' Mm') (cN (pC p)) (fun x m => ∃ Mx' Mm' hs', x = some (true, Mx') ∧ m = some Mm' ∧ WS p hs' d t Mx' Mm') (by omega) ?_ ?_ 0 _ _ (Nat.zero_le _) ⟨_, _, _, rfl, rfl, h1⟩
  · rintro rc rc' a b ⟨M1, M2, h1s, rfl, rfl, hw⟩
    show ∃ Mx' Mm' hs', b_X8_widen_12 g _ (nI (cN (pC p))) M1 = _ ∧ b_X10_grows_12 g _ (nI (cN (pC p))) M2 = _ ∧ _
    unfold b_X8_widen_12 b_X10_grows_12
    rw [hw.2.2.1.1, hw.2.2.2.1.1, hw.2.2.2.2.1.2.2.1, if_pos (nI_le (Nat.le_refl _) (by omega)), if_pos (nI_le (Nat.le_refl _) (by omega))]
    exact ⟨_, _, _, rfl, rfl, hw⟩
  · rintro rc rc' i a b hi ⟨M1, M2, h1s, rfl, rfl, hw⟩
    right
    show ∃ a' b', _ ∧ b_X8_widen_12 g _ (nI i) M1 = _ ∧ b_X10_grows_12 g _ (nI i) M2 = _
    unfold b_X8_widen_12 b_X10_grows_12 f_X8_widen_75 f_X10_grows_71
    have hi1 := hw.1 i hi
    have hi2 := (hw.2.2.2.2.2.1.2.2.1 i hi)
    have eo : f_X10_of M2 (nI 20 + nI i) = some (nI (cEs (pC p) i)) := by
      obtain ⟨hk, y0, -, -, -, -, m2, -, -⟩ := hw.2.2.2.2.1
      rw [nI_add, of_v y0 hk (by omega), (m2 i hi).2.2]
    have hg : ∀ x : Option (Bool × Mem), gin (nI i) 9 x = x := fun x => gin_n (by omega) (by omega)
    have hg' : ∀ x : Option Mem, gin (nI i) 9 x = x := fun x => gin_n (by omega) (by omega)
    simp only [hg, hg']
    rw [hw.2.2.1.1, hw.2.2.2.1.1, hw.2.2.2.2.1.2.2.1, if_neg (nI_ge hi (by omega)), if_neg (nI_ge hi (by omega)), w_wholeX hw hi, w_wholeM hw hi, bn_s, bn_s]
    by_cases c : h1s i = cSt (pC p) i
    · have hft : gA M1 15 8 i = gA M2 100 28 i := by
        rcases hi1.2.2.2 with z | z
        · exact z.2
        · omega
      rw [if_pos (dT c), if_pos (dT c), ix_n (by omega), eo, bn_s, (hw.2.2.2.1.2.2.1 i hi).2.2, ← hw.2.1.2.1, hft]
      by_cases c2 : gI M1 15 2 - gA M2 100 28 i ≤ nI (cEs (pC p) i)
      · rw [if_pos c2, if_pos c2, nI_add, nm_s, nm_s]
        exact ⟨_, _, ⟨M1, M2, h1s, rfl, rfl, hw⟩, rfl, rfl⟩
      · rw [if_neg c2, if_neg c2, hi1.1, nm_s, gA_sI, hi1.2.1]
        obtain ⟨g1, -, -⟩ := w_lose hw hi (n := h1s i) (by omega)
        have hwb : WSc p M1 (sI M2 100 32 (gI M2 100 32 + nI 1)) := wc_sIm hw.2.2 (by omega)
        -- the reference counts the burst first
        have g2 : f_X10_loses (sI M2 100 32 (gI M2 100 32 + nI 1)) (nI i) (nI (h1s i)) = some (lsM (sI M2 100 32 (gI M2 100 32 + nI 1)) i (h1s i) (h1s i)) := by
          unfold f_X10_loses lsM
          rw [gin_n (by omega) (by omega), gin_n (by omega) (by omega), ix_n (by omega), gA_sI, hi1.2.1, sub_n (Nat.le_refl _), nm_s, gI_sA, nm_s, gin_n (by omega) (by omega), nm_s]
        rw [g1, g2, bn_s, bn_s, nm_s, nI_add, nm_s, nm_s]
        refine ⟨_, _, ⟨_, _, dec h1s i (h1s i), rfl, rfl, fun x hx => ?_, ?_, ?_⟩, rfl, rfl⟩
        · have hx1 := hw.1 x hx
          unfold lsX lsM dec
          rw [gA_sI, gA_sI, gA_sA, gA_sA, gA_sI, gA_sA, gA_sI, gA_sI, gA_sI, gA_sA, gA_sA, gA_sI, gA_sA, gA_sI]
          by_cases q : x = i
          · subst q
            simp
            omega
          · simp [q]
            exact hx1
        · obtain ⟨⟨a1, a2, a3⟩, b, ⟨c1, c2, c3⟩, e, f⟩ := hw.2.1
          unfold lsX lsM
          refine ⟨⟨?_, ?_, a3⟩, ?_, ⟨?_, ?_, c3⟩, ?_, ?_⟩
          · rw [gI_sI, if_neg (by omega), gI_sI, if_neg (by omega), gI_sA]; exact a1
          · rw [gI_sA, gI_sI, if_neg (by omega), gI_sA, gI_sI, if_neg (by omega)]; exact a2
          · rw [gI_sI, if_neg (by omega), gI_sI, if_neg (by omega), gI_sA, gI_sA, gI_sI, if_neg (by omega), gI_sA, gI_sI, if_neg (by omega)]; exact b
          · rw [gI_sI, if_neg (by omega), gI_sI, if_neg (by omega), gI_sA]; exact c1
          · rw [gI_sA, gI_sI, if_neg (by omega), gI_sA, gI_sI, if_neg (by omega)]; exact c2
          · rw [gI_sI, if_pos ⟨rfl, rfl⟩, gI_sI, if_neg (by omega), gI_sA, gI_sA, gI_sI, if_neg (by omega), gI_sA, gI_sI, if_pos ⟨rfl, rfl⟩, e]
          · rw [gI_sI, if_neg (by omega), gI_sI, if_pos ⟨rfl, rfl⟩, gI_sA, gI_sI, if_pos ⟨rfl, rfl⟩, gI_sI, if_neg (by omega), f]
        · exact wc_sAm (wc_sIm (wc_sAm (wc_sIx (wc_sIx (wc_sAx hwb) (by omega)) (by omega)) (by omega)) (by omega)) (by omega)
    · rw [if_neg (dF c), if_neg (dF c), nI_add, nm_s, nm_s]
      exact ⟨_, _, ⟨M1, M2, h1s, rfl, rfl, hw⟩, rfl, rfl⟩
theorem w_sleep (h : WS p hs d t Mx Mm) : WE p (f_X8_sleep Mx) (f_X10_goesOn Mm) := by
  obtain ⟨a, ⟨⟨a1, a2, a3⟩, b, ⟨c1, c2, c3⟩, e, f⟩, c⟩ := h
  unfold f_X8_sleep f_X10_goesOn
  rw [a1, a2, nI_add, ite_p (lt_n (by omega) (by omega)), ite_p (eq_n (by omega) (by omega))]
  by_cases q : d = 99
  · rw [if_neg (by omega), if_pos q]
    exact ⟨_, _, _, hs, d, t, rfl, rfl, a, ⟨⟨a1, a2, a3⟩, b, ⟨c1, c2, c3⟩, e, f⟩, c⟩
  · have h1 : WS p hs (d + 1) 0 (sI (sI Mx 15 1 (nI (d + 1))) 15 3 (nI 0)) (sI (sI Mm 100 29 (nI (d + 1))) 100 31 (nI 0)) := by
      refine ⟨a, ⟨⟨?_, ?_, by omega⟩, ?_, ⟨?_, ?_, Nat.zero_le _⟩, ?_, ?_⟩, wc_sIm (wc_sIm (wc_sIx (wc_sIx c (by omega)) (by omega)) (by omega)) (by omega)⟩
      · rw [gI_sI, if_neg (by omega), gI_sI, if_pos ⟨rfl, rfl⟩]
      · rw [gI_sI, if_neg (by omega), gI_sI, if_pos ⟨rfl, rfl⟩]
      · rw [gI_sI, if_neg (by omega), gI_sI, if_neg (by omega), gI_sI, if_neg (by omega), gI_sI, if_neg (by omega)]; exact b
      · rw [gI_sI, if_pos ⟨rfl, rfl⟩]
      · rw [gI_sI, if_pos ⟨rfl, rfl⟩]
      · rw [gI_sI, if_neg (by omega), gI_sI, if_neg (by omega), gI_sI, if_neg (by omega), gI_sI, if_neg (by omega)]; exact e
      · rw [gI_sI, if_neg (by omega), gI_sI, if_neg (by omega), gI_sI, if_neg (by omega), gI_sI, if_neg (by omega)]; exact f
    rw [if_pos (by omega), if_neg q, nm_s, nm_s, nm_s, nm_s]
    generalize sI (sI Mx 15 1 (nI (d + 1))) 15 3 (nI 0) = M1 at h1 ⊢
    generalize sI (sI Mm 100 29 (nI (d + 1))) 100 31 (nI 0) = M2 at h1 ⊢
    obtain ⟨M3, M4, hs', g1, g2, g3⟩ := w_grow h1 (nI (cGr (pC p) (d + 1)))
    have eo : f_X10_of M2 (nI 38 + gI M2 100 29) = some (nI (cGr (pC p) (d + 1))) := by
      obtain ⟨hk, y0, -, -, -, -, -, -, m4⟩ := h1.2.2.2.2.1
      rw [h1.2.1.1.2.1, nI_add, of_v y0 hk (by omega), m4 (d + 1) (by omega)]
    rw [h1.2.1.1.1, gin_n (by omega) (by omega), ix_n (by omega), h1.2.2.1.1, h1.2.2.2.1.2.2.2.2 (d + 1) (by omega), g1, bp_s, eo, bn_s, g2, bn_s]
    exact ⟨_, _, _, _, _, _, rfl, rfl, g3⟩
end Life
