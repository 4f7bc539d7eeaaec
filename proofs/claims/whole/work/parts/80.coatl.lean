/-! TEXTS: a line of a COAT on both sides -/
theorem wC_ne : ∀ i, i < 18 → ∀ j, j < 18 → ¬ i = j → ¬ wC i = wC j := by decide +kernel
theorem wC_63 : ∀ i, i < 18 → wC i < 2 ^ 63 ∧ ¬ wC i = 0 := by decide +kernel
def CVt (C : CoatA) (fo : Nat) : Prop := cN C ≤ 9 ∧ (1 ≤ cP C ∧ cP C ≤ 9) ∧ (∀ s, s < cN C → (1 ≤ cSt C s ∧ cSt C s ≤ 9) ∧ cCo C s ≤ 3 ∧ cEs C s ≤ 9) ∧ (∀ s, s < 9 → cAf C s < 2 ^ fo ∧ (cAf C s).testBit s = false ∧ (¬ cAf C s = 0 → s < fo)) ∧ (∀ s, 9 ≤ s → cAf C s = 0) ∧ ∀ d, cGr C d ≤ 9
def FOR (TO fo : Nat) : Prop := fo ≤ 9 ∧ TO < 2 ^ fo ∧ (¬ fo = 0 → 2 ^ (fo - 1) ≤ TO)
def KC (x : Nat × Nat) (Mx Mm : Mem) : Prop := ∃ n, n ≤ 9 ∧ gI Mx 11 0 = nI n ∧ gA Mm 100 19 0 = nI n ∧ (x.1 = 0 → ∃ C fo TO, cN C = n ∧ CVt C fo ∧ FOR TO fo ∧ CX Mx 11 C ∧ CR Mm C ∧ gI Mx 10 11 = nI TO ∧ gI Mm 100 21 = farI fo)
theorem FOR_or {TO fo a : Nat} (h : FOR TO fo) (ha : a ≤ 8) : FOR (TO ||| 2 ^ a) (max fo (a + 1)) := by
  obtain ⟨h1, h2, h3⟩ := h
  refine ⟨by omega, ?_, fun _ => ?_⟩
  · have e1 : TO < 2 ^ max fo (a + 1) := Nat.lt_of_lt_of_le h2 (Nat.pow_le_pow_right (by omega) (by omega))
    have e2 : (2 : Nat) ^ a < 2 ^ max fo (a + 1) := Nat.pow_lt_pow_right (by omega) (by omega)
    exact Nat.or_lt_two_pow e1 e2
  · by_cases p : fo ≤ a + 1
    · rw [Nat.max_eq_right p]
      exact Nat.right_le_or
    · rw [Nat.max_eq_left (by omega)]
      exact Nat.le_trans (h3 (by omega)) Nat.left_le_or
section CoatL
variable {tb : Nat → Nat} {tl : Nat}
theorem KC_seam {x : Nat × Nat} {e n : Nat} {Mx Mm Mx' M5 M6 : Mem} (n9 : n ≤ 9) (h : x.1 = 0 → ∃ C fo TO, cN C = n ∧ CVt C fo ∧ FOR TO fo ∧ CX Mx 11 C ∧ CR Mm C ∧ gI Mx 10 11 = nI TO ∧ gI Mm 100 21 = farI fo) (x1 : gI Mx' 11 0 = nI (min (n + 1) 9)) (x2 : gI Mx' 10 11 = gI Mx 10 11) (x3 : ∀ C, cN C = n → n < 9 → CX Mx 11 C → CX Mx' 11 (setS C (vN tb tl e 0) (vN tb tl e 1) (vN tb tl e 2))) (m1 : gA M5 100 19 0 = nI (min (n + 1) 9)) (m2 : gI M5 100 21 = gI Mm 100 21) (m3 : ∀ C, cN C = n → n < 9 → CR Mm C → CR M5 (setS C (vN tb tl e 0) (vN tb tl e 1) (vN tb tl e 2))) (hF : FTm M5 M6) : KC (xSeam tb tl e n x) Mx' M6 := by
  refine ⟨min (n + 1) 9, by omega, x1, by rw [hF.2]; exact m1, fun z => ?_⟩
  obtain ⟨z1, z2⟩ := ntc_0 (by omega) z
  obtain ⟨z3, z4⟩ := ntc_0 (by omega) z1
  obtain ⟨z5, z6⟩ := ntc_0 (by omega) z3
  obtain ⟨z7, z8⟩ := ntc_0 (by omega) z5
  obtain ⟨C, fo, TO, c1, ⟨v1, v2, v3, v4, v5, v6⟩, c3, c4, c5, c6, c7⟩ := h z7
  refine ⟨setS C (vN tb tl e 0) (vN tb tl e 1) (vN tb tl e 2), fo, TO, ?_, ⟨?_, v2, fun s hs => ?_, v4, v5, v6⟩, c3, x3 C c1 (by omega) c4, CR_cg (hF.2 100 19) (m3 C c1 (by omega) c5), by rw [x2]; exact c6, by rw [hF.1 100 21 (by omega), m2]; exact c7⟩
  · show cN C + 1 = _; omega
  · show cN C + 1 ≤ 9; omega
  · have hs2 : s < cN C + 1 := hs
    show (1 ≤ (if s = cN C then vN tb tl e 0 else cSt C s) ∧ (if s = cN C then vN tb tl e 0 else cSt C s) ≤ 9) ∧ (if s = cN C then vN tb tl e 1 else cCo C s) ≤ 3 ∧ (if s = cN C then vN tb tl e 2 else cEs C s) ≤ 9
    by_cases q : s = cN C
    · rw [if_pos q, if_pos q, if_pos q]
      omega
    · rw [if_neg q, if_neg q, if_neg q]
      exact v3 s (by omega)
theorem KC_after {x : Nat × Nat} {e n fo TO : Nat} {C : CoatA} {Mx Mm Mx' M5 M6 : Mem} (n9 : n ≤ 9) (h : x.1 = 0 → cN C = n ∧ CVt C fo ∧ FOR TO fo ∧ CX Mx 11 C ∧ CR Mm C ∧ gI Mx 10 11 = nI TO ∧ gI Mm 100 21 = farI fo) (x1 : gI Mx' 11 0 = nI n) (x2 : (xAfter tb tl e x).1 = 0 → gI Mx' 10 11 = gI Mx 10 11 ||| nI (2 ^ vN tb tl e 0 ||| 2 ^ vN tb tl e 1) ∧ ∀ C, CX Mx 11 C → CX Mx' 11 (setA C (vN tb tl e 0) (vN tb tl e 1))) (m1 : gA M5 100 19 0 = nI n) (m2 : (xAfter tb tl e x).1 = 0 → gI M5 100 21 = farI (max fo (max (vN tb tl e 0) (vN tb tl e 1) + 1)) ∧ ∀ C, cN C ≤ 9 → CR Mm C → CR M5 (setA C (vN tb tl e 0) (vN tb tl e 1))) (hF : FTm M5 M6) : KC (xAfter tb tl e x) Mx' M6 := by
  refine ⟨n, n9, x1, by rw [hF.2]; exact m1, fun z => ?_⟩
  obtain ⟨z1, z2⟩ := ntc_0 (by omega) z
  obtain ⟨z3, z4⟩ := ntc_0 (by omega) z1
  obtain ⟨c1, ⟨v1, v2, v3, v4, v5, v6⟩, c3, c4, c5, c6, c7⟩ := h z3
  obtain ⟨y1, y2⟩ := x2 z
  obtain ⟨w1, w2⟩ := m2 z
  rw [c6, or_n] at y1
  have b0 : vN tb tl e 0 ≤ 8 := by omega
  have b1 : vN tb tl e 1 ≤ 8 := by omega
  have b2 : ¬ vN tb tl e 0 = vN tb tl e 1 := by omega
  generalize vN tb tl e 0 = a at *
  generalize vN tb tl e 1 = b at *
  have hmx : max fo (max a b + 1) = max (max fo (a + 1)) (b + 1) := by omega
  refine ⟨setA C a b, max fo (max a b + 1), TO ||| (2 ^ a ||| 2 ^ b), c1, ⟨v1, v2, v3, fun s hs => ?_, fun s hs => ?_, v6⟩, ?_, y2 C c4, CR_cg (hF.2 100 19) (w2 C v1 c5), y1, by rw [hF.1 100 21 (by omega)]; exact w1⟩
  · obtain ⟨u1, u2, u3⟩ := v4 s hs
    have p1 : cAf C s < 2 ^ max fo (max a b + 1) := Nat.lt_of_lt_of_le u1 (Nat.pow_le_pow_right (by omega) (by omega))
    show (if s = a then cAf C s ||| 2 ^ b else cAf C s) < _ ∧ (if s = a then cAf C s ||| 2 ^ b else cAf C s).testBit s = false ∧ (¬ (if s = a then cAf C s ||| 2 ^ b else cAf C s) = 0 → _)
    by_cases q : s = a
    · rw [if_pos q]
      refine ⟨or_lt p1 (by omega), ?_, fun _ => by omega⟩
      rw [or_tb, u2]
      simp only [Bool.false_or, decide_eq_false_iff_not]
      omega
    · rw [if_neg q]
      exact ⟨p1, u2, fun z => by have := u3 z; omega⟩
  · show (if s = a then cAf C s ||| 2 ^ b else cAf C s) = 0
    rw [if_neg (by omega)]
    exact v5 s hs
  · rw [hmx, ← Nat.or_assoc]
    exact FOR_or (FOR_or c3 b0) b1
theorem KC_plain {x x' : Nat × Nat} {n : Nat} {Mx Mm Mx' M5 M6 : Mem} (f : CoatA → CoatA) (n9 : n ≤ 9) (h : x.1 = 0 → ∃ C fo TO, cN C = n ∧ CVt C fo ∧ FOR TO fo ∧ CX Mx 11 C ∧ CR Mm C ∧ gI Mx 10 11 = nI TO ∧ gI Mm 100 21 = farI fo) (h0 : x'.1 = 0 → x.1 = 0 ∧ ∀ C fo, CVt C fo → CVt (f C) fo ∧ cN (f C) = cN C) (x1 : gI Mx' 11 0 = nI n) (x2 : gI Mx' 10 11 = gI Mx 10 11) (x3 : ∀ C, CX Mx 11 C → CX Mx' 11 (f C)) (m1 : gA M5 100 19 0 = nI n) (m2 : gI M5 100 21 = gI Mm 100 21) (m3 : x'.1 = 0 → ∀ C, cN C ≤ 9 → CR Mm C → CR M5 (f C)) (hF : FTm M5 M6) : KC x' Mx' M6 := by
  refine ⟨n, n9, x1, by rw [hF.2]; exact m1, fun z => ?_⟩
  obtain ⟨z1, z2⟩ := h0 z
  obtain ⟨C, fo, TO, c1, c2, c3, c4, c5, c6, c7⟩ := h z1
  obtain ⟨d1, d2⟩ := z2 C fo c2
  exact ⟨f C, fo, TO, by rw [d2]; exact c1, d1, c3, x3 C c4, CR_cg (hF.2 100 19) (m3 z C c2.1 c5), by rw [x2]; exact c6, by rw [hF.1 100 21 (by omega), m2]; exact c7⟩
theorem wordC {M : Mem} {e : Nat} (h : XTk tb tl e M) (hk : tkK tb tl e = 1) : f_X2_wordOf M (nI 0) = some (if wdT tb tl e = wC 0 then nI 0 else if wdT tb tl e = wC 1 then nI 1 else if wdT tb tl e = wC 2 then nI 2 else if wdT tb tl e = wC 3 then nI 3 else -1) := by
  unfold f_X2_wordOf
  rw [if_pos rfl, (is_word h hk (k := 0) (by omega)).1, (is_word h hk (k := 1) (by omega)).1, (is_word h hk (k := 2) (by omega)).1, (is_word h hk (k := 3) (by omega)).1, bn_s, bn_s, bn_s, bn_s]
  by_cases p0 : wdT tb tl e = wC 0
  · rw [if_pos p0, decide_eq_true p0, if_pos rfl]
  · rw [if_neg p0, decide_eq_false p0, if_neg (by decide)]
    by_cases p1 : wdT tb tl e = wC 1
    · rw [if_pos p1, decide_eq_true p1, if_pos rfl]
    · rw [if_neg p1, decide_eq_false p1, if_neg (by decide)]
      by_cases p2 : wdT tb tl e = wC 2
      · rw [if_pos p2, decide_eq_true p2, if_pos rfl]
      · rw [if_neg p2, decide_eq_false p2, if_neg (by decide)]
        by_cases p3 : wdT tb tl e = wC 3
        · rw [if_pos p3, decide_eq_true p3, if_pos rfl]
        · rw [if_neg p3, decide_eq_false p3, if_neg (by decide)]
theorem FPx_L {Mx M3 : Mem} {x : Nat × Nat} (h : FPx Mx x) (e : gI M3 10 12 = gI Mx 10 12 ∧ gI M3 10 13 = gI Mx 10 13) : FPx M3 x := ⟨h.1, by rw [e.1]; exact h.2.1, by rw [e.2]; exact h.2.2⟩
theorem CX_L {Mx M3 : Mem} {C : CoatA} (f : FLx Mx M3) : CX Mx 11 C → CX M3 11 C := CX_cg ⟨fun k => f.1 11 k (by omega), fun k => f.2.1 11 k (by omega)⟩
theorem CR_22 {M : Mem} {C : CoatA} {v : Int32} : CR M C → CR (sI M 100 22 v) C := CR_cg rfl
theorem coat_line {e : Nat} {x : Nat × Nat} {Mx Mm : Mem} (hX : XTk tb tl e Mx) (hFx : FPx Mx x) (hM : MTk tb tl e Mm) (hFm : FPm Mm x) (hP : PB x (tkF tb tl e)) (hK : KC x Mx Mm) (hk0 : ¬ tkK tb tl e = 0) : StepR tb tl KC 0 e Mx Mm := by
  obtain ⟨n, n9, k1, k2, k3⟩ := hK
  have hlo : ∀ M (wd : Int64) v, f_X10_lineOf M (nI 0) wd v = f_X10_coatLine M wd v := fun M wd v => by
    unfold f_X10_lineOf
    rw [if_pos rfl]
    cases f_X10_coatLine M wd v <;> rfl
  have hbo : ∀ w q M, bodyX (nI 0) w q M = f_X2_lineOfCoat M w q := fun w q M => by
    unfold bodyX
    rw [if_pos rfl]
    cases f_X2_lineOfCoat M w q <;> rfl
  by_cases hk : tkK tb tl e = 1
  · have hw := wordC hX hk
    have w63 := (is_word hX hk (k := 0) (by omega)).2
    by_cases p0 : wdT tb tl e = wC 0
    · rw [if_pos p0] at hw
      refine join hX hM hP hFm hk hw (by omega) (n := 3) (by decide +kernel) (by omega) (x' := xSeam tb tl e n x) (fun Mx' => gI Mx' 11 0 = nI (min (n + 1) 9) ∧ gI Mx' 10 11 = gI Mx 10 11 ∧ ∀ C, cN C = n → n < 9 → CX Mx 11 C → CX Mx' 11 (setS C (vN tb tl e 0) (vN tb tl e 1) (vN tb tl e 2))) (fun M5 => gA M5 100 19 0 = nI (min (n + 1) 9) ∧ gI M5 100 21 = gI Mm 100 21 ∧ ∀ C, cN C = n → n < 9 → CR Mm C → CR M5 (setS C (vN tb tl e 0) (vN tb tl e 1) (vN tb tl e 2))) ?_ ?_ ?_
      · intro M3 f1 f2 f3 f4
        obtain ⟨Mx', g1, g2, g3, g4, g5, g6⟩ := seam_x (FPx_L hFx f4) f2 f3 (by rw [f1.1 11 0 (by omega)]; exact k1) n9
        exact ⟨Mx', by rw [hbo]; exact g1, g2, g3, g4, by rw [g5, f1.1 10 11 (by omega)], fun C q1 q2 q3 => g6 C q1 q2 (CX_L f1 q3)⟩
      · intro hst
        rw [hlo, p0]
        have := seam_m hst (n := n) (by rw [gA_sI]; exact k2) n9
        exact LR_mono this fun M' z => ⟨z.1, z.2.1, z.2.2.1, by rw [z.2.2.2.1, gI_sI, if_neg (by omega)], fun C q1 q2 q3 => z.2.2.2.2 C q1 q2 (CR_22 q3)⟩
      · intro Mx' M5 M6 _ q1 q2 q3
        exact KC_seam n9 k3 q1.1 q1.2.1 q1.2.2 q2.1 q2.2.1 q2.2.2 q3
    · rw [if_neg p0] at hw
      by_cases p1 : wdT tb tl e = wC 1
      · rw [if_pos p1] at hw
        obtain ⟨C, fo, TO, k4⟩ : ∃ C fo TO, x.1 = 0 → cN C = n ∧ CVt C fo ∧ FOR TO fo ∧ CX Mx 11 C ∧ CR Mm C ∧ gI Mx 10 11 = nI TO ∧ gI Mm 100 21 = farI fo := by
          by_cases z : x.1 = 0
          · obtain ⟨C, fo, TO, k4⟩ := k3 z
            exact ⟨C, fo, TO, fun _ => k4⟩
          · exact ⟨(0, 0, fun _ => 0, fun _ => 0, fun _ => 0, fun _ => 0, fun _ => 0), 0, 0, fun y => absurd y z⟩
        refine join hX hM hP hFm hk hw (by omega) (n := 2) (by decide +kernel) (by omega) (x' := xAfter tb tl e x) (fun Mx' => gI Mx' 11 0 = nI n ∧ ((xAfter tb tl e x).1 = 0 → gI Mx' 10 11 = gI Mx 10 11 ||| nI (2 ^ vN tb tl e 0 ||| 2 ^ vN tb tl e 1) ∧ ∀ C, CX Mx 11 C → CX Mx' 11 (setA C (vN tb tl e 0) (vN tb tl e 1)))) (fun M5 => gA M5 100 19 0 = nI n ∧ ((xAfter tb tl e x).1 = 0 → gI M5 100 21 = farI (max fo (max (vN tb tl e 0) (vN tb tl e 1) + 1)) ∧ ∀ C, cN C ≤ 9 → CR Mm C → CR M5 (setA C (vN tb tl e 0) (vN tb tl e 1)))) ?_ ?_ ?_
        · intro M3 f1 f2 f3 f4
          obtain ⟨Mx', g1, g2, g3, g4, g5⟩ := after_x (FPx_L hFx f4) f2 f3
          exact ⟨Mx', by rw [hbo]; exact g1, g2, g3, by rw [g4, f1.1 11 0 (by omega)]; exact k1, fun z => ⟨by rw [(g5 z).1, f1.1 10 11 (by omega)], fun C q3 => (g5 z).2 C (CX_L f1 q3)⟩⟩
        · intro hst
          rw [hlo, p1]
          refine LR_mono (after_m (fo := fo) hst fun z => ?_) fun M' z => ⟨z.1, z.2.1, by rw [z.2.2.1, gA_sI]; exact k2, fun y => ⟨(z.2.2.2 y).1, fun C q1 q3 => (z.2.2.2 y).2 C q1 (CR_22 q3)⟩⟩
          obtain ⟨z1, z2⟩ := ntc_0 (by omega) z
          obtain ⟨z3, z4⟩ := ntc_0 (by omega) z1
          obtain ⟨-, -, c3, -, -, -, c7⟩ := k4 z3
          exact ⟨by rw [gI_sI, if_neg (by omega)]; exact c7, c3.1⟩
        · intro Mx' M5 M6 _ q1 q2 q3
          exact KC_after n9 k4 q1.1 q1.2 q2.1 q2.2 q3
      · rw [if_neg p1] at hw
        by_cases p2 : wdT tb tl e = wC 2
        · rw [if_pos p2] at hw
          refine join hX hM hP hFm hk hw (by omega) (n := 2) (by decide +kernel) (by omega) (x' := xGrows tb tl e x) (fun Mx' => gI Mx' 11 0 = nI n ∧ gI Mx' 10 11 = gI Mx 10 11 ∧ ∀ C, CX Mx 11 C → CX Mx' 11 (setG C (vN tb tl e 0) (vN tb tl e 1))) (fun M5 => gA M5 100 19 0 = nI n ∧ gI M5 100 21 = gI Mm 100 21 ∧ ((xGrows tb tl e x).1 = 0 → ∀ C, cN C ≤ 9 → CR Mm C → CR M5 (setG C (vN tb tl e 0) (vN tb tl e 1)))) ?_ ?_ ?_
          · intro M3 f1 f2 f3 f4
            obtain ⟨Mx', g1, g2, g3, g4, g5, g6⟩ := grows_x (FPx_L hFx f4) f2 f3
            exact ⟨Mx', by rw [hbo]; exact g1, g2, g3, by rw [g4, f1.1 11 0 (by omega)]; exact k1, by rw [g5, f1.1 10 11 (by omega)], fun C q3 => g6 C (CX_L f1 q3)⟩
          · intro hst
            rw [hlo, p2]
            exact LR_mono (grows_m hst) fun M' z => ⟨z.1, z.2.1, by rw [z.2.2.1, gA_sI]; exact k2, by rw [z.2.2.2.1, gI_sI, if_neg (by omega)], fun y C q1 q3 => z.2.2.2.2 y C q1 (CR_22 q3)⟩
          · intro Mx' M5 M6 _ q1 q2 q3
            refine KC_plain (fun C => setG C (vN tb tl e 0) (vN tb tl e 1)) n9 k3 (fun z => ?_) q1.1 q1.2.1 q1.2.2 q2.1 q2.2.1 q2.2.2 q3
            obtain ⟨z1, z2⟩ := ntc_0 (by omega) z
            obtain ⟨z3, z4⟩ := ntc_0 (by omega) z1
            refine ⟨z3, fun C fo ⟨v1, v2, v3, v4, v5, v6⟩ => ⟨⟨v1, v2, v3, v4, v5, fun d => ?_⟩, rfl⟩⟩
            show (if d = vN tb tl e 0 then vN tb tl e 1 else cGr C d) ≤ 9
            split
            · omega
            · exact v6 d
        · rw [if_neg p2] at hw
          by_cases p3 : wdT tb tl e = wC 3
          · rw [if_pos p3] at hw
            refine join hX hM hP hFm hk hw (by omega) (n := 1) (by decide +kernel) (by omega) (x' := xPace tb tl e x) (fun Mx' => gI Mx' 11 0 = nI n ∧ gI Mx' 10 11 = gI Mx 10 11 ∧ ∀ C, CX Mx 11 C → CX Mx' 11 (setP C (vN tb tl e 0))) (fun M5 => gA M5 100 19 0 = nI n ∧ gI M5 100 21 = gI Mm 100 21 ∧ ∀ C, CR Mm C → CR M5 (setP C (vN tb tl e 0))) ?_ ?_ ?_
            · intro M3 f1 f2 f3 f4
              obtain ⟨Mx', g1, g2, g3, g4, g5, g6⟩ := pace_x (FPx_L hFx f4) f2 f3
              exact ⟨Mx', by rw [hbo]; exact g1, g2, g3, by rw [g4, f1.1 11 0 (by omega)]; exact k1, by rw [g5, f1.1 10 11 (by omega)], fun C q3 => g6 C (CX_L f1 q3)⟩
            · intro hst
              rw [hlo, p3]
              exact LR_mono (pace_m hst) fun M' z => ⟨z.1, z.2.1, by rw [z.2.2.1, gA_sI]; exact k2, by rw [z.2.2.2.1, gI_sI, if_neg (by omega)], fun C q3 => z.2.2.2.2 C (CR_22 q3)⟩
            · intro Mx' M5 M6 _ q1 q2 q3
              refine KC_plain (fun C => setP C (vN tb tl e 0)) n9 k3 (fun z => ?_) q1.1 q1.2.1 q1.2.2 q2.1 q2.2.1 (fun _ C _ => q2.2.2 C) q3
              obtain ⟨z1, z2⟩ := ntc_0 (by omega) z
              exact ⟨z1, fun C fo ⟨v1, v2, v3, v4, v5, v6⟩ => ⟨⟨v1, show 1 ≤ vN tb tl e 0 ∧ vN tb tl e 0 ≤ 9 by omega, v3, v4, v5, v6⟩, rfl⟩⟩
          · rw [if_neg p3] at hw
            refine join_n hX hM hk0 (fun _ => hw) fun M v wd hwd => ?_
            have hne : ∀ k, k < 4 → ¬ (lg_cmp wd (lN (wC k)) = nI 0) := by
              intro k hk4
              rcases hwd with rfl | ⟨-, rfl⟩
              · rw [lcmp_n (Nat.two_pow_pos 63) (wC_63 k (by omega)).1]
                exact fun z => (wC_63 k (by omega)).2 z.symm
              · rw [lcmp_n w63 (wC_63 k (by omega)).1]
                have : k = 0 ∨ k = 1 ∨ k = 2 ∨ k = 3 := by omega
                rcases this with rfl | rfl | rfl | rfl
                · exact p0
                · exact p1
                · exact p2
                · exact p3
            rw [hlo]
            have n0 := hne 0 (by omega)
            have n1 := hne 1 (by omega)
            have n2 := hne 2 (by omega)
            have n3 := hne 3 (by omega)
            rw [wC_all.1] at n0
            rw [wC_all.2.1] at n1
            rw [wC_all.2.2.1] at n2
            rw [wC_all.2.2.2.1] at n3
            unfold f_X10_coatLine
            rw [if_neg n0, if_neg n1, if_neg n2, if_neg n3]
            rfl
  · refine join_n hX hM hk0 (fun z => absurd z hk) fun M v wd hwd => ?_
    rcases hwd with rfl | ⟨z, -⟩
    · rw [hlo]
      unfold f_X10_coatLine
      rw [if_neg (by decide +kernel), if_neg (by decide +kernel), if_neg (by decide +kernel), if_neg (by decide +kernel)]
      rfl
    · exact absurd z hk
end CoatL
