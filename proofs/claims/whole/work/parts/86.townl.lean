/-! TEXTS: a line of a TOWN on both sides -/
def KT (x : Nat × Nat) (Mx Mm : Mem) : Prop := ∃ n, n ≤ 6 ∧ gI Mx 13 4 = nI n ∧ gA Mm 100 19 0 = nI n ∧ (x.1 = 0 → ∃ T fo TO, tW T = n ∧ TV T ∧ FOR TO fo ∧ TX Mx 13 T ∧ TR1 Mm T ∧ gI Mx 10 11 = nI TO ∧ gI Mm 100 21 = farI fo)
section TownL
variable {tb : Nat → Nat} {tl : Nat}
theorem KT_plain {x x' : Nat × Nat} {n : Nat} {Mx Mm Mx' M5 M6 : Mem} (f : TownA → TownA) (n9 : n ≤ 6) (h : x.1 = 0 → ∃ T fo TO, tW T = n ∧ TV T ∧ FOR TO fo ∧ TX Mx 13 T ∧ TR1 Mm T ∧ gI Mx 10 11 = nI TO ∧ gI Mm 100 21 = farI fo) (h0 : x'.1 = 0 → x.1 = 0 ∧ ∀ T, TV T → TV (f T) ∧ tW (f T) = tW T) (x1 : gI Mx' 13 4 = nI n) (x2 : gI Mx' 10 11 = gI Mx 10 11) (x3 : ∀ T, TX Mx 13 T → TX Mx' 13 (f T)) (m1 : gA M5 100 19 0 = nI n) (m2 : gI M5 100 21 = gI Mm 100 21) (m3 : ∀ T, TR1 Mm T → TR1 M5 (f T)) (hF : FTm M5 M6) : KT x' Mx' M6 := by
  refine ⟨n, n9, x1, by rw [hF.2]; exact m1, fun z => ?_⟩
  obtain ⟨z1, z2⟩ := h0 z
  obtain ⟨T, fo, TO, c1, c2, c3, c4, c5, c6, c7⟩ := h z1
  obtain ⟨d1, d2⟩ := z2 T c2
  exact ⟨f T, fo, TO, by rw [d2]; exact c1, d1, c3, x3 T c4, TR1_cg (hF.2 100 19) (m3 T c5), by rw [x2]; exact c6, by rw [hF.1 100 21 (by omega), m2]; exact c7⟩
theorem KT_wear {x : Nat × Nat} {e n : Nat} {Mx Mm Mx' M5 M6 : Mem} (n9 : n ≤ 6) (h : x.1 = 0 → ∃ T fo TO, tW T = n ∧ TV T ∧ FOR TO fo ∧ TX Mx 13 T ∧ TR1 Mm T ∧ gI Mx 10 11 = nI TO ∧ gI Mm 100 21 = farI fo) (x1 : gI Mx' 13 4 = nI (min (n + 1) 6)) (x2 : gI Mx' 10 11 = gI Mx 10 11) (x3 : ∀ T, tW T = n → n < 6 → TX Mx 13 T → TX Mx' 13 (setTW T (vN tb tl e 0) (vN tb tl e 1) (vN tb tl e 2) (vN tb tl e 3))) (m1 : gA M5 100 19 0 = nI (min (n + 1) 6)) (m2 : gI M5 100 21 = gI Mm 100 21) (m3 : ∀ T, tW T = n → n < 6 → TR1 Mm T → TR1 M5 (setTW T (vN tb tl e 0) (vN tb tl e 1) (vN tb tl e 2) (vN tb tl e 3))) (hF : FTm M5 M6) : KT (xWe tb tl e n x) Mx' M6 := by
  refine ⟨min (n + 1) 6, by omega, x1, by rw [hF.2]; exact m1, fun z => ?_⟩
  obtain ⟨z1, z2⟩ := ntc_0 (by omega) z
  obtain ⟨z3, z4⟩ := ntc_0 (by omega) z1
  obtain ⟨z5, z6⟩ := ntc_0 (by omega) z3
  obtain ⟨z7, z8⟩ := ntc_0 (by omega) z5
  obtain ⟨z9, z10⟩ := ntc_0 (by omega) z7
  obtain ⟨T, fo, TO, c1, ⟨⟨v1, v2, v3, v4, v5⟩, v6, v7⟩, c3, c4, c5, c6, c7⟩ := h z9
  refine ⟨setTW T (vN tb tl e 0) (vN tb tl e 1) (vN tb tl e 2) (vN tb tl e 3), fo, TO, ?_, ⟨⟨v1, v2, v3, v4, ?_⟩, fun w hw => ?_, v7⟩, c3, x3 T c1 (by omega) c4, TR1_cg (hF.2 100 19) (m3 T c1 (by omega) c5), by rw [x2]; exact c6, by rw [hF.1 100 21 (by omega), m2]; exact c7⟩
  · show tW T + 1 = _; omega
  · show tW T + 1 ≤ 6; omega
  · have hw2 : w < tW T + 1 := hw
    show (if w = tW T then vN tb tl e 0 else tXs T w) ≤ 9 ∧ (if w = tW T then vN tb tl e 1 else tYs T w) ≤ 9 ∧ (1 ≤ (if w = tW T then vN tb tl e 2 else tSt T w) ∧ (if w = tW T then vN tb tl e 2 else tSt T w) ≤ 30) ∧ (if w = tW T then vN tb tl e 3 else tDu T w) ≤ 99
    by_cases q : w = tW T
    · rw [if_pos q, if_pos q, if_pos q, if_pos q]
      omega
    · rw [if_neg q, if_neg q, if_neg q, if_neg q]
      exact v6 w (by omega)
theorem KT_away {x : Nat × Nat} {e n fo TO : Nat} {T : TownA} {Mx Mm Mx' M5 M6 : Mem} (n9 : n ≤ 6) (h : x.1 = 0 → tW T = n ∧ TV T ∧ FOR TO fo ∧ TX Mx 13 T ∧ TR1 Mm T ∧ gI Mx 10 11 = nI TO ∧ gI Mm 100 21 = farI fo) (x1 : gI Mx' 13 4 = nI n) (x2 : vN tb tl e 0 ≤ 5 → gI Mx' 10 11 = gI Mx 10 11 ||| nI (2 ^ vN tb tl e 0) ∧ ∀ T, TX Mx 13 T → TX Mx' 13 (setTA T (vN tb tl e 0) (vN tb tl e 1) (vN tb tl e 2))) (m1 : gA M5 100 19 0 = nI n) (m2 : (xAw tb tl e x).1 = 0 → gI M5 100 21 = farI (max fo (vN tb tl e 0 + 1)) ∧ ∀ T, tW T ≤ 6 → TR1 Mm T → TR1 M5 (setTA T (vN tb tl e 0) (vN tb tl e 1) (vN tb tl e 2))) (hF : FTm M5 M6) : KT (xAw tb tl e x) Mx' M6 := by
  refine ⟨n, n9, x1, by rw [hF.2]; exact m1, fun z => ?_⟩
  obtain ⟨z1, z2⟩ := ntc_0 (by omega) z
  obtain ⟨z3, z4⟩ := ntc_0 (by omega) z1
  obtain ⟨z5, z6⟩ := ntc_0 (by omega) z3
  obtain ⟨c1, ⟨⟨v1, v2, v3, v4, v5⟩, v6, v7⟩, c3, c4, c5, c6, c7⟩ := h z5
  obtain ⟨y1, y2⟩ := x2 (by omega)
  obtain ⟨w1, w2⟩ := m2 z
  rw [c6, or_n] at y1
  refine ⟨setTA T (vN tb tl e 0) (vN tb tl e 1) (vN tb tl e 2), max fo (vN tb tl e 0 + 1), TO ||| 2 ^ vN tb tl e 0, c1, ⟨⟨v1, v2, v3, v4, v5⟩, v6, fun w hw => ?_⟩, FOR_or c3 (by omega), y2 T c4, TR1_cg (hF.2 100 19) (w2 T v5 c5), y1, by rw [hF.1 100 21 (by omega)]; exact w1⟩
  by_cases q : w = vN tb tl e 0
  · exact Or.inr ⟨vN tb tl e 1, vN tb tl e 2, by omega, by omega, if_pos q, if_pos q⟩
  · have e1 : tFr (setTA T (vN tb tl e 0) (vN tb tl e 1) (vN tb tl e 2)) w = tFr T w := if_neg q
    have e2 : tTo (setTA T (vN tb tl e 0) (vN tb tl e 1) (vN tb tl e 2)) w = tTo T w := if_neg q
    rw [e1, e2]
    exact v7 w hw
theorem wordT {M : Mem} {e : Nat} (h : XTk tb tl e M) (hk : tkK tb tl e = 1) : (∀ w, w ≤ 4 → wdT tb tl e = wC (10 + w) → f_X2_wordOf M (nI 2) = some (nI w)) ∧ ((∀ w, w ≤ 4 → ¬ wdT tb tl e = wC (10 + w)) → f_X2_wordOf M (nI 2) = some (-1)) := by
  unfold f_X2_wordOf
  rw [if_neg (by decide), if_neg (by decide), if_pos rfl, (is_word h hk (k := 10) (by omega)).1, (is_word h hk (k := 11) (by omega)).1, (is_word h hk (k := 12) (by omega)).1, (is_word h hk (k := 13) (by omega)).1, (is_word h hk (k := 14) (by omega)).1, bn_s, bn_s, bn_s, bn_s, bn_s]
  refine ⟨fun w hw e => ?_, fun hn => ?_⟩
  · rw [e]
    have key : ∀ w, w ≤ 4 → (if decide (wC (10 + w) = wC 10) = true then some (nI 0) else if decide (wC (10 + w) = wC 11) = true then some (nI 1) else if decide (wC (10 + w) = wC 12) = true then some (nI 2) else if decide (wC (10 + w) = wC 13) = true then some (nI 3) else if decide (wC (10 + w) = wC 14) = true then some (nI 4) else some (-1)) = some (nI w) := by decide +kernel
    exact key w hw
  · rw [decide_eq_false (hn 0 (by omega)), decide_eq_false (hn 1 (by omega)), decide_eq_false (hn 2 (by omega)), decide_eq_false (hn 3 (by omega)), decide_eq_false (hn 4 (by omega))]
    rfl
theorem town_line {e : Nat} {x : Nat × Nat} {Mx Mm : Mem} (hX : XTk tb tl e Mx) (hFx : FPx Mx x) (hM : MTk tb tl e Mm) (hFm : FPm Mm x) (hP : PB x (tkF tb tl e)) (hK : KT x Mx Mm) (hk0 : ¬ tkK tb tl e = 0) : StepR tb tl KT 2 e Mx Mm := by
  obtain ⟨n, n9, k1, k2, k3⟩ := hK
  have hlo : ∀ M (wd : Int64) v, f_X10_lineOf M (nI 2) wd v = f_X10_townLine M wd v := fun M wd v => by
    unfold f_X10_lineOf
    rw [if_neg (by decide), if_neg (by decide), if_pos rfl]
    cases f_X10_townLine M wd v <;> rfl
  have hbo : ∀ w q M, bodyX (nI 2) w q M = f_X2_lineOfTown M w q := fun w q M => by
    unfold bodyX
    rw [if_neg (by decide), if_neg (by decide), if_pos rfl]
    cases f_X2_lineOfTown M w q <;> rfl
  have hfail : ∀ M v wd, (∀ k, k ≤ 4 → ¬ (lg_cmp wd (lN (wC (10 + k))) = nI 0)) → f_X10_lineOf M (nI 2) wd v = some (false, sI M 100 16 (gI M 100 12)) := by
    intro M v wd hne2
    have n0 := hne2 0 (by omega)
    have n1 := hne2 1 (by omega)
    have n2 := hne2 2 (by omega)
    have n3 := hne2 3 (by omega)
    have n4 := hne2 4 (by omega)
    obtain ⟨-, -, -, -, -, -, -, -, -, -, w10, w11, w12, w13, w14, -⟩ := wC_all
    rw [w10] at n0
    rw [w11] at n1
    rw [w12] at n2
    rw [w13] at n3
    rw [w14] at n4
    rw [hlo]
    unfold f_X10_townLine
    rw [if_neg n0, if_neg n1, if_neg n2, if_neg n3, if_neg n4]
    rfl
  by_cases hk : tkK tb tl e = 1
  · obtain ⟨hw1, hw2⟩ := wordT hX hk
    have w63 := (is_word hX hk (k := 0) (by omega)).2
    by_cases hex : ∃ w, w ≤ 4 ∧ wdT tb tl e = wC (10 + w)
    · obtain ⟨w, w5, pw⟩ := hex
      have hw := hw1 w w5 pw
      have hc : w = 0 ∨ w = 1 ∨ w = 2 ∨ w = 3 ∨ w = 4 := by omega
      rcases hc with rfl | rfl | rfl | rfl | rfl
      · refine join hX hM hP hFm hk hw (by omega) (n := 1) (by decide +kernel) (by omega) (x' := xPace tb tl e x) (fun Mx' => gI Mx' 13 4 = nI n ∧ gI Mx' 10 11 = gI Mx 10 11 ∧ ∀ T, TX Mx 13 T → TX Mx' 13 (setTS T (vN tb tl e 0))) (fun M5 => gA M5 100 19 0 = nI n ∧ gI M5 100 21 = gI Mm 100 21 ∧ ∀ T, TR1 Mm T → TR1 M5 (setTS T (vN tb tl e 0))) ?_ ?_ ?_
        · intro M3 f1 f2 f3 f4
          obtain ⟨Mx', g1, g2, g3, g4, g5, g6⟩ := speed_x (FPx_L hFx f4) f2 f3
          exact ⟨Mx', by rw [hbo]; exact g1, g2, g3, by rw [g4, f1.1 13 4 (by omega)]; exact k1, by rw [g5, f1.1 10 11 (by omega)], fun C q3 => g6 C (TX_L f1 q3)⟩
        · intro hst
          rw [hlo, pw]
          exact LR_mono (speed_m hst) fun M' z => ⟨z.1, z.2.1, by rw [z.2.2.1, gA_sI]; exact k2, by rw [z.2.2.2.1, gI_sI, if_neg (by omega)], fun C q3 => z.2.2.2.2 C (TR1_cg rfl q3)⟩
        · intro Mx' M5 M6 _ q1 q2 q3
          refine KT_plain (fun T => setTS T (vN tb tl e 0)) n9 k3 (fun z => ?_) q1.1 q1.2.1 q1.2.2 q2.1 q2.2.1 q2.2.2 q3
          obtain ⟨z1, z2⟩ := ntc_0 (by omega) z
          exact ⟨z1, fun T ⟨⟨v1, v2, v3, v4, v5⟩, v6, v7⟩ => ⟨⟨⟨v1, v2, show 1 ≤ vN tb tl e 0 ∧ vN tb tl e 0 ≤ 9 by omega, v4, v5⟩, v6, v7⟩, rfl⟩⟩
      · refine join hX hM hP hFm hk hw (by omega) (n := 1) (by decide +kernel) (by omega) (x' := xPace tb tl e x) (fun Mx' => gI Mx' 13 4 = nI n ∧ gI Mx' 10 11 = gI Mx 10 11 ∧ ∀ T, TX Mx 13 T → TX Mx' 13 (setTM T (vN tb tl e 0))) (fun M5 => gA M5 100 19 0 = nI n ∧ gI M5 100 21 = gI Mm 100 21 ∧ ∀ T, TR1 Mm T → TR1 M5 (setTM T (vN tb tl e 0))) ?_ ?_ ?_
        · intro M3 f1 f2 f3 f4
          obtain ⟨Mx', g1, g2, g3, g4, g5, g6⟩ := miles_x (FPx_L hFx f4) f2 f3
          exact ⟨Mx', by rw [hbo]; exact g1, g2, g3, by rw [g4, f1.1 13 4 (by omega)]; exact k1, by rw [g5, f1.1 10 11 (by omega)], fun C q3 => g6 C (TX_L f1 q3)⟩
        · intro hst
          rw [hlo, pw]
          exact LR_mono (miles_m hst) fun M' z => ⟨z.1, z.2.1, by rw [z.2.2.1, gA_sI]; exact k2, by rw [z.2.2.2.1, gI_sI, if_neg (by omega)], fun C q3 => z.2.2.2.2 C (TR1_cg rfl q3)⟩
        · intro Mx' M5 M6 _ q1 q2 q3
          refine KT_plain (fun T => setTM T (vN tb tl e 0)) n9 k3 (fun z => ?_) q1.1 q1.2.1 q1.2.2 q2.1 q2.2.1 q2.2.2 q3
          obtain ⟨z1, z2⟩ := ntc_0 (by omega) z
          exact ⟨z1, fun T ⟨⟨v1, v2, v3, v4, v5⟩, v6, v7⟩ => ⟨⟨⟨v1, v2, v3, show 1 ≤ vN tb tl e 0 ∧ vN tb tl e 0 ≤ 9 by omega, v5⟩, v6, v7⟩, rfl⟩⟩
      · refine join hX hM hP hFm hk hw (by omega) (n := 2) (by decide +kernel) (by omega) (x' := xTa tb tl e x) (fun Mx' => gI Mx' 13 4 = nI n ∧ gI Mx' 10 11 = gI Mx 10 11 ∧ ∀ T, TX Mx 13 T → TX Mx' 13 (setTP T (vN tb tl e 0) (vN tb tl e 1))) (fun M5 => gA M5 100 19 0 = nI n ∧ gI M5 100 21 = gI Mm 100 21 ∧ ∀ T, TR1 Mm T → TR1 M5 (setTP T (vN tb tl e 0) (vN tb tl e 1))) ?_ ?_ ?_
        · intro M3 f1 f2 f3 f4
          obtain ⟨Mx', g1, g2, g3, g4, g5, g6⟩ := tailor_x (FPx_L hFx f4) f2 f3
          exact ⟨Mx', by rw [hbo]; exact g1, g2, g3, by rw [g4, f1.1 13 4 (by omega)]; exact k1, by rw [g5, f1.1 10 11 (by omega)], fun C q3 => g6 C (TX_L f1 q3)⟩
        · intro hst
          rw [hlo, pw]
          exact LR_mono (tailor_m hst) fun M' z => ⟨z.1, z.2.1, by rw [z.2.2.1, gA_sI]; exact k2, by rw [z.2.2.2.1, gI_sI, if_neg (by omega)], fun C q3 => z.2.2.2.2 C (TR1_cg rfl q3)⟩
        · intro Mx' M5 M6 _ q1 q2 q3
          refine KT_plain (fun T => setTP T (vN tb tl e 0) (vN tb tl e 1)) n9 k3 (fun z => ?_) q1.1 q1.2.1 q1.2.2 q2.1 q2.2.1 q2.2.2 q3
          obtain ⟨z1, z2⟩ := ntc_0 (by omega) z
          obtain ⟨z3, z4⟩ := ntc_0 (by omega) z1
          exact ⟨z3, fun T ⟨⟨v1, v2, v3, v4, v5⟩, v6, v7⟩ => ⟨⟨⟨show vN tb tl e 0 ≤ 9 by omega, show vN tb tl e 1 ≤ 9 by omega, v3, v4, v5⟩, v6, v7⟩, rfl⟩⟩
      · refine join hX hM hP hFm hk hw (by omega) (n := 4) (by decide +kernel) (by omega) (x' := xWe tb tl e n x) (fun Mx' => gI Mx' 13 4 = nI (min (n + 1) 6) ∧ gI Mx' 10 11 = gI Mx 10 11 ∧ ∀ T, tW T = n → n < 6 → TX Mx 13 T → TX Mx' 13 (setTW T (vN tb tl e 0) (vN tb tl e 1) (vN tb tl e 2) (vN tb tl e 3))) (fun M5 => gA M5 100 19 0 = nI (min (n + 1) 6) ∧ gI M5 100 21 = gI Mm 100 21 ∧ ∀ T, tW T = n → n < 6 → TR1 Mm T → TR1 M5 (setTW T (vN tb tl e 0) (vN tb tl e 1) (vN tb tl e 2) (vN tb tl e 3))) ?_ ?_ ?_
        · intro M3 f1 f2 f3 f4
          obtain ⟨Mx', g1, g2, g3, g4, g5, g6⟩ := wearer_x (FPx_L hFx f4) f2 f3 (by rw [f1.1 13 4 (by omega)]; exact k1) n9
          exact ⟨Mx', by rw [hbo]; exact g1, g2, g3, g4, by rw [g5, f1.1 10 11 (by omega)], fun C q1 q2 q3 => g6 C q1 q2 (TX_L f1 q3)⟩
        · intro hst
          rw [hlo, pw]
          exact LR_mono (wearer_m hst (n := n) (by rw [gA_sI]; exact k2) n9) fun M' z => ⟨z.1, z.2.1, z.2.2.1, by rw [z.2.2.2.1, gI_sI, if_neg (by omega)], fun C q1 q2 q3 => z.2.2.2.2 C q1 q2 (TR1_cg rfl q3)⟩
        · intro Mx' M5 M6 _ q1 q2 q3
          exact KT_wear n9 k3 q1.1 q1.2.1 q1.2.2 q2.1 q2.2.1 q2.2.2 q3
      · obtain ⟨T, fo, TO, k4⟩ : ∃ T fo TO, x.1 = 0 → tW T = n ∧ TV T ∧ FOR TO fo ∧ TX Mx 13 T ∧ TR1 Mm T ∧ gI Mx 10 11 = nI TO ∧ gI Mm 100 21 = farI fo := by
          by_cases z : x.1 = 0
          · obtain ⟨T, fo, TO, k4⟩ := k3 z
            exact ⟨T, fo, TO, fun _ => k4⟩
          · exact ⟨((0, 0, 0, 0, 0), fun _ => 0, fun _ => 0, fun _ => 0, fun _ => 0, fun _ => 0, fun _ => 0), 0, 0, fun y => absurd y z⟩
        refine join hX hM hP hFm hk hw (by omega) (n := 3) (by decide +kernel) (by omega) (x' := xAw tb tl e x) (fun Mx' => gI Mx' 13 4 = nI n ∧ (vN tb tl e 0 ≤ 5 → gI Mx' 10 11 = gI Mx 10 11 ||| nI (2 ^ vN tb tl e 0) ∧ ∀ T, TX Mx 13 T → TX Mx' 13 (setTA T (vN tb tl e 0) (vN tb tl e 1) (vN tb tl e 2)))) (fun M5 => gA M5 100 19 0 = nI n ∧ ((xAw tb tl e x).1 = 0 → gI M5 100 21 = farI (max fo (vN tb tl e 0 + 1)) ∧ ∀ T, tW T ≤ 6 → TR1 Mm T → TR1 M5 (setTA T (vN tb tl e 0) (vN tb tl e 1) (vN tb tl e 2)))) ?_ ?_ ?_
        · intro M3 f1 f2 f3 f4
          obtain ⟨Mx', g1, g2, g3, g4, g5⟩ := away_x (FPx_L hFx f4) f2 f3
          exact ⟨Mx', by rw [hbo]; exact g1, g2, g3, by rw [g4, f1.1 13 4 (by omega)]; exact k1, fun z => ⟨by rw [(g5 z).1, f1.1 10 11 (by omega)], fun C q3 => (g5 z).2 C (TX_L f1 q3)⟩⟩
        · intro hst
          rw [hlo, pw]
          refine LR_mono (away_m (fo := fo) hst fun z => ?_) fun M' z => ⟨z.1, z.2.1, by rw [z.2.2.1, gA_sI]; exact k2, fun y => ⟨(z.2.2.2 y).1, fun C q1 q3 => (z.2.2.2 y).2 C q1 (TR1_cg rfl q3)⟩⟩
          obtain ⟨z1, z2⟩ := ntc_0 (by omega) z
          obtain ⟨z3, z4⟩ := ntc_0 (by omega) z1
          obtain ⟨z5, z6⟩ := ntc_0 (by omega) z3
          obtain ⟨-, -, c3, -, -, -, c7⟩ := k4 z5
          exact ⟨by rw [gI_sI, if_neg (by omega)]; exact c7, c3.1⟩
        · intro Mx' M5 M6 _ q1 q2 q3
          exact KT_away n9 k4 q1.1 q1.2 q2.1 q2.2 q3
    · have hne : ∀ w, w ≤ 4 → ¬ wdT tb tl e = wC (10 + w) := fun w w5 z => hex ⟨w, w5, z⟩
      refine join_n hX hM hk0 (fun _ => hw2 hne) fun M v wd hwd => hfail M v wd fun k hk4 => ?_
      rcases hwd with rfl | ⟨-, rfl⟩
      · rw [lcmp_n (Nat.two_pow_pos 63) (wC_63 (10 + k) (by omega)).1]
        exact fun z => (wC_63 (10 + k) (by omega)).2 z.symm
      · rw [lcmp_n w63 (wC_63 (10 + k) (by omega)).1]
        exact hne k hk4
  · refine join_n hX hM hk0 (fun z => absurd z hk) fun M v wd hwd => hfail M v wd fun k hk4 => ?_
    rcases hwd with rfl | ⟨z, -⟩
    · rw [lcmp_n (Nat.two_pow_pos 63) (wC_63 (10 + k) (by omega)).1]
      exact fun z => (wC_63 (10 + k) (by omega)).2 z.symm
    · exact absurd z hk
end TownL
