/-! TEXTS: text() -/
theorem byN_i {x y : Int32} (h : byN x = byN y) : x.toInt8 = y.toInt8 := by
  rw [byN_e x, byN_e y, h]
theorem KC_0 {Mx Mm : Mem} (h : IX Mx) (hf : gI Mm 100 21 = farI 0) (hb : ∀ j, j < 138 → gA Mm 100 19 j = bl19 0 j) : KC (0, 0) Mx Mm := by
  obtain ⟨i1, ⟨i2, i3, i4, i5⟩, -⟩ := h
  refine ⟨0, by omega, i2, by rw [hb 0 (by omega)]; rfl, fun _ => ⟨(0, 1, fun _ => 0, fun _ => 0, fun _ => 0, fun _ => 0, fun _ => 0), 0, 0, rfl, ⟨by decide, by decide, fun s hs => absurd hs (Nat.not_lt_zero s), fun s hs => ⟨by show 0 < 2 ^ 0; decide, Nat.zero_testBit s, fun z => absurd rfl z⟩, fun _ _ => rfl, fun _ => Nat.zero_le _⟩, ⟨by omega, by decide, fun z => absurd rfl z⟩, ⟨i2, i3, fun s hs => absurd hs (Nat.not_lt_zero s), i4, i5⟩, ⟨by rw [hb 0 (by omega)]; rfl, by rw [hb 1 (by omega)]; rfl, fun s hs => absurd hs (Nat.not_lt_zero s), fun s hs => ?_, fun d hd => ?_⟩, i1, hf⟩⟩
  · rw [hb _ (by omega)]
    unfold bl19
    rw [if_neg (by omega), if_neg (by omega), if_neg (by omega), if_neg (by omega)]
    rfl
  · rw [hb _ (by omega)]
    unfold bl19
    rw [if_neg (by omega), if_neg (by omega), if_neg (by omega), if_neg (by omega)]
    rfl
theorem KL_0 {Mx Mm : Mem} (h : IX Mx) (hb : ∀ j, j < 138 → gA Mm 100 19 j = bl19 1 j) : KL (0, 0) Mx Mm := by
  obtain ⟨-, -, i6, -⟩ := h
  have e0 : gA Mm 100 19 0 = nI 0 := by rw [hb 0 (by omega)]; rfl
  exact ⟨0, by omega, i6, e0, fun _ => ⟨(0, fun _ => 0, fun _ => 0), rfl, ⟨Nat.zero_le _, fun k hk => absurd hk (Nat.not_lt_zero k)⟩, ⟨i6, fun k hk => absurd hk (Nat.not_lt_zero k)⟩, ⟨e0, fun k hk => absurd hk (Nat.not_lt_zero k)⟩⟩⟩
theorem KF_0 {Mx Mm : Mem} (h : IX Mx) (hb : ∀ j, j < 138 → gA Mm 100 19 j = bl19 3 j) : KF (0, 0) Mx Mm := by
  obtain ⟨-, -, -, -, i6⟩ := h
  have e0 : gA Mm 100 19 0 = nI 0 := by rw [hb 0 (by omega)]; rfl
  exact ⟨0, by omega, i6, e0, fun _ => ⟨(0, fun _ => 0, fun _ => 0, fun _ => 0), rfl, ⟨Nat.zero_le _, fun k hk => absurd hk (Nat.not_lt_zero k)⟩, ⟨i6, fun k hk => absurd hk (Nat.not_lt_zero k)⟩, ⟨e0, fun k hk => absurd hk (Nat.not_lt_zero k)⟩⟩⟩
theorem KT_0 {Mx Mm : Mem} (h : IX Mx) (hf : gI Mm 100 21 = farI 0) (hb : ∀ j, j < 138 → gA Mm 100 19 j = bl19 2 j) : KT (0, 0) Mx Mm := by
  obtain ⟨i1, -, -, ⟨j7, j8, j9, j10, j11, j12⟩, -⟩ := h
  refine ⟨0, by omega, j11, by rw [hb 0 (by omega)]; rfl, fun _ => ⟨((0, 0, 3, 2, 0), fun _ => 0, fun _ => 0, fun _ => 0, fun _ => 0, fun _ => -1, fun _ => -1), 0, 0, rfl, ⟨⟨by decide, by decide, by decide, by decide, by decide⟩, fun s hs => absurd hs (Nat.not_lt_zero s), fun w _ => Or.inl ⟨rfl, rfl⟩⟩, ⟨by omega, by decide, fun z => absurd rfl z⟩, ⟨⟨j7, j8, j9, j10, j11⟩, fun s hs => absurd hs (Nat.not_lt_zero s), j12⟩, ⟨⟨by rw [hb 0 (by omega)]; rfl, by rw [hb 1 (by omega)]; rfl, by rw [hb 2 (by omega)]; rfl, by rw [hb 3 (by omega)]; rfl, by rw [hb 4 (by omega)]; rfl⟩, fun s hs => absurd hs (Nat.not_lt_zero s), fun w hw => ⟨?_, ?_⟩⟩, i1, hf⟩⟩
  · rw [hb _ (by omega)]
    unfold bl19
    rw [if_neg (by omega), if_neg (by omega), if_neg (by omega), if_pos ⟨rfl, by omega, by omega⟩]
    rfl
  · rw [hb _ (by omega)]
    unfold bl19
    rw [if_neg (by omega), if_neg (by omega), if_neg (by omega), if_pos ⟨rfl, by omega, by omega⟩]
    rfl
theorem read_a {tb : Nat → Nat} {tl a : Nat} {Mx Mm : Mem} (ha : a < 4) (ht : tl ≤ 600) (hb : ∀ j, j < tl → byN (gA Mx 1 0 j) = tb j) (hm : MTq tb tl Mm) : ReadR a (FinA a) tl Mx Mm := by
  have hc : a = 0 ∨ a = 1 ∨ a = 2 ∨ a = 3 := by omega
  rcases hc with rfl | rfl | rfl | rfl
  · exact read_j (K := KC) (Fin := FinC) ha ht hb hm (fun e x Mx Mm h hk => coat_line h.1 h.2.1 h.2.2.1 h.2.2.2.1 h.2.2.2.2.1 h.2.2.2.2.2 hk) (fun Mx Mm h1 h2 h3 => KC_0 h1 h2 h3) end_c (fun Mx Mm Mm' h ⟨C, c1, c2, c3⟩ => ⟨C, c1, c2, CR_cg h c3⟩)
  · exact read_j (K := KL) (Fin := FinL) ha ht hb hm (fun e x Mx Mm h hk => life_line h.1 h.2.1 h.2.2.1 h.2.2.2.1 h.2.2.2.2.1 h.2.2.2.2.2 hk) (fun Mx Mm h1 h2 h3 => KL_0 h1 h3) (end_l (Or.inl rfl) (fun x Mx Mm z ⟨n, n1, n2, n3, n4⟩ => by obtain ⟨L, l1, l2, l3, l4⟩ := n4 z; exact ⟨L, l2, l3, l4⟩)) (fun Mx Mm Mm' h ⟨C, c1, c2, c3⟩ => ⟨C, c1, c2, LR1_cg h c3⟩)
  · exact read_j (K := KT) (Fin := FinT) ha ht hb hm (fun e x Mx Mm h hk => town_line h.1 h.2.1 h.2.2.1 h.2.2.2.1 h.2.2.2.2.1 h.2.2.2.2.2 hk) (fun Mx Mm h1 h2 h3 => KT_0 h1 h2 h3) end_t (fun Mx Mm Mm' h ⟨C, c1, c2, c3⟩ => ⟨C, c1, c2, TR1_cg h c3⟩)
  · exact read_j (K := KF) (Fin := FinS) ha ht hb hm (fun e x Mx Mm h hk => sight_line h.1 h.2.1 h.2.2.1 h.2.2.2.1 h.2.2.2.2.1 h.2.2.2.2.2 hk) (fun Mx Mm h1 h2 h3 => KF_0 h1 h3) (end_l (Or.inr rfl) (fun x Mx Mm z ⟨n, n1, n2, n3, n4⟩ => by obtain ⟨L, l1, l2, l3, l4⟩ := n4 z; exact ⟨L, l2, l3, l4⟩)) (fun Mx Mm Mm' h ⟨C, c1, c2, c3⟩ => ⟨C, c1, c2, SR1_cg h c3⟩)
/-- the reference, as it begins with a text -/
def M21 (Mm : Mem) : Mem := sA (sA (sA (sI (sI Mm 100 0 (nI 0)) 100 11 (gA Mm 100 2 0)) 100 2 0 (nI 0)) 100 3 0 (nI 0)) 100 4 0 (-1)
theorem M21_r (Mm : Mem) : (∀ k, ¬ k = 2 → ¬ k = 3 → ¬ k = 4 → gA (M21 Mm) 100 k = gA Mm 100 k) ∧ (∀ k j, 1 ≤ j → gA (M21 Mm) 100 k j = gA Mm 100 k j) ∧ gA (M21 Mm) 100 2 0 = nI 0 ∧ gA (M21 Mm) 100 3 0 = nI 0 ∧ gA (M21 Mm) 100 4 0 = -1 ∧ gI (M21 Mm) 100 11 = gA Mm 100 2 0 := by
  unfold M21
  refine ⟨fun k a b c => ?_, fun k j hj => ?_, ?_, ?_, ?_, rfl⟩
  · funext j
    rw [gA_sA, if_neg (by omega), gA_sA, if_neg (by omega), gA_sA, if_neg (by omega)]
    rfl
  · rw [gA_sA, if_neg (by omega), gA_sA, if_neg (by omega), gA_sA, if_neg (by omega)]
    rfl
  · rw [gA_sA, if_neg (by omega), gA_sA, if_neg (by omega), gA_sA, if_pos ⟨rfl, rfl, rfl⟩]
  · rw [gA_sA, if_neg (by omega), gA_sA, if_pos ⟨rfl, rfl, rfl⟩]
  · rw [gA_sA, if_pos ⟨rfl, rfl, rfl⟩]
theorem close_v (M : Mem) (f p : Int32) : ∃ M', f_X5_close M 1 f p = some M' ∧ (∀ o k, ¬ (o = 1 ∧ (k = 1 ∨ k = 2 ∨ k = 3)) → gI M' o k = gI M o k) ∧ (∀ o k, gA M' o k = gA M o k) ∧ gI M' 1 1 = nI 0 ∧ gI M' 1 2 = f ∧ gI M' 1 3 = p := by
  refine ⟨_, rfl, fun o k h => ?_, fun _ _ => rfl, ?_, ?_, ?_⟩
  · rw [gI_sI, if_neg (by omega), gI_sI, if_neg (by omega), gI_sI, if_neg (by omega)]
  · rw [gI_sI, if_neg (by omega), gI_sI, if_neg (by omega), gI_sI, if_pos ⟨rfl, rfl⟩]
  · rw [gI_sI, if_neg (by omega), gI_sI, if_pos ⟨rfl, rfl⟩]
  · rw [gI_sI, if_pos ⟨rfl, rfl⟩]
theorem text_none {Mx Mm : Mem} (H : Rl Mx Mm) : ∃ Mx', (bn (f_X5_close Mx 1 (nI 0) (-1)) fun M11 => some ((-2 : Int32), M11)) = some (-2, Mx') ∧ Rl Mx' (M21 Mm) := by
  obtain ⟨Mx', c1, c2, c3, c4, c5, c6⟩ := close_v Mx (nI 0) (-1)
  obtain ⟨r1, r2, r3, r4, r5, r6⟩ := M21_r Mm
  rw [c1, bn_s]
  refine ⟨Mx', rfl, Rl_tape H (fun o _ o1 => ⟨fun k => c2 o k (by omega), fun k => c3 o k⟩) (c3 1 4) (fun k hk => r1 k (by omega) (by omega) (by omega)) (fun j hj => by rw [r1 1 (by omega) (by omega) (by omega)]) (fun k i _ _ hi => r2 k i hi) ⟨⟨0, by omega, c4, r3⟩, fun j hj => ?_, by rw [c5, r4], by rw [c6, r5]⟩⟩
  rw [c3, r1 1 (by omega) (by omega) (by omega)]
  exact H.1.2.1 j hj
theorem text_go {Mx Mm : Mem} {a v c : Nat} (H : Rl Mx Mm) (ha : a < 4) (hv : v < 2) (hvc : v ≤ c) (hc : gA Mx 1 4 a = nI c) (hc2 : c ≤ 2) : ∃ r Mx' Mm', (bn (f_X2_read Mx (nI a) 1 (gI Mx 1 1)) fun M5 => bn (f_X5_close M5 1 (gI M5 10 12) (gI M5 10 13)) fun M7 => if (gI M7 10 12) = (nI 0) then (bn (f_X5_keep M7 1 (nI a) (nI v)) fun M2 => some (nI v, M2)) else (some ((-1), M7))) = some (r, Mx') ∧ (bp (f_X10_readText (M21 Mm) (nI a)) fun r9 M8 => if r9 = true then (bn (f_X10_storeAll (sA M8 100 5 a (nI (max c (v + 1)))) (nI a) (nI v)) fun M4 => some (nI v, M4)) else (some ((-1), M8))) = some (r, Mm') ∧ Rl Mx' Mm' := by
  obtain ⟨⟨n, h1, h2, h3⟩, h4, -⟩ := H.1
  obtain ⟨r1, r2, r3, r4, r5, r6⟩ := M21_r Mm
  have hm : MTq (fun j => byN (gA Mx 1 0 j)) n (M21 Mm) := by
    refine ⟨by rw [r6]; exact h3, fun j hj => ?_, h1⟩
    rw [r1 1 (by omega) (by omega) (by omega)]
    have := h4 j (by omega)
    rw [show 600 * 0 + j = j by omega] at this
    exact (byN_c this).symm
  obtain ⟨x', X1, M1, e1, e2, e3, e4, e5, e6, e7, e8, e9, e10, e11⟩ := read_a (tb := fun j => byN (gA Mx 1 0 j)) ha h1 (fun j _ => rfl) hm
  obtain ⟨X2, c1, c2, c3, c4, c5, c6⟩ := close_v X1 (gI X1 10 12) (gI X1 10 13)
  have hR : Rl X2 M1 := by
    refine Rl_tape H (fun o ho o1 => ⟨fun k => by rw [c2 o k (by omega), (e2 o ho).1], fun k => by rw [c3, (e2 o ho).2]⟩) (by rw [c3, (e2 1 (by omega)).2]) (fun k hk => by rw [e9 k (by omega) (by omega) (by omega), r1 k (by omega) (by omega) (by omega)]) (fun j hj => by rw [e9 1 (by omega) (by omega) (by omega), r1 1 (by omega) (by omega) (by omega)]) (fun k i k2 k4 hi => ?_) ⟨⟨0, by omega, c4, by rw [e9 2 (by omega) (by omega) (by omega)]; exact r3⟩, fun j hj => ?_, by rw [c5, e4, e7], by rw [c6, e5, e8]⟩
    · by_cases q : k = 2
      · rw [q, e9 2 (by omega) (by omega) (by omega), r2 2 i hi]
      · rw [e10 k i (by omega) hi, r2 k i hi]
    · rw [c3, (e2 1 (by omega)).2, e9 1 (by omega) (by omega) (by omega), r1 1 (by omega) (by omega) (by omega)]
      exact h4 j hj
  rw [h2, e1, bn_s, c1, bn_s, e6, bp_s, c2 10 12 (by omega), e4, ite_p (eq_n (by omega) (by omega))]
  by_cases p : x'.1 = 0
  · have hF : FinA a X2 M1 := by
      have hf := e11 p
      have g : ∀ o, 11 ≤ o → (∀ k, gI X2 o k = gI X1 o k) ∧ ∀ k, gA X2 o k = gA X1 o k := fun o ho => ⟨fun k => c2 o k (by omega), fun k => c3 o k⟩
      have hcs : a = 0 ∨ a = 1 ∨ a = 2 ∨ a = 3 := by omega
      rcases hcs with rfl | rfl | rfl | rfl
      · obtain ⟨C, q1, q2, q3⟩ := hf
        exact ⟨C, q1, CX_cg (g 11 (by omega)) q2, q3⟩
      · obtain ⟨C, q1, q2, q3⟩ := hf
        exact ⟨C, q1, LX_cg (g 12 (by omega)) q2, q3⟩
      · obtain ⟨C, q1, q2, q3⟩ := hf
        exact ⟨C, q1, TX_cg (g 13 (by omega)) q2, q3⟩
      · obtain ⟨C, q1, q2, q3⟩ := hf
        exact ⟨C, q1, SX_cg (g 14 (by omega)) q2, q3⟩
    obtain ⟨X3, M3, k1, k2, k3⟩ := keep_q hR ha hv hvc (by rw [c3, (e2 1 (by omega)).2]; exact hc) hc2 hF
    rw [if_pos p, decide_eq_true p, if_pos rfl, k1, k2, bn_s, bn_s]
    exact ⟨nI v, X3, M3, rfl, rfl, k3⟩
  · rw [if_neg p, decide_eq_false p, if_neg (by decide)]
    exact ⟨-1, X2, M1, rfl, rfl, hR⟩
