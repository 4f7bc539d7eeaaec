/-! TEXTS: read as a whole -/
theorem tkK_0 {tb : Nat → Nat} {tl e : Nat} (h : tkK tb tl e = 0) : tkF tb tl e = tl := by
  unfold tkK at h
  by_cases q : tkF tb tl e = tl
  · exact q
  · rw [if_neg q] at h
    split at h
    · omega
    · split at h
      · split at h <;> omega
      · split at h <;> omega
def FinC (Mx Mm : Mem) : Prop := ∃ C, CV C ∧ CX Mx 11 C ∧ CR Mm C
def FinL (Mx Mm : Mem) : Prop := ∃ L, LV L ∧ LX Mx 12 L ∧ LR1 Mm L
def FinT (Mx Mm : Mem) : Prop := ∃ T, TV T ∧ TX Mx 13 T ∧ TR1 Mm T
def FinS (Mx Mm : Mem) : Prop := ∃ S, SV S ∧ SX Mx 14 S ∧ SR1 Mm S
/-- what both sides do behind the last line -/
def EndR (tb : Nat → Nat) (tl a : Nat) (K : Nat × Nat → Mem → Mem → Prop) (Fin : Mem → Mem → Prop) : Prop := ∀ e x Mx Mm, JS tb tl K e x Mx Mm → tkK tb tl e = 0 → ∃ x' Mx' Mm', f_X2_read_106 (nI a) 1 (nI tl) Mx = some Mx' ∧ FNx Mx Mx' ∧ FPx Mx' x' ∧ midM (nI a) true Mm = f_X10_readText_72 (nI a) true Mm' ∧ gA Mm' = gA Mm ∧ FPm Mm' x' ∧ (x'.1 = 0 → Fin Mx' Mm')
section Reads2
variable {tb : Nat → Nat} {tl : Nat}
theorem end_l {a : Nat} {K : Nat × Nat → Mem → Mem → Prop} {Fin : Mem → Mem → Prop} (ha : a = 1 ∨ a = 3) (hf : ∀ x Mx Mm, x.1 = 0 → K x Mx Mm → Fin Mx Mm) : EndR tb tl a K Fin := by
  rintro e x Mx Mm ⟨h1, h2, h3, h4, h5, h6⟩ hk
  have a0 : ¬ nI a = nI 0 := ne_n (by omega) (by omega) (by omega)
  have a2 : ¬ nI a = nI 2 := ne_n (by omega) (by omega) (by omega)
  refine ⟨x, Mx, Mm, ?_, FNx_rf _, h2, ?_, rfl, h4, fun z => hf x Mx Mm z h6⟩
  · unfold f_X2_read_106 f_X2_read_125 f_X2_read_149 f_X2_read_150
    rw [if_neg a0, if_neg a2]
    rfl
  · unfold midM
    rw [if_pos rfl, if_neg a0, if_neg a2, ite_self]
theorem miss_v {TO fo n : Nat} (h : FOR TO fo) (hn : n ≤ 9) : (nI TO >>> (nI n &&& 31) = nI 0) = (fo ≤ n) ∧ (farI fo < nI n) = (fo ≤ n) := by
  obtain ⟨h1, h2, h3⟩ := h
  have hT : TO < 512 := Nat.lt_of_lt_of_le h2 (Nat.pow_le_pow_right (by omega) h1)
  have e1 : nI TO >>> (nI n &&& 31) = nI (TO / 2 ^ n) := by
    have key : ∀ T, T < 512 → ∀ m, m < 10 → nI T >>> (nI m &&& 31) = nI (T / 2 ^ m) := by decide +kernel
    exact key TO hT n (by omega)
  have hp : 0 < 2 ^ n := Nat.two_pow_pos n
  have hd : TO / 2 ^ n ≤ TO := Nat.div_le_self _ _
  refine ⟨?_, ?_⟩
  · rw [e1, eq_n (by omega) (by omega)]
    apply propext
    constructor
    · intro z
      by_cases q : fo ≤ n
      · exact q
      · have g1 := h3 (by omega)
        have g2 : 2 ^ n ≤ 2 ^ (fo - 1) := Nat.pow_le_pow_right (by omega) (by omega)
        have g3 : 1 ≤ TO / 2 ^ n := (Nat.le_div_iff_mul_le hp).mpr (by omega)
        omega
    · intro z
      have g2 : 2 ^ fo ≤ 2 ^ n := Nat.pow_le_pow_right (by omega) z
      exact Nat.div_eq_of_lt (by omega)
  · unfold farI
    by_cases q : fo = 0
    · rw [if_pos q]
      exact propext ⟨fun _ => by omega, fun _ => neg_lt (by decide) n (by omega)⟩
    · rw [if_neg q, lt_n (by omega) (by omega)]
      exact propext ⟨fun _ => by omega, fun _ => by omega⟩
theorem end_cl {a o k n : Nat} {x : Nat × Nat} {Mx : Mem} (hx : FPx Mx x) (h7 : gI Mx 10 7 = nI tl) (hn : n ≤ 9) (hc : (a = 0 ∧ o = 11 ∧ k = 0) ∨ (a = 2 ∧ o = 13 ∧ k = 4)) (hg : gI Mx o k = nI n) : ∃ Mx', f_X2_read_106 (nI a) 1 (nI tl) Mx = some Mx' ∧ FNx Mx Mx' ∧ FPx Mx' (ntc (¬ gI Mx 10 11 >>> (nI n &&& 31) = nI 0) 4 tl x) := by
  obtain ⟨M1, b1, b2, b3⟩ := note_v hx (g := 4) (q := tl) (by omega) (by omega)
  have e1 : f_X2_read_106 (nI a) 1 (nI tl) Mx = if gI Mx 10 11 >>> (nI n &&& 31) = nI 0 then f_X2_read_150 (nI a) 1 (nI tl) false Mx else f_X2_read_150 (nI a) 1 (nI tl) true Mx := by
    unfold f_X2_read_106 f_X2_read_125 f_X2_read_145 f_X2_read_149
    rcases hc with ⟨rfl, rfl, rfl⟩ | ⟨rfl, rfl, rfl⟩
    · rw [if_pos rfl, hg, if_neg (show ¬ nI 0 = nI 2 by decide)]
    · rw [if_neg (show ¬ nI 2 = nI 0 by decide), if_pos rfl, hg]
  rw [e1]
  unfold f_X2_read_150
  by_cases p : gI Mx 10 11 >>> (nI n &&& 31) = nI 0
  · rw [if_pos p, if_neg (by decide), ntc_id (fun z => z p)]
    exact ⟨Mx, rfl, FNx_rf _, hx⟩
  · rw [if_neg p, if_pos rfl, h7, b1, bn_s, ntc_p p]
    exact ⟨M1, rfl, b3, b2⟩
theorem mid_v {a n e : Nat} {x : Nat × Nat} {Mm : Mem} (hm : FPm Mm x) (hM : MTk tb tl e Mm) (hk : tkK tb tl e = 0) (hP : PB x (tkF tb tl e)) (ha : a = 0 ∨ a = 2) (hc : gA Mm 100 19 0 = nI n) : ∃ Mm', midM (nI a) true Mm = f_X10_readText_72 (nI a) true Mm' ∧ gA Mm' = gA Mm ∧ FPm Mm' (ntc (¬ gI Mm 100 21 < nI n) 4 tl x) := by
  have hF := tkK_0 hk
  have h6 := hM.1.2.2
  have e12 : gI Mm 100 12 = nI tl := by rw [hM.2.2.1, hF]
  rw [hF] at hP
  obtain ⟨M1, b1, b2, b3, b4, b5, b6⟩ := later_v (tb := tb) (tl := tl) hm (g := 4) (q := tl) (by omega) (by omega) hP (by omega)
  have h4 := hm.1
  have e50 : ∀ r : Mem → Option (Bool × Mem), (gin (nI 0) 138 <| if gI Mm 100 21 < gA Mm 100 19 (ix (nI 0)) then r Mm else bn (f_X10_later Mm (nI 4) (gI Mm 100 12)) fun M12 => r M12) = if gI Mm 100 21 < nI n then r Mm else r M1 := by
    intro r
    rw [gin_n (by omega) (by omega), ix_n (by omega), hc, e12, b1, bn_s]
  have e1 : midM (nI a) true Mm = if x.1 = 0 then (if gI Mm 100 21 < nI n then f_X10_readText_72 (nI a) true Mm else f_X10_readText_72 (nI a) true M1) else f_X10_readText_72 (nI a) true Mm := by
    unfold midM f_X10_readText_50
    rw [if_pos rfl, hm.2.1, ite_p (eq_n (by omega) (by omega))]
    by_cases p : x.1 = 0
    · rw [if_pos p, if_pos p]
      rcases ha with rfl | rfl
      · rw [if_pos rfl]
        exact e50 fun M => f_X10_readText_72 (nI 0) true M
      · rw [if_neg (show ¬ nI 2 = nI 0 by decide), if_pos rfl]
        exact e50 fun M => f_X10_readText_72 (nI 2) true M
    · rw [if_neg p, if_neg p]
  rw [e1]
  by_cases p : x.1 = 0
  · rw [if_pos p]
    by_cases q : gI Mm 100 21 < nI n
    · rw [if_pos q, ntc_id (fun z => z q)]
      exact ⟨Mm, rfl, rfl, hm⟩
    · rw [if_neg q, ntc_p q]
      exact ⟨M1, rfl, b5, b2⟩
  · rw [if_neg p]
    refine ⟨Mm, rfl, rfl, ?_⟩
    have e2 : ntc (¬ gI Mm 100 21 < nI n) 4 tl x = x := by
      unfold ntc nt
      rw [if_neg p, ite_self]
    rw [e2]
    exact hm
theorem ntc_ne {c : Prop} [Decidable c] {g q : Nat} {x : Nat × Nat} (h : ¬ x.1 = 0) : ntc c g q x = x := by
  unfold ntc nt
  rw [if_neg h, ite_self]
theorem end_c : EndR tb tl 0 KC FinC := by
  rintro e x Mx Mm ⟨h1, h2, h3, h4, h5, n, n9, k1, k2, k3⟩ hk
  obtain ⟨Mx', a1, a2, a3⟩ := end_cl (a := 0) h2 h1.1.2.1 n9 (Or.inl ⟨rfl, rfl, rfl⟩) k1
  obtain ⟨Mm', b1, b2, b3⟩ := mid_v (a := 0) h4 h3 hk h5 (Or.inl rfl) k2
  by_cases p : x.1 = 0
  · obtain ⟨C, fo, TO, c1, ⟨v1, v2, v3, v4, v5, v6⟩, c3, c4, c5, c6, c7⟩ := k3 p
    obtain ⟨m1, m2⟩ := miss_v c3 n9
    refine ⟨ntc (¬ fo ≤ n) 4 tl x, Mx', Mm', a1, a2, ?_, b1, b2, ?_, fun z => ?_⟩
    · rw [c6] at a3
      rw [ntc_cg (d := ¬ nI TO >>> (nI n &&& 31) = nI 0) (by rw [m1])]
      exact a3
    · rw [c7] at b3
      rw [ntc_cg (d := ¬ farI fo < nI n) (by rw [m2])]
      exact b3
    · obtain ⟨z1, z2⟩ := ntc_0 (by omega) z
      have hfo : fo ≤ n := by omega
      have hp : 2 ^ fo ≤ 2 ^ cN C := Nat.pow_le_pow_right (by omega) (by omega)
      refine ⟨C, ⟨v1, v2, fun s hs => ?_, fun s hs => ?_, v6⟩, CX_N (by omega) a2 c4, CR_cg (by rw [b2]) c5⟩
      · obtain ⟨u1, u2, u3⟩ := v3 s hs
        obtain ⟨w1, w2, w3⟩ := v4 s (by omega)
        exact ⟨u1, u2, u3, by omega, w2⟩
      · by_cases q : s < 9
        · obtain ⟨w1, w2, w3⟩ := v4 s q
          by_cases q2 : cAf C s = 0
          · exact q2
          · have := w3 q2; omega
        · exact v5 s (by omega)
  · rw [ntc_ne p] at a3 b3
    exact ⟨x, Mx', Mm', a1, a2, a3, b1, b2, b3, fun z => absurd z p⟩
theorem end_t : EndR tb tl 2 KT FinT := by
  rintro e x Mx Mm ⟨h1, h2, h3, h4, h5, n, n9, k1, k2, k3⟩ hk
  obtain ⟨Mx', a1, a2, a3⟩ := end_cl (a := 2) h2 h1.1.2.1 (by omega) (Or.inr ⟨rfl, rfl, rfl⟩) k1
  obtain ⟨Mm', b1, b2, b3⟩ := mid_v (a := 2) h4 h3 hk h5 (Or.inr rfl) k2
  by_cases p : x.1 = 0
  · obtain ⟨T, fo, TO, c1, c2, c3, c4, c5, c6, c7⟩ := k3 p
    obtain ⟨m1, m2⟩ := miss_v (n := n) c3 (by omega)
    refine ⟨ntc (¬ fo ≤ n) 4 tl x, Mx', Mm', a1, a2, ?_, b1, b2, ?_, fun z => ?_⟩
    · rw [c6] at a3
      rw [ntc_cg (d := ¬ nI TO >>> (nI n &&& 31) = nI 0) (by rw [m1])]
      exact a3
    · rw [c7] at b3
      rw [ntc_cg (d := ¬ farI fo < nI n) (by rw [m2])]
      exact b3
    · exact ⟨T, c2, TX_N (by omega) a2 c4, TR1_cg (by rw [b2]) c5⟩
  · rw [ntc_ne p] at a3 b3
    exact ⟨x, Mx', Mm', a1, a2, a3, b1, b2, b3, fun z => absurd z p⟩
/-- a text read on both sides -/
def ReadR (a : Nat) (Fin : Mem → Mem → Prop) (tl : Nat) (Mx Mm : Mem) : Prop := ∃ (x' : Nat × Nat) (Mx' Mm' : Mem), f_X2_read Mx (nI a) 1 (nI tl) = some Mx' ∧ FX Mx Mx' ∧ x'.1 ≤ 4 ∧ gI Mx' 10 12 = nI x'.1 ∧ gI Mx' 10 13 = (if x'.1 = 0 then -1 else nI x'.2) ∧ f_X10_readText Mm (nI a) = some (decide (x'.1 = 0), Mm') ∧ gA Mm' 100 3 0 = nI x'.1 ∧ gA Mm' 100 4 0 = (if x'.1 = 0 then -1 else nI x'.2) ∧ (∀ k, ((1 ≤ k ∧ k ≤ 9) ∨ k = 57) → ¬ k = 3 → ¬ k = 4 → gA Mm' 100 k = gA Mm 100 k) ∧ (∀ k j, (k = 3 ∨ k = 4) → 1 ≤ j → gA Mm' 100 k j = gA Mm 100 k j) ∧ (x'.1 = 0 → Fin Mx' Mm')
theorem read_j {a : Nat} {K : Nat × Nat → Mem → Mem → Prop} {Fin : Mem → Mem → Prop} {Mx Mm : Mem} (ha : a < 4) (ht : tl ≤ 600) (hb : ∀ j, j < tl → byN (gA Mx 1 0 j) = tb j) (hm : MTq tb tl Mm) (hl : ∀ e x Mx Mm, JS tb tl K e x Mx Mm → ¬ tkK tb tl e = 0 → StepR tb tl K a e Mx Mm) (hi : ∀ Mx Mm, IX Mx → gI Mm 100 21 = farI 0 → (∀ j, j < 138 → gA Mm 100 19 j = bl19 a j) → K (0, 0) Mx Mm) (he : EndR tb tl a K Fin) (hF : ∀ Mx Mm Mm', gA Mm' 100 19 = gA Mm 100 19 → Fin Mx Mm → Fin Mx Mm') : ReadR a Fin tl Mx Mm := by
  obtain ⟨X1, x1, x2, x3, x4, x5⟩ := init_x (a := a) ht hb
  obtain ⟨M1, m1, m2, m3, m4, m5, m6⟩ := init_m ha hm
  have hJ : JS tb tl K 0 (0, 0) X1 M1 := ⟨x2, x3, m2, m3, fun z => absurd rfl z, hi X1 M1 x4 m4 m5⟩
  have hfr : ∀ M2 M3, FM M1 M2 → FQm M2 M3 → (∀ k, ((1 ≤ k ∧ k ≤ 9) ∨ k = 57) → ¬ k = 3 → ¬ k = 4 → gA M3 100 k = gA Mm 100 k) ∧ (∀ k j, (k = 3 ∨ k = 4) → 1 ≤ j → gA M3 100 k j = gA Mm 100 k j) := by
    intro M2 M3 f1 f2
    have f3 := FM_tr m1 f1
    exact ⟨fun k q1 q2 q3 => by rw [f2.2.1 k q2 q3, f3 k q1], fun k j q1 q2 => by rw [f2.2.2 k j q2, f3 k (by omega)]⟩
  rcases loop_j (a2 := 1) (a3 := nI tl) hl tl 0 (0, 0) X1 M1 0 FU FU (by omega) (by rw [FU_v]; omega) (by rw [FU_v]; omega) (by omega) hJ with ⟨e', x', X2, M2, t1, t2, t3, t4, t5, t6⟩ | ⟨q, X2, M2, t1, t2, t3, t4, t5, t6, t7⟩
  · obtain ⟨x'', X3, M3, s1, s2, s3, s4, s5, s6, s7⟩ := he e' x' X2 M2 t6 t5
    obtain ⟨M4, r1, r2, r3, r4⟩ := fin_t (a := a) s6
    have f0 : FM M2 M3 := fun k _ => by rw [s5]
    obtain ⟨g1, g2⟩ := hfr M3 M4 (FM_tr t4 f0) r2
    refine ⟨x'', X3, M4, by rw [x5, t1, s1], FX_tr x1 (FX_tr t2 (FX_L (FLx_N s2))), s3.1.1, s3.2.1, s3.2.2, ?_, r3, r4, g1, g2, fun z => hF X3 M3 M4 (r2.2.1 19 (by omega) (by omega)) (s7 z)⟩
    rw [m6, t3, bp_s, s4, r1]
  · obtain ⟨M4, r1, r2, r3, r4⟩ := fin_f (a := a) t6
    obtain ⟨g1, g2⟩ := hfr M2 M4 t7 r2
    refine ⟨(1, q), X2, M4, by rw [x5, t1, end_f t3], FX_tr x1 t2, show (1 : Nat) ≤ 4 by omega, t3, by rw [if_neg (show ¬ (1 : Nat) = 0 by omega)]; exact t4, ?_, r3, by rw [if_neg (show ¬ (1 : Nat) = 0 by omega)]; exact r4, g1, g2, fun z => absurd (show (1 : Nat) = 0 from z) (by omega)⟩
    rw [m6, t5, bp_s]
    unfold midM
    rw [if_neg (by decide), r1]
    rfl
end Reads2
