/-! THE TAPE: feed, end; all that is told copied -/
/-- the tape and the fault of a Told -/
def RTa (Mx Mm : Mem) (t i : Nat) : Prop := (∃ n, n ≤ 600 ∧ gI Mx t 1 = nI n ∧ gA Mm 100 2 i = nI n) ∧ (∀ j, j < 600 → (gA Mx t 0 j).toInt8 = (gA Mm 100 1 (600 * i + j)).toInt8) ∧ (gI Mx t 2 = gA Mm 100 3 i ∧ gI Mx t 3 = gA Mm 100 4 i)
/-- the told things of a Told -/
def RTb (Mx Mm : Mem) (t i : Nat) : Prop := ∃ cn : Nat → Nat, (∀ s, s < 4 → cn s ≤ 2 ∧ gA Mx t 4 s = nI (cn s) ∧ gA Mm 100 5 (4 * i + s) = nI (cn s)) ∧
    (∀ k, k < cn 0 → ∃ C, CV C ∧ CX Mx (t + 1 + k) C ∧ CM Mm (138 * (2 * i + k)) C) ∧
    (∀ k, k < cn 1 → ∃ L, LV L ∧ LX Mx (t + 3 + k) L ∧ LM Mm (81 * (2 * i + k)) L) ∧
    (∀ k, k < cn 2 → ∃ T, TV T ∧ TX Mx (t + 5 + k) T ∧ TM Mm (41 * (2 * i + k)) T) ∧
    ∀ k, k < cn 3 → ∃ S, SV S ∧ SX Mx (t + 7 + k) S ∧ SM Mm (31 * (2 * i + k)) S
theorem RT_ab {Mx Mm : Mem} {t i : Nat} : RT Mx Mm t i ↔ (RTa Mx Mm t i ∧ RTb Mx Mm t i) := ⟨fun ⟨a, b, c, d⟩ => ⟨⟨a, b, c⟩, d⟩, fun ⟨⟨a, b, c⟩, d⟩ => ⟨a, b, c, d⟩⟩
theorem RTa_cg {Mx Mx' Mm Mm' : Mem} {t i : Nat} (h : RTa Mx Mm t i) (x1 : ∀ k, gI Mx' t k = gI Mx t k) (x2 : ∀ k, gA Mx' t k = gA Mx t k) (m1 : ∀ j, j < 600 → gA Mm' 100 1 (600 * i + j) = gA Mm 100 1 (600 * i + j)) (m2 : gA Mm' 100 2 i = gA Mm 100 2 i ∧ gA Mm' 100 3 i = gA Mm 100 3 i ∧ gA Mm' 100 4 i = gA Mm 100 4 i) : RTa Mx' Mm' t i := by
  obtain ⟨⟨n, a, b, c⟩, d, e, f⟩ := h
  refine ⟨⟨n, a, by rw [x1]; exact b, by rw [m2.1]; exact c⟩, fun j hj => by rw [x2, m1 j hj]; exact d j hj, by rw [x1, m2.2.1]; exact e, by rw [x1, m2.2.2]; exact f⟩
theorem CX_at {M M' : Mem} {a o : Nat} {C : CoatA} (h : CX M a C) (h0 : gI M' o 0 = gI M a 0) (h1 : gI M' o 1 = gI M a 1) (h2 : ∀ k j, (2 ≤ k ∧ k ≤ 5 ∧ j < 9) ∨ (k = 6 ∧ j < 100) → gA M' o k j = gA M a k j) (hn : cN C ≤ 9) : CX M' o C := by
  obtain ⟨a0, a1, a2, a3, a4⟩ := h
  refine ⟨by rw [h0]; exact a0, by rw [h1]; exact a1, fun s hs => ?_, fun s hs => ?_, fun d hd => ?_⟩
  · rw [h2 2 s (by omega), h2 3 s (by omega), h2 4 s (by omega)]; exact a2 s hs
  · rw [h2 5 s (by omega)]; exact a3 s hs
  · rw [h2 6 d (by omega)]; exact a4 d hd
theorem LX_at {M M' : Mem} {a o : Nat} {L : LifeA} (h : LX M a L) (h0 : gI M' o 0 = gI M a 0) (h2 : ∀ k j, (k = 1 ∨ k = 2) → j < 40 → gA M' o k j = gA M a k j) (hn : L.1 ≤ 40) : LX M' o L := by
  obtain ⟨a0, a1⟩ := h
  refine ⟨by rw [h0]; exact a0, fun s hs => ?_⟩
  rw [h2 1 s (by omega) (by omega), h2 2 s (by omega) (by omega)]; exact a1 s hs
theorem TX_at {M M' : Mem} {a o : Nat} {T : TownA} (h : TX M a T) (h0 : ∀ k, k ≤ 4 → gI M' o k = gI M a k) (h2 : ∀ k j, (5 ≤ k ∧ k ≤ 10) → j < 6 → gA M' o k j = gA M a k j) (hn : tW T ≤ 6) : TX M' o T := by
  obtain ⟨⟨a0, a1, a2, a3, a4⟩, b, c⟩ := h
  refine ⟨⟨by rw [h0 0 (by omega)]; exact a0, by rw [h0 1 (by omega)]; exact a1, by rw [h0 2 (by omega)]; exact a2, by rw [h0 3 (by omega)]; exact a3, by rw [h0 4 (by omega)]; exact a4⟩, fun w hw => ?_, fun w hw => ?_⟩
  · rw [h2 5 w (by omega) (by omega), h2 6 w (by omega) (by omega), h2 7 w (by omega) (by omega), h2 8 w (by omega) (by omega)]; exact b w hw
  · rw [h2 9 w (by omega) (by omega), h2 10 w (by omega) (by omega)]; exact c w hw
theorem SX_at {M M' : Mem} {a o : Nat} {S : SightA} (h : SX M a S) (h0 : gI M' o 0 = gI M a 0) (h2 : ∀ k j, (1 ≤ k ∧ k ≤ 3) → j < 10 → gA M' o k j = gA M a k j) (hn : S.1 ≤ 10) : SX M' o S := by
  obtain ⟨a0, a1⟩ := h
  refine ⟨by rw [h0]; exact a0, fun s hs => ?_⟩
  rw [h2 1 s (by omega) (by omega), h2 2 s (by omega) (by omega), h2 3 s (by omega) (by omega)]; exact a1 s hs
theorem CM_at {M M' : Mem} {b b' : Nat} {C : CoatA} (h : CM M b C) (e : ∀ j, j < 138 → gA M' 100 6 (b' + j) = gA M 100 6 (b + j)) (hn : cN C ≤ 9) : CM M' b' C := by
  obtain ⟨a0, a1, a2, a3, a4⟩ := h
  refine ⟨?_, by rw [e 1 (by omega)]; exact a1, fun s hs => ?_, fun s hs => ?_, fun d hd => ?_⟩
  · have := e 0 (by omega)
    rw [Nat.add_zero, Nat.add_zero] at this
    rw [this]; exact a0
  · rw [e (2 + s) (by omega), e (11 + s) (by omega), e (20 + s) (by omega)]; exact a2 s hs
  · rw [e (29 + s) (by omega)]; exact a3 s hs
  · rw [e (38 + d) (by omega)]; exact a4 d hd
theorem LM_at {M M' : Mem} {b b' : Nat} {L : LifeA} (h : LM M b L) (e : ∀ j, j < 81 → gA M' 100 7 (b' + j) = gA M 100 7 (b + j)) (hn : L.1 ≤ 40) : LM M' b' L := by
  obtain ⟨a0, a1⟩ := h
  refine ⟨?_, fun s hs => ?_⟩
  · have := e 0 (by omega)
    rw [Nat.add_zero, Nat.add_zero] at this
    rw [this]; exact a0
  · rw [e (1 + 2 * s) (by omega), e (1 + 2 * s + 1) (by omega)]; exact a1 s hs
theorem TM_at {M M' : Mem} {b b' : Nat} {T : TownA} (h : TM M b T) (e : ∀ j, j < 41 → gA M' 100 8 (b' + j) = gA M 100 8 (b + j)) (hn : tW T ≤ 6) : TM M' b' T := by
  obtain ⟨⟨a0, a1, a2, a3, a4⟩, c, d⟩ := h
  refine ⟨⟨?_, by rw [e 1 (by omega)]; exact a1, by rw [e 2 (by omega)]; exact a2, by rw [e 3 (by omega)]; exact a3, by rw [e 4 (by omega)]; exact a4⟩, fun w hw => ?_, fun w hw => ?_⟩
  · have := e 0 (by omega)
    rw [Nat.add_zero, Nat.add_zero] at this
    rw [this]; exact a0
  · rw [e (5 + w) (by omega), e (11 + w) (by omega), e (17 + w) (by omega), e (23 + w) (by omega)]; exact c w hw
  · rw [e (29 + w) (by omega), e (35 + w) (by omega)]; exact d w hw
theorem SM_at {M M' : Mem} {b b' : Nat} {S : SightA} (h : SM M b S) (e : ∀ j, j < 31 → gA M' 100 9 (b' + j) = gA M 100 9 (b + j)) (hn : S.1 ≤ 10) : SM M' b' S := by
  obtain ⟨a0, a1⟩ := h
  refine ⟨?_, fun s hs => ?_⟩
  · have := e 0 (by omega)
    rw [Nat.add_zero, Nat.add_zero] at this
    rw [this]; exact a0
  · rw [e (1 + 3 * s) (by omega), e (1 + 3 * s + 1) (by omega), e (1 + 3 * s + 2) (by omega)]; exact a1 s hs
/-- the told things at other places, or in other memories, the same -/
theorem RTb_at {Mx Mx' Mm Mm' : Mem} {t i t' i' : Nat} (h : RTb Mx Mm t i) (x4 : ∀ s, s < 4 → gA Mx' t' 4 s = gA Mx t 4 s) (xc : ∀ k, k < 2 → ∀ C, cN C ≤ 9 → CX Mx (t + 1 + k) C → CX Mx' (t' + 1 + k) C) (xl : ∀ k, k < 2 → ∀ L, L.1 ≤ 40 → LX Mx (t + 3 + k) L → LX Mx' (t' + 3 + k) L) (xt : ∀ k, k < 2 → ∀ T, tW T ≤ 6 → TX Mx (t + 5 + k) T → TX Mx' (t' + 5 + k) T) (xs : ∀ k, k < 2 → ∀ S, S.1 ≤ 10 → SX Mx (t + 7 + k) S → SX Mx' (t' + 7 + k) S) (m5 : ∀ j, j < 4 → gA Mm' 100 5 (4 * i' + j) = gA Mm 100 5 (4 * i + j)) (m6 : ∀ j, j < 276 → gA Mm' 100 6 (276 * i' + j) = gA Mm 100 6 (276 * i + j)) (m7 : ∀ j, j < 162 → gA Mm' 100 7 (162 * i' + j) = gA Mm 100 7 (162 * i + j)) (m8 : ∀ j, j < 82 → gA Mm' 100 8 (82 * i' + j) = gA Mm 100 8 (82 * i + j)) (m9 : ∀ j, j < 62 → gA Mm' 100 9 (62 * i' + j) = gA Mm 100 9 (62 * i + j)) : RTb Mx' Mm' t' i' := by
  obtain ⟨cn, hc, h0, h1, h2, h3⟩ := h
  refine ⟨cn, fun s hs => ?_, fun k hk => ?_, fun k hk => ?_, fun k hk => ?_, fun k hk => ?_⟩
  · obtain ⟨a, b, c⟩ := hc s hs
    exact ⟨a, by rw [x4 s hs]; exact b, by rw [m5 s hs]; exact c⟩
  · obtain ⟨C, a, b, c⟩ := h0 k hk
    have hk2 : k < 2 := by have := (hc 0 (by omega)).1; omega
    refine ⟨C, a, xc k hk2 C a.1 b, CM_at c (fun j hj => ?_) a.1⟩
    have := m6 (138 * k + j) (by omega)
    rw [show 138 * (2 * i' + k) + j = 276 * i' + (138 * k + j) by omega, this, show 138 * (2 * i + k) + j = 276 * i + (138 * k + j) by omega]
  · obtain ⟨L, a, b, c⟩ := h1 k hk
    have hk2 : k < 2 := by have := (hc 1 (by omega)).1; omega
    refine ⟨L, a, xl k hk2 L a.1 b, LM_at c (fun j hj => ?_) a.1⟩
    have := m7 (81 * k + j) (by omega)
    rw [show 81 * (2 * i' + k) + j = 162 * i' + (81 * k + j) by omega, this, show 81 * (2 * i + k) + j = 162 * i + (81 * k + j) by omega]
  · obtain ⟨T, a, b, c⟩ := h2 k hk
    have hk2 : k < 2 := by have := (hc 2 (by omega)).1; omega
    refine ⟨T, a, xt k hk2 T a.1.2.2.2.2 b, TM_at c (fun j hj => ?_) a.1.2.2.2.2⟩
    have := m8 (41 * k + j) (by omega)
    rw [show 41 * (2 * i' + k) + j = 82 * i' + (41 * k + j) by omega, this, show 41 * (2 * i + k) + j = 82 * i + (41 * k + j) by omega]
  · obtain ⟨S, a, b, c⟩ := h3 k hk
    have hk2 : k < 2 := by have := (hc 3 (by omega)).1; omega
    refine ⟨S, a, xs k hk2 S a.1 b, SM_at c (fun j hj => ?_) a.1⟩
    have := m9 (31 * k + j) (by omega)
    rw [show 31 * (2 * i' + k) + j = 62 * i' + (31 * k + j) by omega, this, show 31 * (2 * i + k) + j = 62 * i + (31 * k + j) by omega]
theorem RTb_cg {Mx Mx' Mm Mm' : Mem} {t i : Nat} (h : RTb Mx Mm t i) (x4 : gA Mx' t 4 = gA Mx t 4) (hx : ∀ o, t < o → o < t + 9 → (∀ k, gI Mx' o k = gI Mx o k) ∧ ∀ k, gA Mx' o k = gA Mx o k) (hm : ∀ k, 5 ≤ k → k ≤ 9 → gA Mm' 100 k = gA Mm 100 k) : RTb Mx' Mm' t i := by
  refine RTb_at h (fun s _ => by rw [x4]) (fun k hk C _ c => CX_cg (hx _ (by omega) (by omega)) c) (fun k hk L _ c => LX_cg (hx _ (by omega) (by omega)) c) (fun k hk T _ c => TX_cg (hx _ (by omega) (by omega)) c) (fun k hk S _ c => SX_cg (hx _ (by omega) (by omega)) c) ?_ ?_ ?_ ?_ ?_
  · intro j _; rw [hm 5 (by omega) (by omega)]
  · intro j _; rw [hm 6 (by omega) (by omega)]
  · intro j _; rw [hm 7 (by omega) (by omega)]
  · intro j _; rw [hm 8 (by omega) (by omega)]
  · intro j _; rw [hm 9 (by omega) (by omega)]
/-- a change of the tape and the fault alone -/
theorem Rl_tape {Mx Mx' Mm Mm' : Mem} (H : Rl Mx Mm) (hx : ∀ o, (o < 10 ∨ 21 ≤ o) → ¬ o = 1 → (∀ k, gI Mx' o k = gI Mx o k) ∧ ∀ k, gA Mx' o k = gA Mx o k) (x4 : gA Mx' 1 4 = gA Mx 1 4) (hm : ∀ k, (5 ≤ k ∧ k ≤ 9) ∨ k = 57 → gA Mm' 100 k = gA Mm 100 k) (m1 : ∀ j, 600 ≤ j → gA Mm' 100 1 j = gA Mm 100 1 j) (m2 : ∀ k i, 2 ≤ k → k ≤ 4 → 1 ≤ i → gA Mm' 100 k i = gA Mm 100 k i) (ha : RTa Mx' Mm' 1 0) : Rl Mx' Mm' := by
  obtain ⟨h1, h2⟩ := H
  refine ⟨RT_ab.mpr ⟨ha, RTb_cg (RT_ab.mp h1).2 x4 (fun o a b => hx o (by omega) (by omega)) (fun k a b => hm k (by omega))⟩, fun j hj => ?_⟩
  rw [(hx 0 (by omega) (by omega)).2, hm 57 (by omega)]
  rcases h2 j hj with ⟨a, b⟩ | ⟨a, b, c⟩
  · exact Or.inl ⟨a, b⟩
  · obtain ⟨c1, c2⟩ := RT_ab.mp c
    refine Or.inr ⟨a, b, RT_ab.mpr ⟨RTa_cg c1 (hx _ (by omega) (by omega)).1 (hx _ (by omega) (by omega)).2 (fun i hi => m1 _ (by omega)) ⟨m2 2 _ (by omega) (by omega) (by omega), m2 3 _ (by omega) (by omega) (by omega), m2 4 _ (by omega) (by omega) (by omega)⟩, RTb_cg c2 (by rw [(hx _ (by omega) (by omega)).2]) (fun o a b => hx o (by omega) (by omega)) (fun k a b => hm k (by omega))⟩⟩
/-- what feeding keeps -/
def FdR (Bx Bm : Mem) (n : Nat) (Mx Mm : Mem) : Prop := (gI Mx 1 1 = nI n ∧ gA Mm 100 2 0 = nI n) ∧ (∀ j, j < 600 → (gA Mx 1 0 j).toInt8 = (gA Mm 100 1 j).toInt8) ∧ (∀ o k, ¬ (o = 1 ∧ k = 1) → gI Mx o k = gI Bx o k) ∧ (∀ o k, ¬ (o = 1 ∧ k = 0) → gA Mx o k = gA Bx o k) ∧ (∀ k, ¬ k = 1 → ¬ k = 2 → gA Mm 100 k = gA Bm 100 k) ∧ (∀ j, 600 ≤ j → gA Mm 100 1 j = gA Bm 100 1 j) ∧ ∀ i, 1 ≤ i → gA Mm 100 2 i = gA Bm 100 2 i
theorem FdR_Rl {Bx Bm Mx Mm : Mem} {n : Nat} (H : Rl Bx Bm) (h : FdR Bx Bm n Mx Mm) (hn : n ≤ 600) : Rl Mx Mm := by
  obtain ⟨⟨a1, a2⟩, b, c, d, e, f, g⟩ := h
  have hT := (RT_ab.mp H.1).1
  refine Rl_tape H (fun o _ h1 => ⟨fun k => c o k (fun z => h1 z.1), fun k => d o k (fun z => h1 z.1)⟩) (d 1 4 (by omega)) (fun k hk => e k (by omega) (by omega)) f (fun k i h2 h4 hi => ?_) ⟨⟨n, hn, a1, a2⟩, fun j hj => ?_, ?_, ?_⟩
  · by_cases q : k = 2
    · rw [q]; exact g i hi
    · rw [e k (by omega) q]
  · rw [show 600 * 0 + j = j by omega]; exact b j hj
  · rw [c 1 2 (by omega), e 3 (by omega) (by omega)]; exact hT.2.2.1
  · rw [c 1 3 (by omega), e 4 (by omega) (by omega)]; exact hT.2.2.2
def shF (i : Nat) : Int32 := if i = 0 then nI 24 else if i = 1 then nI 16 else if i = 2 then nI 8 else if i = 3 then nI 0 else -8
theorem shF_all : (∀ i, i < 4 → ¬ shF i < nI 0 ∧ shF i + (-8) = shF (i + 1)) ∧ shF 4 < nI 0 := by decide +kernel
theorem put_v {Bx Bm Mx Mm : Mem} {n : Nat} (h : FdR Bx Bm n Mx Mm) (hn : n + 4 ≤ 600) (a : Int32) : ∃ Mx' Mm', f_X5_put Mx 1 a = some Mx' ∧ f_X10_four Mm a = some Mm' ∧ FdR Bx Bm (n + 4) Mx' Mm' := by
  obtain ⟨s1, s2⟩ := shF_all
  unfold f_X5_put f_X10_four f_X5_put_3 f_X10_four_3
  refine lpU_sim (fun i x y => ∃ M1 M2, x = (shF i, M1) ∧ y = (shF i, M2) ∧ FdR Bx Bm (n + i) M1 M2) 4 (fun x y => ∃ Mx' Mm', x = some Mx' ∧ y = some Mm' ∧ FdR Bx Bm (n + 4) Mx' Mm') (by omega) ?_ ?_ 0 _ _ (Nat.zero_le _) ⟨Mx, Mm, rfl, rfl, h⟩
  · rintro rc rc' x y ⟨M1, M2, rfl, rfl, hF⟩
    show ∃ Mx' Mm', b_X5_put_3 1 a _ (shF 4) M1 = _ ∧ b_X10_four_3 a _ (shF 4) M2 = _ ∧ _
    unfold b_X5_put_3 b_X10_four_3
    rw [if_pos s2, if_pos s2]
    exact ⟨M1, M2, rfl, rfl, hF⟩
  · rintro rc rc' i x y hi ⟨M1, M2, rfl, rfl, ⟨a1, a2⟩, b, c, d, e, f, g⟩
    right
    obtain ⟨s3, s4⟩ := s1 i hi
    show ∃ a' b', _ ∧ b_X5_put_3 1 a _ (shF i) M1 = _ ∧ b_X10_four_3 a _ (shF i) M2 = _
    unfold b_X5_put_3 b_X10_four_3
    simp only [nm_s]
    have e2 : ∀ (w : Int32) (j : Nat), gA (sA M2 100 1 j w) 100 2 0 = nI (n + i) := fun w j => by rw [gA_sA, if_neg (by omega), a2]
    rw [if_neg s3, if_neg s3, ix0, gin0 (by omega) (by omega), gin0 (by omega) (by omega), gin0 (by omega) (by omega), a1, a2, if_neg (nI_ge (by omega) (by omega)), gin_n (by omega) (by omega), gin_n (by omega) (by omega), ix_n (by omega), gI_sA, a1, e2, nI_add, s4]
    refine ⟨_, _, ⟨_, _, rfl, rfl, ⟨?_, ?_⟩, fun j hj => ?_, fun o k hk => ?_, fun o k hk => ?_, fun k h1 h2 => ?_, fun j hj => ?_, fun j hj => ?_⟩, rfl, rfl⟩
    · rw [gI_sI, if_pos ⟨rfl, rfl⟩]; rfl
    · rw [gA_sA, if_pos ⟨rfl, rfl, rfl⟩]; rfl
    · rw [gA_sI, gA_sA, gA_sA, if_neg (show ¬ (100 = 100 ∧ 1 = 2 ∧ j = 0) by omega), gA_sA]
      by_cases q : j = n + i
      · rw [if_pos ⟨rfl, rfl, q⟩, if_pos ⟨rfl, rfl, q⟩]
      · rw [if_neg (fun z => q z.2.2), if_neg (fun z => q z.2.2)]
        exact b j hj
    · rw [gI_sI, if_neg hk, gI_sA]; exact c o k hk
    · rw [gA_sI]
      show gA (wA M1 1 0 _) o k = _
      rw [gA_wA', if_neg hk]; exact d o k hk
    · show gA (wA (wA M2 100 1 _) 100 2 _) 100 k = _
      rw [gA_wA', if_neg (by omega), gA_wA', if_neg (by omega)]; exact e k h1 h2
    · rw [gA_sA, if_neg (by omega), gA_sA, if_neg (by omega)]; exact f j hj
    · rw [gA_sA, if_neg (by omega), gA_sA, if_neg (by omega)]; exact g j hj
theorem q_feed {Mx Mm : Mem} (H : Rl Mx Mm) (a b c d e : Int32) : EqI Mx Mm (f_X9_feed Mx a b c d e) (f_X10_feed Mm a b c d e) := by
  have h0 := FM_sI Mm (o := 100) (k := 0) (v := nI 0)
  have hR := Rl_fr H (FX_rf Mx) h0
  obtain ⟨⟨⟨n, hn, n1, n2⟩, t1, -⟩, -⟩ := RT_ab.mp H.1
  unfold f_X9_feed f_X10_feed
  rw [nm_s, gin0 (by omega) (by omega), ix0, n1, show gA (sI Mm 100 0 (nI 0)) 100 2 0 = nI n from n2, nI_add, ite_p (le_n (by omega) (by omega)), ite_p (le_n (by omega) (by omega))]
  by_cases q : n + 20 ≤ 600
  · have hF : FdR Mx Mm n Mx (sI Mm 100 0 (nI 0)) := ⟨⟨n1, n2⟩, fun j hj => by have := t1 j hj; rw [show 600 * 0 + j = j by omega] at this; exact this, fun _ _ _ => rfl, fun _ _ _ => rfl, fun _ _ _ => rfl, fun _ _ => rfl, fun _ _ => rfl⟩
    obtain ⟨X1, Y1, e1, f1, g1⟩ := put_v hF (by omega) a
    obtain ⟨X2, Y2, e2, f2, g2⟩ := put_v g1 (by omega) b
    obtain ⟨X3, Y3, e3, f3, g3⟩ := put_v g2 (by omega) c
    obtain ⟨X4, Y4, e4, f4, g4⟩ := put_v g3 (by omega) d
    obtain ⟨X5, Y5, e5, f5, g5⟩ := put_v g4 (by omega) e
    rw [if_pos q, if_pos q, e1, bn_s, e2, bn_s, e3, bn_s, e4, bn_s, e5, bn_s, f1, bn_s, f2, bn_s, f3, bn_s, f4, bn_s, f5, bn_s, gin0 (by omega) (by omega), g5.1.1, g5.1.2]
    exact ⟨_, _, _, rfl, rfl, FdR_Rl H g5 (by omega)⟩
  · rw [if_neg q, if_neg q]
    exact ⟨_, _, _, rfl, rfl, hR⟩
theorem q_end {Mx Mm : Mem} (H : Rl Mx Mm) (a : Int32) : EqI Mx Mm (f_X9_end Mx a) (f_X10_end Mm a) := by
  have h0 := FM_sI Mm (o := 100) (k := 0) (v := nI 0)
  have hR := Rl_fr H (FX_rf Mx) h0
  obtain ⟨⟨⟨n, hn, n1, n2⟩, t1, -⟩, -⟩ := RT_ab.mp H.1
  unfold f_X9_end f_X10_end
  rw [nm_s (sI Mm 100 0 (nI 0)), gin0 (by omega) (by omega), ix0, n1, show gA (sI Mm 100 0 (nI 0)) 100 2 0 = nI n from n2]
  rcases int_cases a with ha | ⟨a, ha, rfl⟩
  · rw [if_pos (show a < nI 0 from ha), in_neg ha 0 (by omega)]
    exact ⟨_, _, _, rfl, rfl, hR⟩
  rw [if_neg (n_nneg ha), in_n ha (by omega) (by omega), bn_s, ite_p (le_n ha (by omega))]
  by_cases q : a ≤ n
  · have hF : FdR Mx Mm a (sI Mx 1 1 (nI a)) (sA (sI Mm 100 0 (nI 0)) 100 2 0 (nI a)) := by
      refine ⟨⟨?_, ?_⟩, fun j hj => ?_, fun o k hk => ?_, fun o k hk => rfl, fun k h1 h2 => ?_, fun j hj => ?_, fun j hj => ?_⟩
      · rw [gI_sI, if_pos ⟨rfl, rfl⟩]
      · rw [gA_sA, if_pos ⟨rfl, rfl, rfl⟩]
      · rw [gA_sI, gA_sA, if_neg (by omega)]
        have := t1 j hj
        rw [show 600 * 0 + j = j by omega] at this
        exact this
      · rw [gI_sI, if_neg hk]
      · show gA (wA (sI Mm 100 0 (nI 0)) 100 2 _) 100 k = _
        rw [gA_wA', if_neg (by omega)]
        rfl
      · rw [gA_sA, if_neg (by omega)]
        rfl
      · rw [gA_sA, if_neg (by omega)]
        rfl
    rw [if_pos q, if_pos (dT (by omega)), nm_s, gin0 (by omega) (by omega), nm_s]
    exact ⟨_, _, _, rfl, rfl, FdR_Rl H hF (by omega)⟩
  · rw [if_neg q, if_neg (dF (by omega))]
    exact ⟨_, _, _, rfl, rfl, hR⟩
