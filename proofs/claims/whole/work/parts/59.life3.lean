/-! stop, state, drawn -/
theorem w_begin {o k : Nat} {C : CoatA} {Bx Bm Mx Mm : Mem} (ho : o < 10) (hX : CX Mx o C) (hH : MH Mm k C) (hV : CV C) (hfx : FX Bx Mx) (hfm : FM Bm Mm) : ∃ Mx' Mm', f_X8_begin Mx o = some Mx' ∧ f_X10_begin Mm = some Mm' ∧ WS (o, k, C, (gI Mx 15 6, gI Mm 100 53), gI Mm 100 26, Bx, Bm) (fun _ => 0) 0 0 Mx' Mm' := by
  have h9 := hV.1
  have hm : ∃ Mm', f_X10_begin Mm = some Mm' ∧ FM Mm Mm' ∧ MH Mm' k C ∧ (gI Mm' 100 53 = gI Mm 100 53 ∧ gI Mm' 100 26 = gI Mm 100 26) ∧ (gI Mm' 100 29 = nI 0 ∧ gI Mm' 100 30 = nI (cGr C 0) ∧ gI Mm' 100 31 = nI 0 ∧ gI Mm' 100 32 = nI 0 ∧ gI Mm' 100 33 = nI 0) ∧ ∀ s, s < 9 → gA Mm' 100 27 s = nI 0 ∧ gA Mm' 100 28 s = -1000 := by
    unfold f_X10_begin f_X10_begin_2
    refine lpU_inv (fun i a => ∃ M', a = (nI i, M') ∧ FK 100 (fun b => b == 27 || b == 28) Mm M' ∧ ∀ s, s < i → gA M' 100 27 s = nI 0 ∧ gA M' 100 28 s = -1000) 9 (fun x => ∃ Mm', x = some Mm' ∧ FM Mm Mm' ∧ MH Mm' k C ∧ (gI Mm' 100 53 = gI Mm 100 53 ∧ gI Mm' 100 26 = gI Mm 100 26) ∧ (gI Mm' 100 29 = nI 0 ∧ gI Mm' 100 30 = nI (cGr C 0) ∧ gI Mm' 100 31 = nI 0 ∧ gI Mm' 100 32 = nI 0 ∧ gI Mm' 100 33 = nI 0) ∧ ∀ s, s < 9 → gA Mm' 100 27 s = nI 0 ∧ gA Mm' 100 28 s = -1000) (by omega) ?_ ?_ 0 _ (Nat.zero_le _) ⟨Mm, rfl, FK_rf Mm, fun s h => by omega⟩
    · rintro rc a ⟨M1, rfl, hf, ht⟩
      show ∃ M', b_X10_begin_2 _ (nI 9) M1 = _ ∧ _
      unfold b_X10_begin_2
      have hH1 := MH_FK hH hf rfl
      have hH2 : MH (sI M1 100 29 (nI 0)) k C := mH_sI hH1 (by omega)
      have eo : f_X10_of (sI M1 100 29 (nI 0)) (nI 38) = some (nI (cGr C 0)) := by
        obtain ⟨hk, y0, -, -, -, -, -, -, m4⟩ := hH2
        rw [of_v y0 hk (by omega)]
        exact congrArg some (m4 0 (by omega))
      rw [if_pos (nI_le (Nat.le_refl _) (by omega)), nm_s, eo, bn_s, nm_s, nm_s, nm_s, nm_s]
      refine ⟨_, rfl, ?_, mH_sI (mH_sI (mH_sI (mH_sI hH2 (by omega)) (by omega)) (by omega)) (by omega), ⟨hf.1 100 53, hf.1 100 26⟩, ⟨rfl, rfl, rfl, rfl, rfl⟩, fun s hs => ht s hs⟩
      exact FM_tr (FM_q hf (fun k hk => by simp; omega)) (FM_tr (FM_sI _) (FM_tr (FM_sI _) (FM_tr (FM_sI _) (FM_tr (FM_sI _) (FM_sI _)))))
    · rintro rc i a hi ⟨M1, rfl, hf, ht⟩
      refine Or.inr ?_
      show ∃ a', _ ∧ b_X10_begin_2 _ (nI i) M1 = _
      unfold b_X10_begin_2
      rw [if_neg (nI_ge hi (by omega)), gin_n (by omega) (by omega), ix_n (by omega), nm_s, gin_n (by omega) (by omega), nm_s, nI_add, nm_s]
      refine ⟨_, ⟨_, rfl, FK_tr hf (FK_tr (FK_sA M1 rfl) (FK_sA _ rfl)), fun s hs => ?_⟩, rfl⟩
      rw [gA_sA, if_neg (by omega), gA_sA, gA_sA]
      by_cases q : s = i
      · rw [if_pos ⟨rfl, rfl, q⟩, if_pos ⟨rfl, rfl, q⟩]
        exact ⟨rfl, rfl⟩
      · rw [if_neg (fun z => q z.2.2), if_neg (fun z => q z.2.2), gA_sA, if_neg (by omega)]
        exact ht s (by omega)
  obtain ⟨Mm', e1, e2, e3, ⟨e4, e5⟩, ⟨e6, e7, e8, e9, e10⟩, e11⟩ := hm
  have hfx2 : FX Mx (flA (flA (sI (sI (sI (sI (sI (sR Mx 15 0 o) 15 1 (nI 0)) 15 2 (nI (cGr C 0))) 15 3 (nI 0)) 15 4 (nI 0)) 15 5 (nI 0)) 15 7 9 (nI 0)) 15 8 9 (nI 0)) := FX_tr (FX_sR _) (FX_tr (FX_sI _ (by omega)) (FX_tr (FX_sI _ (by omega)) (FX_tr (FX_sI _ (by omega)) (FX_tr (FX_sI _ (by omega)) (FX_tr (FX_sI _ (by omega)) (FX_tr (FX_flA _ (by omega)) (FX_flA _ (by omega))))))))
  refine ⟨_, Mm', ?_, e1, fun s hs => ?_, ⟨⟨?_, ?_, Nat.zero_le _⟩, ?_, ⟨?_, ?_, Nat.zero_le _⟩, ?_, ?_⟩, ⟨⟨?_, Or.inl ho⟩, ?_, e3, hV, ⟨?_, e4, e5⟩, FX_tr hfx hfx2, FM_tr hfm e2⟩⟩
  · unfold f_X8_begin
    have eg : gA (sI (sR Mx 15 0 o) 15 1 (nI 0)) o 6 0 = nI (cGr C 0) := hX.2.2.2.2 0 (by omega)
    rw [nm_s, nm_s, gin_n (by omega) (by omega), ix0, eg, nm_s, nm_s, nm_s, nm_s, nm_s, nm_s]
  · have h9' : s < 9 := by
      have : cN C ≤ 9 := h9
      have : s < cN C := hs
      omega
    have hst := (hV.2.2.1 s hs).1
    rw [gA_flA, if_neg (by omega), gA_flA, if_pos ⟨rfl, rfl, h9'⟩]
    exact ⟨rfl, (e11 s h9').1, Nat.zero_le _, Or.inr ⟨hst.1, (e11 s h9').2⟩⟩
  · rfl
  · exact e6
  · exact e7.symm
  · rfl
  · exact e8
  · exact e9.symm
  · exact e10.symm
  · rfl
  · exact CX_cg (hfx2 o (Or.inl ho)) hX
  · rfl
theorem deed_v {M : Mem} {l : Nat} {L : LifeA} (h26 : gI M 100 26 = nI l) (hl : l < 2) (hL : LM M (81 * l) L) (hV : LV L) {k : Nat} (hk : k < L.1) : f_X10_deedOf M (nI k) (nI 1) = some (L.2.2 k) ∧ f_X10_deedOf M (nI k) (nI 0) = some (nI (L.2.1 k)) := by
  have h40 := hV.1
  obtain ⟨a, b⟩ := hL.2 k hk
  unfold f_X10_deedOf
  rw [h26, pk_mul, nI_add, pk_mul, nI_add, nI_add, nI_add, gin_n (by omega) (by omega), ix_n (by omega), gin_n (by omega) (by omega), ix_n (by omega)]
  constructor
  · rw [show 81 * l + 1 + 2 * k + 1 = 81 * l + (1 + 2 * k + 1) by omega, b]
  · rw [show 81 * l + 1 + 2 * k + 0 = 81 * l + (1 + 2 * k) by omega, a]
theorem deeds_v {M : Mem} {l : Nat} {L : LifeA} (h26 : gI M 100 26 = nI l) (hl : l < 2) (hL : LM M (81 * l) L) : f_X10_deeds M = some (nI L.1) := by
  unfold f_X10_deeds
  rw [h26, pk_mul, gin_n (by omega) (by omega), ix_n (by omega), hL.1]
theorem w_lead {o k l n : Nat} {C : CoatA} {L : LifeA} {Bx Bm Mx Mm : Mem} (ho : o < 10) (hX : CX Mx o C) (hH : MH Mm k C) (hV : CV C) (hfx : FX Bx Mx) (hfm : FM Bm Mm) (hl : l < 2) (h26 : gI Mm 100 26 = nI l) (hLV : LV L) (hLX : LX Bx (4 + l) L) (hLM : LM Bm (81 * l) L) (hn : n ≤ L.1) : ∃ r Mx' Mm' hs d t, r ≤ n ∧ f_X8_lead Mx o (4 + l) (nI n) = some (nI r, Mx') ∧ f_X10_play Mm (nI n) = some (nI r, Mm') ∧ WS (o, k, C, (gI Mx 15 6, gI Mm 100 53), gI Mm 100 26, Bx, Bm) hs d t Mx' Mm' := by
  obtain ⟨M1, M2, e1, e2, e3⟩ := w_begin ho hX hH hV hfx hfm
  have h40 := hLV.1
  unfold f_X8_lead f_X10_play
  rw [e1, bn_s, e2, bn_s]
  unfold f_X8_lead_8 f_X10_play_6
  refine lpU_sim (fun i a b => ∃ Mx' Mm' hs d t, a = (nI i, Mx') ∧ b = (nI i, Mm') ∧ WS (o, k, C, (gI Mx 15 6, gI Mm 100 53), gI Mm 100 26, Bx, Bm) hs d t Mx' Mm') n (fun x m => ∃ r Mx' Mm' hs d t, r ≤ n ∧ x = some (nI r, Mx') ∧ m = some (nI r, Mm') ∧ WS (o, k, C, (gI Mx 15 6, gI Mm 100 53), gI Mm 100 26, Bx, Bm) hs d t Mx' Mm') (by omega) ?_ ?_ 0 _ _ (Nat.zero_le _) ⟨M1, M2, _, _, _, rfl, rfl, e3⟩
  · rintro rc rc' a b ⟨M3, M4, hs, d, t, rfl, rfl, hw⟩
    show ∃ r Mx' Mm' hs d t, r ≤ n ∧ b_X8_lead_8 o (4 + l) (nI n) _ (nI n) M3 = _ ∧ b_X10_play_6 (nI n) _ (nI n) M4 = _ ∧ _
    unfold b_X8_lead_8 b_X10_play_6 f_X8_lead_53
    have hL1 := LX_cg (hw.2.2.2.2.2.2.2.1 (4 + l) (by omega)) hLX
    rw [if_pos (nI_le (Nat.le_refl _) (by omega)), if_pos (nI_le (Nat.le_refl _) (by omega)), hL1.1, mn_n (by omega) (by omega), nm_s, Nat.min_eq_left hn]
    exact ⟨n, M3, M4, hs, d, t, Nat.le_refl _, rfl, rfl, hw⟩
  · rintro rc rc' i a b hi ⟨M3, M4, hs, d, t, rfl, rfl, hw⟩
    have hL1 := LX_cg (hw.2.2.2.2.2.2.2.1 (4 + l) (by omega)) hLX
    have hL2 := LM_cg (hw.2.2.2.2.2.2.2.2 7 (by omega)) hLM
    have hwl : gI M4 100 26 = nI l := hw.2.2.2.2.2.2.1.2.2.trans h26
    obtain ⟨d1, d0⟩ := deed_v hwl hl hL2 hLV (k := i) (by omega)
    have hv := hLV.2 i (by omega)
    have ha := w_act hw (kd := L.2.1 i) (nb := L.2.2 i) hv.1 hv.2.1 (nI i) d1 d0
    obtain ⟨r, M5, M6, hs', d', t', g1, g2, g3⟩ := ha
    show (∃ r Mx' Mm' hs d t, r ≤ n ∧ b_X8_lead_8 o (4 + l) (nI n) _ (nI i) M3 = _ ∧ b_X10_play_6 (nI n) _ (nI i) M4 = _ ∧ _) ∨ ∃ a' b', _ ∧ b_X8_lead_8 o (4 + l) (nI n) _ (nI i) M3 = _ ∧ b_X10_play_6 (nI n) _ (nI i) M4 = _
    unfold b_X8_lead_8 b_X10_play_6
    rw [if_neg (nI_ge hi (by omega)), if_neg (nI_ge hi (by omega)), hL1.1, if_neg (nI_ge (by omega) (by omega)), gin_n (by omega) (by omega), gin_n (by omega) (by omega), ix_n (by omega), (hL1.2 i (by omega)).1, (hL1.2 i (by omega)).2, g1, g2, bp_s, bp_s]
    cases r with
    | true =>
      right
      rw [if_pos rfl, if_pos rfl, nI_add, nm_s, nm_s]
      exact ⟨_, _, ⟨M5, M6, hs', d', t', rfl, rfl, g3⟩, rfl, rfl⟩
    | false =>
      left
      exact ⟨i, M5, M6, hs', d', t', by omega, rfl, rfl, g3⟩
theorem ml_fr (M : Mem) (k : Int32) : FM M (ml M k) := FM_sI M
/-- a coat and a life, on both sides -/
theorem layAll_cases {Mx Mm : Mem} (H : Rl Mx Mm) (a b : Int32) : ((∃ x y, f_X9_coatAt Mx a = some x ∧ f_X9_lifeAt Mx b = some y ∧ (x = none ∨ y = none)) ∧ ∃ M1, f_X10_layAll (sI Mm 100 0 (nI 0)) a b = some (false, M1) ∧ FM Mm M1) ∨ ∃ k C l L M1, k < 2 ∧ l < 2 ∧ CV C ∧ CX Mx (2 + k) C ∧ LV L ∧ LX Mx (4 + l) L ∧ LM Mm (81 * l) L ∧ f_X9_coatAt Mx a = some (some (2 + k)) ∧ f_X9_lifeAt Mx b = some (some (4 + l)) ∧ f_X10_layAll (sI Mm 100 0 (nI 0)) a b = some (true, M1) ∧ FM Mm M1 ∧ MH M1 k C ∧ gI M1 100 26 = nI l := by
  have h0 := FM_sI Mm (o := 100) (k := 0) (v := nI 0)
  have h1 := FM_tr h0 (ml_fr (sI Mm 100 0 (nI 0)) b)
  unfold f_X10_layAll
  rcases life_cases H b with ⟨e1, e2⟩ | ⟨l, L, hl, rfl, hLV, hLX, hLM, e1, e2⟩
  · rw [e2 _ h0]
    left
    rcases coat_cases H a with ⟨c1, c2⟩ | ⟨k, C, hk, rfl, hV, hX, hM, c1, c2⟩
    · exact ⟨⟨_, _, c1, e1, Or.inl rfl⟩, _, rfl, h1⟩
    · exact ⟨⟨_, _, c1, e1, Or.inr rfl⟩, _, rfl, h1⟩
  · rw [e2 _ h0, bp_s, if_pos rfl]
    rcases coat_cases H a with ⟨c1, c2⟩ | ⟨k, C, hk, rfl, hV, hX, hM, c1, c2⟩
    · left
      rw [c2 _ h1]
      exact ⟨⟨_, _, c1, e1, Or.inl rfl⟩, _, rfl, h1⟩
    · right
      rw [c2 _ h1]
      exact ⟨k, C, l, L, _, hk, hl, hV, hX, hLV, hLX, hLM, c1, e1, rfl, FM_tr h1 (FM_mh _ k C), mh_MH hk (CM_cg rfl hM), rfl⟩
theorem q_stop {Mx Mm : Mem} (H : Rl Mx Mm) (a b : Int32) : EqI Mx Mm (f_X9_stop Mx a b) (f_X10_stop Mm a b) := by
  unfold f_X9_stop f_X10_stop
  rw [nm_s]
  rcases layAll_cases H a b with ⟨⟨x, y, e1, e2, e3⟩, M1, e4, e5⟩ | ⟨k, C, l, L, M1, hk, hl, hV, hX, hLV, hLX, hLM, e1, e2, e3, e4, e5, e6⟩
  · rw [e1, bn_s, e2, bn_s, e4, bp_s]
    have hR := Rl_fr H (FX_rf Mx) e5
    rcases e3 with rfl | rfl
    · exact ⟨_, _, _, rfl, rfl, hR⟩
    · cases x with
      | none => exact ⟨_, _, _, rfl, rfl, hR⟩
      | some x => exact ⟨_, _, _, rfl, rfl, hR⟩
  · obtain ⟨r, M2, M3, hs, d, t, g1, g2, g3, g4⟩ := w_lead (o := 2 + k) (by omega) hX e5 hV (FX_rf Mx) e4 hl e6 hLV hLX hLM (Nat.le_refl _)
    have hd := deeds_v e6 hl (LM_cg (e4 7 (by omega)) hLM)
    rw [e1, bn_s, e2, bn_s, opt_some, opt_some, e3, bp_s, if_pos rfl, hd, bn_s, hLX.1, g2, g3]
    exact ⟨_, _, _, rfl, rfl, Rl_fr H g4.2.2.2.2.2.2.2.1 g4.2.2.2.2.2.2.2.2⟩
theorem q_state {Mx Mm : Mem} (H : Rl Mx Mm) (a b n w : Int32) : EqI Mx Mm (f_X9_state Mx a b n w) (f_X10_state Mm a b n w) := by
  unfold f_X9_state f_X10_state
  rw [nm_s]
  rcases layAll_cases H a b with ⟨⟨x, y, e1, e2, e3⟩, M1, e4, e5⟩ | ⟨k, C, l, L, M1, hk, hl, hV, hX, hLV, hLX, hLM, e1, e2, e3, e4, e5, e6⟩
  · rw [e1, bn_s, e2, bn_s, e4, bp_s]
    have hR := Rl_fr H (FX_rf Mx) e5
    rcases e3 with rfl | rfl
    · exact ⟨_, _, _, rfl, rfl, hR⟩
    · cases x with
      | none => exact ⟨_, _, _, rfl, rfl, hR⟩
      | some x => exact ⟨_, _, _, rfl, rfl, hR⟩
  · have hd := deeds_v e6 hl (LM_cg (e4 7 (by omega)) hLM)
    have hR := Rl_fr H (FX_rf Mx) e4
    have h40 := hLV.1
    rw [e1, bn_s, e2, bn_s, opt_some, opt_some, e3, bp_s, if_pos rfl, hd, bn_s, hLX.1]
    rcases int_cases n with hn | ⟨n, hn, rfl⟩
    · rw [in_neg hn 0 (by omega), if_pos (show n < nI 0 from hn)]
      exact ⟨_, _, _, rfl, rfl, hR⟩
    rw [in_n hn (by omega) (by omega), bn_s, if_neg (n_nneg hn), ite_p (lt_n (by omega) hn)]
    by_cases c : n ≤ L.1
    · obtain ⟨r, M2, M3, hs, d, t, g1, g2, g3, g4⟩ := w_lead (o := 2 + k) (by omega) hX e5 hV (FX_rf Mx) e4 hl e6 hLV hLX hLM c
      have hR2 := Rl_fr H g4.2.2.2.2.2.2.2.1 g4.2.2.2.2.2.2.2.2
      rw [if_pos (dT (by omega)), if_neg (by omega), g2, bp_s, g3, bp_s, ite_p (le_n (by omega) (by omega)), ite_p (eq_n (by omega) (by omega))]
      by_cases c2 : r = n
      · obtain ⟨v, k1, k2⟩ := w_tell g4 w
        rw [if_pos (by omega), if_pos c2, k1, k2]
        exact ⟨_, _, _, rfl, rfl, hR2⟩
      · rw [if_neg (by omega), if_neg c2]
        exact ⟨_, _, _, rfl, rfl, hR2⟩
    · rw [if_neg (dF (by omega)), if_pos (by omega)]
      exact ⟨_, _, _, rfl, rfl, hR⟩
/-! drawn -/
theorem ushr_v (x : Int32) : ∃ a, a < 65536 ∧ ushr x (nI 16) = nI a := by
  have h := pk_ushr x (nI 16) 16 (by decide +kernel)
  refine ⟨x.toBitVec.toNat / 2 ^ 16, ?_, ?_⟩
  · have := x.toBitVec.isLt
    omega
  · apply Int32.toBitVec_inj.mp
    apply BitVec.eq_of_toNat_eq
    have e : (ushr x (nI 16)).toBitVec.toNat = x.toBitVec.toNat / 2 ^ 16 := h
    rw [e]
    have := x.toBitVec.isLt
    have e2 : (nI (x.toBitVec.toNat / 2 ^ 16)).toBitVec.toNat = x.toBitVec.toNat / 2 ^ 16 % 2 ^ 32 := by simp [nI]
    rw [e2]
    omega
def lcg (x : Int32) : Int32 := x * nI 1103515245 + nI 12345
theorem lcg_e (x : Int32) : x * nI 1103515245 + nI 12345 = lcg x := rfl
theorem nextX_v {M : Mem} {s : Int32} (h : gI M 15 6 = s) {n v : Nat} (hn : 1 ≤ n ∧ n ≤ 10) (hv : v < 65536) (ev : ushr (lcg s) (nI 16) = nI v) : f_X8_next M (nI n) = some (nI (v % n), sI M 15 6 (lcg s)) := by
  unfold f_X8_next
  rw [h, lcg_e]
  generalize lcg s = X at ev ⊢
  have e : gI (sI M 15 6 X) 15 6 = X := rfl
  rw [nm_s, if_pos (nI_le hn.1 (by omega)), gnz_n (by omega) (by omega), e, ev, rem_n (by omega) (by omega) (by omega)]
theorem nextM_v {M : Mem} {s : Int32} (h : gI M 100 53 = s) {n v : Nat} (hn : 1 ≤ n ∧ n ≤ 10) (hv : v < 65536) (ev : ushr (lcg s) (nI 16) = nI v) : f_X10_draw M (nI n) = some (nI (v % n), sI M 100 53 (lcg s)) := by
  unfold f_X10_draw
  rw [h, lcg_e]
  generalize lcg s = X at ev ⊢
  have e : gI (sI M 100 53 X) 100 53 = X := rfl
  rw [nm_s, gnz_n (by omega) (by omega), e, ev, rem_n (by omega) (by omega) (by omega)]
def sdp (p : WP) (s : Int32) : WP := (pO p, pK p, pC p, (s, s), pL' p, pX p, pM p)
section Life
variable {p : WP} {hs : Nat → Nat} {d t : Nat} {Mx Mm : Mem} {sg : Int32}
theorem w_seed (h : WS (sdp p sg) hs d t Mx Mm) (X : Int32) : WS (sdp p X) hs d t (sI Mx 15 6 X) (sI Mm 100 53 X) := by
  obtain ⟨a, b, ⟨⟨c1, c1'⟩, c2, c3, c4, ⟨c5, c6, c7⟩, c8, c9⟩⟩ := h
  exact ⟨a, b, ⟨⟨c1, c1'⟩, cX_sI c2 c1', mH_sI c3 (by omega), c4, ⟨rfl, rfl, c7⟩, FX_tr c8 (FX_sI _ (by omega)), FM_tr c9 (FM_sI _)⟩⟩
theorem w_next (h : WS (sdp p sg) hs d t Mx Mm) {n : Nat} (hn : 1 ≤ n ∧ n ≤ 10) : ∃ r sg' Mx' Mm', r < n ∧ f_X8_next Mx (nI n) = some (nI r, Mx') ∧ f_X10_draw Mm (nI n) = some (nI r, Mm') ∧ WS (sdp p sg') hs d t Mx' Mm' := by
  have c5' : gI Mx 15 6 = sg := h.2.2.2.2.2.2.1.1
  have c6' : gI Mm 100 53 = sg := h.2.2.2.2.2.2.1.2.1
  obtain ⟨v, hv, ev⟩ := ushr_v (lcg sg)
  exact ⟨v % n, lcg sg, sI Mx 15 6 (lcg sg), sI Mm 100 53 (lcg sg), Nat.mod_lt _ (by omega), nextX_v c5' hn hv ev, nextM_v c6' hn hv ev, w_seed h (lcg sg)⟩
theorem act_0 (M : Mem) (x : Int32) : f_X8_act M (nI 0) x = f_X8_stitch M x := by
  unfold f_X8_act
  rw [if_pos rfl]
  cases f_X8_stitch M x with
  | none => rfl
  | some a => rfl
theorem act_1 (M : Mem) (x : Int32) : f_X8_act M (nI 1) x = f_X8_unpick M x := by
  unfold f_X8_act
  rw [if_neg (ne_n (a := 1) (b := 0) (by omega) (by omega) (by omega)), if_pos rfl]
  cases f_X8_unpick M x with
  | none => rfl
  | some a => rfl
theorem act_3 (M : Mem) (x : Int32) : f_X8_act M (nI 3) x = f_X8_widen M x := by
  unfold f_X8_act
  rw [if_neg (ne_n (a := 3) (b := 0) (by omega) (by omega) (by omega)), if_neg (ne_n (a := 3) (b := 1) (by omega) (by omega) (by omega)), if_neg (ne_n (a := 3) (b := 2) (by omega) (by omega) (by omega)), if_pos rfl]
  cases f_X8_widen M x with
  | none => rfl
  | some a => rfl
theorem act_5 (M : Mem) (x : Int32) : f_X8_act M (nI 5) x = f_X8_sleep M := by
  unfold f_X8_act
  rw [if_neg (ne_n (a := 5) (b := 0) (by omega) (by omega) (by omega)), if_neg (ne_n (a := 5) (b := 1) (by omega) (by omega) (by omega)), if_neg (ne_n (a := 5) (b := 2) (by omega) (by omega) (by omega)), if_neg (ne_n (a := 5) (b := 3) (by omega) (by omega) (by omega)), if_neg (ne_n (a := 5) (b := 4) (by omega) (by omega) (by omega)), if_pos rfl]
  cases f_X8_sleep M with
  | none => rfl
  | some a => rfl
theorem w_drawn (h : WS (sdp p sg) hs d t Mx Mm) (n : Nat) (i : Nat) (hi : i < n) (hn : n < 1000) (z : Int32) (rc : Int32 → Mem → Option Mem) : ∃ sg' Mx' Mm' hs' d' t', b_X8_draw_13 (pO p) z (nI n) rc (nI i) Mx = rc (nI (i + 1)) Mx' ∧ f_X10_drawDeed Mm = some Mm' ∧ WS (sdp p sg') hs' d' t' Mx' Mm' := by
  unfold b_X8_draw_13 f_X10_drawDeed
  obtain ⟨r, s1, M1, M2, g1, g2, g3, g4⟩ := w_next h (n := 10) (by omega)
  rw [if_neg (nI_ge hi (by omega)), g2, bp_s, g3, bp_s, ite_p (lt_n (by omega) (by omega)), ite_p (le_n (by omega) (by omega)), ite_p (eq_n (a := r) (b := 7) (by omega) (by omega)), ite_p (eq_n (a := r) (b := 7) (by omega) (by omega)), ite_p (eq_n (a := r) (b := 6) (by omega) (by omega))]
  have e99 : ∀ M, f_X8_draw_99 (pO p) z (nI n) rc (nI i) M = rc (nI (i + 1)) M := by
    intro M
    unfold f_X8_draw_99
    rw [nI_add, nm_s]
  by_cases c1 : 6 < r
  · rw [if_pos c1]
    by_cases c2 : r = 7
    · obtain ⟨r2, s2, M3, M4, k1, k2, k3, k4⟩ := w_next g4 (n := 3) (by omega)
      obtain ⟨M5, M6, hs', k5, k6, k7⟩ := w_grow k4 (nI (1 + r2))
      rw [if_pos c2, if_pos (by omega), if_pos c2, k2, bp_s, k3, bp_s, act_3, nI_add, k5, bp_s, k6, bn_s, e99]
      exact ⟨_, _, _, _, _, _, rfl, rfl, k7⟩
    · obtain ⟨r2, M5, M6, hs', d', t', k5, k6, k7⟩ := w_sleep g4
      rw [if_neg c2, if_neg (by omega), act_5, k5, bp_s, k6, bp_s, e99]
      exact ⟨_, _, _, _, _, _, rfl, rfl, k7⟩
  · have h9 := g4.2.2.2.2.2.1.1
    have e0 : gI M1 (pO p) 0 = nI (cN (pC (sdp p s1))) := g4.2.2.2.1.1
    rw [if_neg c1, if_pos (show r ≤ 7 by omega), if_neg (show ¬ r = 7 by omega), e0, g4.2.2.2.2.1.2.2.1, ite_p (le_n (by omega) (by omega)), ite_p (le_n (by omega) (by omega))]
    by_cases c3 : cN (pC (sdp p s1)) ≤ 0
    · rw [if_pos c3, if_pos c3, e99]
      exact ⟨_, _, _, _, _, _, rfl, rfl, g4⟩
    · obtain ⟨r2, s2, M3, M4, k1, k2, k3, k4⟩ := w_next g4 (n := cN (pC (sdp p s1))) (by omega)
      rw [if_neg c3, if_neg c3, k3, bp_s]
      unfold f_X8_draw_54
      rw [e0, k2, bp_s, bp_s]
      by_cases c4 : r = 6
      · obtain ⟨r3, M5, M6, hs', d', t', k5, k6, k7⟩ := w_unpick k4 (s := r2) (by omega)
        rw [if_pos c4, if_pos (nI_le (by omega) (by omega)), show b2i true = nI 1 from rfl, act_1, k5, bp_s, k6, bp_s]
        refine ⟨_, _, _, _, _, _, e99 _, rfl, k7⟩
      · obtain ⟨r3, M5, M6, hs', d', t', k5, k6, k7⟩ := w_stitch k4 (s := r2) (by omega)
        rw [if_neg c4, if_neg (nI_ge (by omega) (by omega)), show b2i false = nI 0 from rfl, act_0, k5, bp_s, k6, bp_s]
        refine ⟨_, _, _, _, _, _, e99 _, rfl, k7⟩
end Life
theorem q_drawn {Mx Mm : Mem} (H : Rl Mx Mm) (a s n w : Int32) : EqI Mx Mm (f_X9_drawn Mx a s n w) (f_X10_drawn Mm a s n w) := by
  have h0 := FM_sI Mm (o := 100) (k := 0) (v := nI 0)
  unfold f_X9_drawn f_X10_drawn
  rw [nm_s]
  rcases coat_cases H a with ⟨e1, e2⟩ | ⟨k, C, hk, rfl, hV, hX, hM, e1, e2⟩
  · rw [e1, bn_s, opt_none]
    rcases int_cases n with hn | ⟨n, hn, rfl⟩
    · rw [in_neg hn 0 (by omega)]
      exact ⟨_, _, _, rfl, rfl, Rl_fr H (FX_rf Mx) h0⟩
    rw [in_n hn (by omega) (by omega), bn_s]
    by_cases c : 0 ≤ n ∧ n ≤ 60
    · rw [if_pos (dT c), e2 _ h0]
      exact ⟨_, _, _, rfl, rfl, Rl_fr H (FX_rf Mx) h0⟩
    · rw [if_neg (dF c)]
      exact ⟨_, _, _, rfl, rfl, Rl_fr H (FX_rf Mx) h0⟩
  · rw [e1, bn_s, opt_some]
    rcases int_cases n with hn | ⟨n, hn, rfl⟩
    · rw [in_neg hn 0 (by omega), if_pos (show n < nI 0 from hn)]
      exact ⟨_, _, _, rfl, rfl, Rl_fr H (FX_rf Mx) h0⟩
    rw [in_n hn (by omega) (by omega), bn_s, if_neg (n_nneg hn), ite_p (le_n hn (by omega))]
    by_cases c : n ≤ 60
    · have hH := mh_MH (M := sI Mm 100 0 (nI 0)) hk (CM_cg rfl hM)
      have hF := FM_tr h0 (FM_mh (sI Mm 100 0 (nI 0)) k C)
      obtain ⟨M1, M2, g1, g2, g3⟩ := w_begin (o := 2 + k) (Bx := Mx) (Bm := Mm) (Mx := Mx) (Mm := sI (mh (sI Mm 100 0 (nI 0)) k C) 100 53 s) (by omega) hX (mH_sI hH (by omega)) hV (FX_rf Mx) (FM_tr hF (FM_sI _))
      have hp : WS (sdp (2 + k, k, C, (s, s), gI (sI (mh (sI Mm 100 0 (nI 0)) k C) 100 53 s) 100 26, Mx, Mm) s) (fun _ => 0) 0 0 (sI M1 15 6 s) M2 := by
        obtain ⟨a, b, ⟨⟨c1, c1'⟩, c2, c3, c4, ⟨c5, c6, c7⟩, c8, c9⟩⟩ := g3
        exact ⟨a, b, ⟨⟨c1, c1'⟩, cX_sI c2 c1', c3, c4, ⟨rfl, c6, c7⟩, FX_tr c8 (FX_sI _ (by omega)), c9⟩⟩
      rw [if_pos c, if_pos (dT (by omega)), e2 _ h0, bp_s, if_pos rfl, nm_s, g2, bn_s]
      unfold f_X8_draw
      rw [g1, bn_s, nm_s]
      have hP : ∃ r Mx' Mm', (∃ M3, f_X8_draw_13 (2 + k) s (nI n) FU (nI 0, sI M1 15 6 s) = some M3 ∧ f_X8_tell M3 w = some r ∧ M3 = Mx') ∧ f_X10_drawn_39 (nI k) s (nI n) w FU (nI 0, M2) = some (r, Mm') ∧ FX Mx Mx' ∧ FM Mm Mm' := by
        unfold f_X8_draw_13 f_X10_drawn_39
        generalize eP : ((2 + k, k, C, (s, s), gI (sI (mh (sI Mm 100 0 (nI 0)) k C) 100 53 s) 100 26, Mx, Mm) : WP) = p at hp
        have po : pO p = 2 + k := by rw [← eP]; rfl
        have px : pX p = Mx := by rw [← eP]; rfl
        have pm : pM p = Mm := by rw [← eP]; rfl
        refine lpU_sim (fun i a b => ∃ sg M3 M4 hs d t, a = (nI i, M3) ∧ b = (nI i, M4) ∧ WS (sdp p sg) hs d t M3 M4) n (fun x m => ∃ r Mx' Mm', (∃ M3, x = some M3 ∧ f_X8_tell M3 w = some r ∧ M3 = Mx') ∧ m = some (r, Mm') ∧ FX Mx Mx' ∧ FM Mm Mm') (by omega) ?_ ?_ 0 _ _ (Nat.zero_le _) ⟨s, _, _, _, _, _, rfl, rfl, hp⟩
        · rintro rc rc' a b ⟨sg, M3, M4, hs, d, t, rfl, rfl, hw⟩
          show ∃ r Mx' Mm', (∃ M3', b_X8_draw_13 (2 + k) s (nI n) _ (nI n) M3 = some M3' ∧ _) ∧ b_X10_drawn_39 (nI k) s (nI n) w _ (nI n) M4 = _ ∧ _
          unfold b_X8_draw_13 b_X10_drawn_39
          obtain ⟨r, g1, g2⟩ := w_tell hw w
          have f1 : FX Mx M3 := by rw [← px]; exact hw.2.2.2.2.2.2.2.1
          have f2 : FM Mm M4 := by rw [← pm]; exact hw.2.2.2.2.2.2.2.2
          rw [if_pos (nI_le (Nat.le_refl _) (by omega)), if_pos (nI_le (Nat.le_refl _) (by omega)), g2, bn_s]
          exact ⟨r, M3, M4, ⟨M3, rfl, g1, rfl⟩, rfl, f1, f2⟩
        · rintro rc rc' i a b hi ⟨sg, M3, M4, hs, d, t, rfl, rfl, hw⟩
          right
          show ∃ a' b', _ ∧ b_X8_draw_13 (2 + k) s (nI n) _ (nI i) M3 = _ ∧ b_X10_drawn_39 (nI k) s (nI n) w _ (nI i) M4 = _
          obtain ⟨sg', M5, M6, hs', d', t', g1, g2, g3⟩ := w_drawn hw n i hi (by omega) s (fun x0 x1 => rc (x0, x1))
          rw [po] at g1
          unfold b_X10_drawn_39
          rw [if_neg (nI_ge hi (by omega)), g2, bn_s, nI_add, nm_s]
          exact ⟨_, _, ⟨sg', M5, M6, hs', d', t', rfl, rfl, g3⟩, g1, rfl⟩
      obtain ⟨r, M3, M4, ⟨M5, k1, k2, rfl⟩, k3, k4, k5⟩ := hP
      rw [k1, bn_s, k2, k3]
      exact ⟨_, _, _, rfl, rfl, Rl_fr H k4 k5⟩
    · rw [if_neg c, if_neg (dF (by omega))]
      exact ⟨_, _, _, rfl, rfl, Rl_fr H (FX_rf Mx) h0⟩
