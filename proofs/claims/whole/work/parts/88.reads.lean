/-! TEXTS: before the first line, behind the last one -/
def bl19 (a j : Nat) : Int32 := if a = 0 ∧ j = 1 then nI 1 else if a = 2 ∧ j = 1 then nI 3 else if a = 2 ∧ j = 2 then nI 2 else if a = 2 ∧ 29 ≤ j ∧ j ≤ 40 then -1 else nI 0
theorem blank_v {M : Mem} {a : Nat} (ha : a < 4) : ∃ f, f_X10_blank M (nI a) = some (wA M 100 19 f) ∧ ∀ j, j < 138 → f j = bl19 a j := by
  unfold f_X10_blank f_X10_blank_2
  refine lpU_inv (fun i q => ∃ f, q = (nI i, wA M 100 19 f) ∧ ∀ j, j < i → f j = if a = 2 ∧ 29 ≤ j ∧ j ≤ 40 then -1 else nI 0) 138 (fun z => ∃ f, z = some (wA M 100 19 f) ∧ ∀ j, j < 138 → f j = bl19 a j) (by omega) ?_ ?_ 0 _ (Nat.zero_le _) ⟨gA M 100 19, by rw [wA_self], fun j hj => by omega⟩
  · rintro rc q ⟨f, rfl, hf⟩
    show ∃ f', b_X10_blank_2 (nI a) _ (nI 138) (wA M 100 19 f) = some (wA M 100 19 f') ∧ _
    unfold b_X10_blank_2 f_X10_blank_53
    have hs : ∀ g j v, sA (wA M 100 19 g) 100 19 j v = wA M 100 19 (upd g j v) := fun g j v => by
      unfold sA
      rw [gA_wA, wA_wA]
    rw [if_pos (nI_le (Nat.le_refl _) (by omega)), ite_p (eq_n (by omega) (by omega)), ite_p (eq_n (by omega) (by omega))]
    by_cases p : a = 0
    · rw [if_pos p, gin_n (by omega) (by omega), ix_n (by omega), nm_s, if_neg (ne_n (show ¬ a = 2 by omega) (by omega) (by omega)), hs]
      refine ⟨_, rfl, fun j hj => ?_⟩
      unfold upd bl19
      by_cases q : j = 1
      · rw [if_pos q, if_pos ⟨p, q⟩]
      · rw [if_neg q, if_neg (fun z => q z.2), if_neg (by omega), if_neg (by omega), hf j hj]
    · rw [if_neg p]
      by_cases p2 : a = 2
      · rw [if_pos p2, gin_n (by omega) (by omega), ix_n (by omega), nm_s, gin_n (by omega) (by omega), ix_n (by omega), nm_s, hs, hs]
        refine ⟨_, rfl, fun j hj => ?_⟩
        unfold upd bl19
        by_cases q2 : j = 2
        · rw [if_pos q2, if_neg (by omega), if_neg (by omega), if_pos ⟨p2, q2⟩]
        · rw [if_neg q2]
          by_cases q : j = 1
          · rw [if_pos q, if_neg (by omega), if_pos ⟨p2, q⟩]
          · rw [if_neg q, if_neg (by omega), if_neg (by omega), if_neg (by omega), hf j hj]
      · rw [if_neg p2]
        refine ⟨f, rfl, fun j hj => ?_⟩
        unfold bl19
        rw [if_neg (by omega), if_neg (by omega), if_neg (by omega), hf j hj]
  · rintro rc i q hi ⟨f, rfl, hf⟩
    right
    have hs : ∀ g j v, sA (wA M 100 19 g) 100 19 j v = wA M 100 19 (upd g j v) := fun g j v => by
      unfold sA
      rw [gA_wA, wA_wA]
    have step : ∀ v, v = (if a = 2 ∧ 29 ≤ i ∧ i ≤ 40 then -1 else nI 0) → b_X10_blank_2 (nI a) (fun x0 x1 => rc (x0, x1)) (nI i) (wA M 100 19 f) = rc (nI (i + 1), wA M 100 19 (upd f i v)) := by
      intro v hv
      unfold b_X10_blank_2 f_X10_blank_34 f_X10_blank_35
      rw [if_neg (nI_ge hi (by omega)), ite_p (eq_n (by omega) (by omega)), in_n (by omega) (by omega) (by omega), bn_s]
      by_cases p : a = 2
      · rw [if_pos p]
        by_cases p2 : 29 ≤ i ∧ i ≤ 40
        · rw [if_pos (by simp only [decide_eq_true_eq]; exact p2), gin_n (by omega) (by omega), ix_n (by omega), nm_s, nI_add, nm_s, hs, hv, if_pos ⟨p, p2⟩]
        · rw [if_neg (by simp only [decide_eq_true_eq]; exact p2)]
          show gin (nI i) 138 (nm (sA (wA M 100 19 f) 100 19 (ix (nI i)) (nI 0)) fun M2 => nm (nI i + nI 1) fun v3 => rc (v3, M2)) = _
          rw [gin_n (by omega) (by omega), ix_n (by omega), nm_s, nI_add, nm_s, hs, hv, if_neg (fun z => p2 z.2)]
      · rw [if_neg p]
        show gin (nI i) 138 (nm (sA (wA M 100 19 f) 100 19 (ix (nI i)) (nI 0)) fun M2 => nm (nI i + nI 1) fun v3 => rc (v3, M2)) = _
        rw [gin_n (by omega) (by omega), ix_n (by omega), nm_s, nI_add, nm_s, hs, hv, if_neg (fun z => p z.1)]
    refine ⟨_, ⟨upd f i (if a = 2 ∧ 29 ≤ i ∧ i ≤ 40 then -1 else nI 0), rfl, fun j hj => ?_⟩, step _ rfl⟩
    unfold upd
    by_cases q : j = i
    · rw [if_pos q, q]
    · rw [if_neg q]
      exact hf j (by omega)
/-- the class's spare objects at the beginning -/
def IX (M : Mem) : Prop := gI M 10 11 = nI 0 ∧ (gI M 11 0 = nI 0 ∧ gI M 11 1 = nI 1 ∧ (∀ s, s < 9 → gA M 11 5 s = nI 0) ∧ ∀ d, d < 100 → gA M 11 6 d = nI 0) ∧ gI M 12 0 = nI 0 ∧ (gI M 13 0 = nI 0 ∧ gI M 13 1 = nI 0 ∧ gI M 13 2 = nI 3 ∧ gI M 13 3 = nI 2 ∧ gI M 13 4 = nI 0 ∧ ∀ w, w < 6 → gA M 13 9 w = -1 ∧ gA M 13 10 w = -1) ∧ gI M 14 0 = nI 0
section Reads
variable {tb : Nat → Nat} {tl : Nat} {M : Mem}
theorem init_x {a : Nat} (ht : tl ≤ 600) (hb : ∀ j, j < tl → byN (gA M 1 0 j) = tb j) : ∃ M1, FX M M1 ∧ XTk tb tl 0 M1 ∧ FPx M1 (0, 0) ∧ IX M1 ∧ f_X2_read M (nI a) 1 (nI tl) = f_X2_read_72 (nI a) 1 (nI tl) FU (nI 0, M1) := by
  have hmn : mnI (nI tl) (nI 600) = nI tl := by
    unfold mnI
    rw [ite_p (lt_n (by omega) (by omega)), if_neg (by omega)]
  obtain ⟨M0, hM0⟩ : ∃ M0, M0 = sI (sI (sI (sI (sI (sI (sR M 10 6 1) 10 7 (nI tl)) 10 10 (nI 0)) 10 11 (nI 0)) 10 12 (nI 0)) 10 13 (-1)) 11 0 (nI 0) := ⟨_, rfl⟩
  obtain ⟨M2, hM2⟩ : ∃ M2, M2 = flA (flA (sI M0 11 1 (nI 1)) 11 5 9 (nI 0)) 11 6 100 (nI 0) := ⟨_, rfl⟩
  obtain ⟨M3, hM3⟩ : ∃ M3, M3 = sI (sI (sI (sI (sI (sI M2 12 0 (nI 0)) 13 0 (nI 0)) 13 1 (nI 0)) 13 2 (nI 3)) 13 3 (nI 2)) 13 4 (nI 0) := ⟨_, rfl⟩
  obtain ⟨M4, hM4⟩ : ∃ M4, M4 = sI (flA (flA M3 13 9 6 (-1)) 13 10 6 (-1)) 14 0 (nI 0) := ⟨_, rfl⟩
  have e1 : f_X2_read M (nI a) 1 (nI tl) = bn (f_X2_step M4) fun M28 => f_X2_read_72 (nI a) 1 (nI tl) FU (nI 0, M28) := by
    unfold f_X2_read f_X0_clear f_X6_clear
    rw [hmn, hM4, hM3, hM2, hM0]
    rfl
  have hF : FX M M4 := by
    rw [hM4, hM3, hM2, hM0]
    exact FX_tr (FX_sR _) (FX_tr (FX_sI _ (by omega)) (FX_tr (FX_sI _ (by omega)) (FX_tr (FX_sI _ (by omega)) (FX_tr (FX_sI _ (by omega)) (FX_tr (FX_sI _ (by omega)) (FX_tr (FX_sI _ (by omega)) (FX_tr (FX_sI _ (by omega)) (FX_tr (FX_flA _ (by omega)) (FX_tr (FX_flA _ (by omega)) (FX_tr (FX_sI _ (by omega)) (FX_tr (FX_sI _ (by omega)) (FX_tr (FX_sI _ (by omega)) (FX_tr (FX_sI _ (by omega)) (FX_tr (FX_sI _ (by omega)) (FX_tr (FX_sI _ (by omega)) (FX_tr (FX_flA _ (by omega)) (FX_tr (FX_flA _ (by omega)) (FX_sI _ (by omega)))))))))))))))))))
  have hX : XTp tb tl M4 := by
    refine ⟨?_, ?_, fun j hj => by rw [(hF 1 (by omega)).2]; exact hb j hj, ht⟩
    · rw [hM4, hM3, hM2, hM0]; rfl
    · rw [hM4, hM3, hM2, hM0]; rfl
  have h10 : gI M4 10 10 = nI 0 := by rw [hM4, hM3, hM2, hM0]; rfl
  obtain ⟨M5, s1, s2, s3⟩ := step_v hX (Nat.zero_le _) h10
  rw [e1, s1, bn_s]
  refine ⟨M5, FX_tr hF (FX_L (FLx_S s2)), s3, ⟨⟨by decide, by decide⟩, ?_, ?_⟩, ?_, rfl⟩
  · rw [s2.1 10 12 (by omega), hM4, hM3, hM2, hM0]; rfl
  · rw [s2.1 10 13 (by omega), hM4, hM3, hM2, hM0]; rfl
  · have i1 : IX M4 := by
      refine ⟨?_, ⟨?_, ?_, fun s hs => ?_, fun d hd => ?_⟩, ?_, ⟨?_, ?_, ?_, ?_, ?_, fun w hw => ⟨?_, ?_⟩⟩, ?_⟩
      · rw [hM4, hM3, hM2, hM0]; rfl
      · rw [hM4, hM3, hM2, hM0]; rfl
      · rw [hM4, hM3, hM2, hM0]; rfl
      · rw [hM4, hM3, hM2]
        show (if s < 9 then nI 0 else _) = nI 0
        rw [if_pos hs]
      · rw [hM4, hM3, hM2]
        show (if d < 100 then nI 0 else _) = nI 0
        rw [if_pos hd]
      · rw [hM4, hM3]; rfl
      · rw [hM4, hM3]; rfl
      · rw [hM4, hM3]; rfl
      · rw [hM4, hM3]; rfl
      · rw [hM4, hM3]; rfl
      · rw [hM4, hM3]; rfl
      · rw [hM4]
        show (if w < 6 then -1 else _) = -1
        rw [if_pos hw]
      · rw [hM4]
        show (if w < 6 then -1 else _) = -1
        rw [if_pos hw]
      · rw [hM4]; rfl
    have g : ∀ o k, 11 ≤ o → gI M5 o k = gI M4 o k := fun o k ho => s2.1 o k (by omega)
    obtain ⟨j1, ⟨j2, j3, j4, j5⟩, j6, ⟨j7, j8, j9, j10, j11, j12⟩, j13⟩ := i1
    refine ⟨by rw [s2.1 10 11 (by omega)]; exact j1, ⟨by rw [g 11 0 (by omega)]; exact j2, by rw [g 11 1 (by omega)]; exact j3, fun s hs => by rw [s2.2.1]; exact j4 s hs, fun d hd => by rw [s2.2.1]; exact j5 d hd⟩, by rw [g 12 0 (by omega)]; exact j6, ⟨by rw [g 13 0 (by omega)]; exact j7, by rw [g 13 1 (by omega)]; exact j8, by rw [g 13 2 (by omega)]; exact j9, by rw [g 13 3 (by omega)]; exact j10, by rw [g 13 4 (by omega)]; exact j11, fun w hw => by rw [s2.2.1, s2.2.1]; exact j12 w hw⟩, by rw [g 14 0 (by omega)]; exact j13⟩
def midM (a1 : Int32) (r23 : Bool) (M22 : Mem) : Option (Bool × Mem) := if r23 = true then (if (gI M22 100 17) = (nI 0) then (if a1 = (nI 0) then (f_X10_readText_50 a1 (fun x0 y => f_X10_readText_72 a1 x0 y) r23 M22) else (if a1 = (nI 2) then (f_X10_readText_50 a1 (fun x0 y => f_X10_readText_72 a1 x0 y) r23 M22) else (f_X10_readText_72 a1 r23 M22))) else (f_X10_readText_72 a1 r23 M22)) else (f_X10_readText_72 a1 r23 M22)
theorem init_m {a : Nat} (ha : a < 4) (h : MTq tb tl M) : ∃ M1, FM M M1 ∧ MTk tb tl 0 M1 ∧ FPm M1 (0, 0) ∧ gI M1 100 21 = farI 0 ∧ (∀ j, j < 138 → gA M1 100 19 j = bl19 a j) ∧ f_X10_readText M (nI a) = bp (f_X10_lines_2 (nI a) FU (true, M1)) (midM (nI a)) := by
  obtain ⟨f, b1, b2⟩ := blank_v (M := M) ha
  have hq : MTq tb tl (sI (sI (sI (wA M 100 19 f) 100 21 (-1)) 100 10 (nI 0)) 100 17 (nI 0)) := ⟨h.1, fun j hj => h.2.1 j hj, h.2.2⟩
  obtain ⟨M1, t1, t2, t3⟩ := token_v hq (Nat.zero_le _) (i := 0) rfl
  refine ⟨M1, FM_tr (FM_wA _ (by omega)) (FM_tr (FM_sI _) (FM_tr (FM_sI _) (FM_tr (FM_sI _) (fun k _ => t2.2 100 k)))), t3, ⟨by decide, ?_, fun z => absurd rfl z⟩, ?_, fun j hj => ?_, ?_⟩
  · rw [t2.1 100 17 (by omega)]; rfl
  · rw [t2.1 100 21 (by omega)]; rfl
  · rw [t2.2 100 19]
    exact b2 j hj
  · unfold f_X10_readText f_X10_lines
    rw [b1, bn_s, nm_s, nm_s, nm_s, t1, bn_s]
    rfl
/-- only the reference's FAULT and its place have been set -/
def FQm (M M' : Mem) : Prop := (∀ k, gI M' 100 k = gI M 100 k) ∧ (∀ k, ¬ k = 3 → ¬ k = 4 → gA M' 100 k = gA M 100 k) ∧ ∀ k j, 1 ≤ j → gA M' 100 k j = gA M 100 k j
theorem fin_t {a : Nat} {x : Nat × Nat} (h : FPm M x) : ∃ M', f_X10_readText_72 (nI a) true M = some (decide (x.1 = 0), M') ∧ FQm M M' ∧ gA M' 100 3 0 = nI x.1 ∧ gA M' 100 4 0 = if x.1 = 0 then -1 else nI x.2 := by
  obtain ⟨h1, h2, h3⟩ := h
  have fin : ∀ v, ∃ M', f_X10_readText_121 (nI a) false v (sA M 100 3 0 (nI x.1)) = some (decide (x.1 = 0), M') ∧ FQm M M' ∧ gA M' 100 3 0 = nI x.1 ∧ gA M' 100 4 0 = v := by
    intro v
    have e : f_X10_readText_121 (nI a) false v (sA M 100 3 0 (nI x.1)) = some (decide (x.1 = 0), sA (sA M 100 3 0 (nI x.1)) 100 4 0 v) := by
      unfold f_X10_readText_121
      rw [show b2i false = nI 0 from rfl, gin_n (by omega) (by omega), ix_n (by omega), nm_s, gin_n (by omega) (by omega), show gA (sA (sA M 100 3 0 (nI x.1)) 100 4 0 v) 100 3 0 = nI x.1 by rw [gA_sA, if_neg (by omega), gA_sA, if_pos ⟨rfl, rfl, rfl⟩], ite_p (eq_n (by omega) (by omega))]
      by_cases p : x.1 = 0
      · rw [if_pos p, decide_eq_true p]
      · rw [if_neg p, decide_eq_false p]
    refine ⟨_, e, ⟨fun k => rfl, fun k k3 k4 => ?_, fun k j hj => ?_⟩, ?_, ?_⟩
    · funext j
      rw [gA_sA, if_neg (by omega), gA_sA, if_neg (by omega)]
    · rw [gA_sA, if_neg (by omega), gA_sA, if_neg (by omega)]
    · rw [gA_sA, if_neg (by omega), gA_sA, if_pos ⟨rfl, rfl, rfl⟩]
    · rw [gA_sA, if_pos ⟨rfl, rfl, rfl⟩]
  unfold f_X10_readText_72 f_X10_readText_89
  rw [if_pos rfl, show b2i false = nI 0 from rfl, gin_n (by omega) (by omega), ix_n (by omega), nm_s, if_pos rfl, gI_sA, gI_sA, h2, ite_p (le_n (by omega) (by omega))]
  by_cases p : x.1 = 0
  · rw [if_pos (by omega), if_pos p]
    exact fin _
  · rw [if_neg (by omega), if_neg p, h3 p]
    exact fin _
theorem fin_f {a q : Nat} (h : gI M 100 16 = nI q) : ∃ M', f_X10_readText_72 (nI a) false M = some (false, M') ∧ FQm M M' ∧ gA M' 100 3 0 = nI 1 ∧ gA M' 100 4 0 = nI q := by
  have e : f_X10_readText_72 (nI a) false M = some (false, sA (sA M 100 3 0 (nI 1)) 100 4 0 (nI q)) := by
    unfold f_X10_readText_72 f_X10_readText_89 f_X10_readText_121
    rw [if_neg (by decide), show b2i false = nI 0 from rfl, gin_n (by omega) (by omega), ix_n (by omega), nm_s, if_neg (by decide), gin_n (by omega) (by omega), nm_s, gin_n (by omega) (by omega), gI_sA, h, show gA (sA (sA M 100 3 0 (nI 1)) 100 4 0 (nI q)) 100 3 0 = nI 1 by rw [gA_sA, if_neg (by omega), gA_sA, if_pos ⟨rfl, rfl, rfl⟩], if_neg (by decide)]
  refine ⟨_, e, ⟨fun k => rfl, fun k k3 k4 => ?_, fun k j hj => ?_⟩, ?_, ?_⟩
  · funext j
    rw [gA_sA, if_neg (by omega), gA_sA, if_neg (by omega)]
  · rw [gA_sA, if_neg (by omega), gA_sA, if_neg (by omega)]
  · rw [gA_sA, if_neg (by omega), gA_sA, if_pos ⟨rfl, rfl, rfl⟩]
  · rw [gA_sA, if_pos ⟨rfl, rfl, rfl⟩]
theorem end_f {a : Nat} {a3 : Int32} (h : gI M 10 12 = nI 1) : f_X2_read_106 (nI a) 1 a3 M = some M := by
  have hn : ∀ q, f_X2_note M (nI 4) q = some M := by
    intro q
    unfold f_X2_note
    rw [h, if_neg (by decide)]
  have h150 : ∀ b, f_X2_read_150 (nI a) 1 a3 b M = some M := by
    intro b
    unfold f_X2_read_150
    cases b
    · rw [if_neg (by decide)]
    · rw [if_pos rfl, hn, bn_s]
  unfold f_X2_read_106 f_X2_read_125 f_X2_read_145 f_X2_read_149
  simp only [h150, ite_self]
end Reads
