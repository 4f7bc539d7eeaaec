/-! grown -/
theorem first_of (P : Nat → Prop) (n : Nat) : ∃ m, m ≤ n ∧ (∀ i, i < m → ¬ P i) ∧ (m < n → P m) := by
  induction n with
  | zero => exact ⟨0, Nat.le_refl 0, fun i h => absurd h (Nat.not_lt_zero i), fun h => absurd h (Nat.lt_irrefl 0)⟩
  | succ n ih =>
    obtain ⟨m, h1, h2, h3⟩ := ih
    by_cases h : m < n
    · exact ⟨m, by omega, h2, fun _ => h3 h⟩
    · have e : m = n := by omega
      subst e
      by_cases hp : P m
      · exact ⟨m, by omega, h2, fun _ => hp⟩
      · refine ⟨m + 1, by omega, fun i hi => ?_, fun h => absurd h (Nat.lt_irrefl _)⟩
        by_cases e : i = m
        · rw [e]; exact hp
        · exact h2 i (by omega)
def gSum (g : Nat → Nat) : Nat → Nat
  | 0 => 0
  | d + 1 => gSum g d + g d
theorem q_grown {Mx Mm : Mem} (H : Rl Mx Mm) (a w : Int32) : EqI Mx Mm (wM (f_X9_grown Mx a w) Mx) (f_X10_grown Mm a w) := by
  have h0 := FM_sI Mm (o := 100) (k := 0) (v := nI 0)
  unfold f_X9_grown f_X10_grown
  rw [nm_s]
  rcases coat_cases H a with ⟨e1, e2⟩ | ⟨k, C, hk, rfl, hV, hX, hM, e1, e2⟩
  · rw [e1, e2 _ h0]
    exact ⟨_, _, _, rfl, rfl, Rl_fr H (FX_rf Mx) h0⟩
  · have hR := Rl_fr H (FX_rf Mx) (FM_tr h0 (FM_mh _ k C))
    rw [e1, e2 _ h0, bn_s, bp_s, if_pos rfl, opt_some]
    obtain ⟨x0, x1, x2, x3, x4⟩ := hX
    have hH := mh_MH (M := sI Mm 100 0 (nI 0)) hk (CM_cg rfl hM)
    obtain ⟨m0, m1, m2, m3, m4⟩ := hM
    obtain ⟨-, y0, y1, y2, -⟩ := hH
    have eo : ∀ j, j < 276 → f_X10_of (mh (sI Mm 100 0 (nI 0)) k C) (nI j) = some (gA Mm 100 6 (138 * k + j)) := fun j hj => of_v y0 hk hj
    obtain ⟨m, g1, g2, g3⟩ := first_of (fun i => ¬ nI (gSum (cGr C) (i + 1)) < w) 100
    have ex : f_X9_grown_18 Mx (nI k) w (2 + k) FU (nI 0, nI 0) = some (if m = 100 then -1 else nI m) := by
      unfold f_X9_grown_18
      refine lpU_find (fun i => (nI (gSum (cGr C) i), nI i)) 100 (fun m => some (if m = 100 then -1 else nI m)) (fun i => ¬ nI (gSum (cGr C) (i + 1)) < w) (by omega) ?_ ?_ ?_ m g1 g2 g3 0 (Nat.zero_le _)
      · intro rc
        show b_X9_grown_18 Mx (nI k) w (2 + k) _ _ (nI 100) = _
        unfold b_X9_grown_18
        simp (disch := omega) [bn_s, bp_s, nm_s, wM_s, opt_some, opt_none, le_n, lt_n, eq_n, nI_add, pk_mul, sub_n, gin_n, ix_n, in_n, in_upto, div_n, rem_n, gnz_n]
      · intro rc i hi hs
        show b_X9_grown_18 Mx (nI k) w (2 + k) _ (nI (gSum (cGr C) i)) (nI i) = _
        unfold b_X9_grown_18
        have c1 : ¬ 100 ≤ i := by omega
        have c2 : ¬ i = 100 := by omega
        have hs' : ¬ nI (gSum (cGr C) i + cGr C i) < w := hs
        simp (disch := omega) [c1, c2, x4 i hi, hs', bn_s, bp_s, nm_s, wM_s, opt_some, opt_none, le_n, lt_n, eq_n, nI_add, pk_mul, sub_n, gin_n, ix_n, in_n, in_upto, div_n, rem_n, gnz_n]
      · intro rc i hi hs
        show b_X9_grown_18 Mx (nI k) w (2 + k) _ (nI (gSum (cGr C) i)) (nI i) = _
        unfold b_X9_grown_18
        have c1 : ¬ 100 ≤ i := by omega
        have hs' : nI (gSum (cGr C) i + cGr C i) < w := Classical.not_not.mp hs
        simp (disch := omega) [c1, x4 i hi, hs', bn_s, bp_s, nm_s, wM_s, opt_some, opt_none, le_n, lt_n, eq_n, nI_add, pk_mul, sub_n, gin_n, ix_n, in_n, in_upto, div_n, rem_n, gnz_n]
        rfl
    have em : f_X10_grown_20 (nI k) w FU (nI 0, nI 0, mh (sI Mm 100 0 (nI 0)) k C) = some (if m = 100 then -1 else nI m, mh (sI Mm 100 0 (nI 0)) k C) := by
      unfold f_X10_grown_20
      refine lpU_find (fun i => (nI (gSum (cGr C) i), nI i, mh (sI Mm 100 0 (nI 0)) k C)) 100 (fun m => some (if m = 100 then -1 else nI m, mh (sI Mm 100 0 (nI 0)) k C)) (fun i => ¬ nI (gSum (cGr C) (i + 1)) < w) (by omega) ?_ ?_ ?_ m g1 g2 g3 0 (Nat.zero_le _)
      · intro rc
        show b_X10_grown_20 (nI k) w _ _ (nI 100) _ = _
        unfold b_X10_grown_20
        simp (disch := omega) [bn_s, bp_s, nm_s, wM_s, opt_some, opt_none, le_n, lt_n, eq_n, nI_add, pk_mul, sub_n, gin_n, ix_n, in_n, in_upto, div_n, rem_n, gnz_n]
      · intro rc i hi hs
        show b_X10_grown_20 (nI k) w _ (nI (gSum (cGr C) i)) (nI i) _ = _
        unfold b_X10_grown_20
        have c1 : ¬ 99 < i := by omega
        have c2 : ¬ i = 100 := by omega
        have hs' : ¬ nI (gSum (cGr C) i + cGr C i) < w := hs
        simp (disch := omega) [c1, c2, eo, m4 i hi, hs', bn_s, bp_s, nm_s, wM_s, opt_some, opt_none, le_n, lt_n, eq_n, nI_add, pk_mul, sub_n, gin_n, ix_n, in_n, in_upto, div_n, rem_n, gnz_n]
      · intro rc i hi hs
        show b_X10_grown_20 (nI k) w _ (nI (gSum (cGr C) i)) (nI i) _ = _
        unfold b_X10_grown_20
        have c1 : ¬ 99 < i := by omega
        have hs' : nI (gSum (cGr C) i + cGr C i) < w := Classical.not_not.mp hs
        simp (disch := omega) [c1, eo, m4 i hi, hs', bn_s, bp_s, nm_s, wM_s, opt_some, opt_none, le_n, lt_n, eq_n, nI_add, pk_mul, sub_n, gin_n, ix_n, in_n, in_upto, div_n, rem_n, gnz_n]
        rfl
    show EqI Mx Mm (wM (f_X9_grown_18 Mx (nI k) w (2 + k) FU (nI 0, nI 0)) Mx) _
    rw [ex, em]
    exact ⟨_, _, _, rfl, rfl, hR⟩
/-! towns: the days -/
def dN (a b : Nat) : Nat := (a - b) + (b - a)
theorem sub_int {a b : Nat} (ha : a < 1000) (hb : b < 1000) : (nI a - nI b).toInt = (a : Int) - b := pk_sub_toInt (by omega) (by omega)
theorem abs_x {a b : Nat} (ha : a < 1000) (hb : b < 1000) : abI (nI a - nI b) = nI (dN a b) := by
  unfold abI dN
  by_cases h : b ≤ a
  · rw [sub_n h, if_pos (n_nn (by omega))]
    congr 1; omega
  · have h2 := sub_int ha hb
    rw [if_neg]
    · apply Int32.toInt_inj.mp
      have e1 : nI a - nI b = -(nI (b - a)) := by rw [← sub_n (by omega)]; simp
      rw [e1]
      have e2 : (0 : Int32) - -(nI (b - a)) = nI (b - a) := by simp
      rw [e2]
      congr 2; omega
    · rw [Int32.le_iff_toInt_le, h2]
      have : (0 : Int32).toInt = 0 := rfl
      omega
theorem abs_m {a b : Nat} (ha : a < 1000) (hb : b < 1000) : (nI 0 ≤ nI a - nI b ∧ nI a - nI b = nI (dN b a)) ∨ (¬ nI 0 ≤ nI a - nI b ∧ -(nI a - nI b) = nI (dN b a)) := by
  unfold dN
  by_cases h : b ≤ a
  · left
    rw [sub_n h]
    exact ⟨nI_le (Nat.zero_le _) (by omega), by congr 1; omega⟩
  · right
    have h2 := sub_int ha hb
    refine ⟨?_, ?_⟩
    · rw [Int32.le_iff_toInt_le, h2, nI_toInt (by omega)]
      omega
    · have e1 : nI a - nI b = -(nI (b - a)) := by rw [← sub_n (by omega)]; simp
      rw [e1]
      simp
      congr 1; omega
def tWay (T : TownA) (x y w : Nat) : Nat := (dN (tXs T w) x + dN (tYs T w) y + tMi T - 1) / tMi T
def tSew (T : TownA) (w : Nat) : Nat := (tSt T w + tSp T - 1) / tSp T
theorem begun_v {a b : Nat} (ha : a < 1000) (hb : b < 1000) (h : 0 < b) : f_X9_begun (nI a) (nI b) = some (nI ((a + b - 1) / b)) := by
  unfold f_X9_begun
  have h1 : 1 ≤ b := h
  simp (disch := omega) [h1, bn_s, bp_s, nm_s, wM_s, opt_some, opt_none, le_n, lt_n, eq_n, nI_add, pk_mul, sub_n, gin_n, ix_n, in_n, in_upto, div_n, rem_n, gnz_n]
theorem upwards_v {a b : Nat} (ha : a < 1000) (hb : b < 1000) (h : 0 < b) : f_X10_upwards (nI a) (nI b) = some (nI ((a + b - 1) / b)) := by
  unfold f_X10_upwards
  simp (disch := omega) [bn_s, bp_s, nm_s, wM_s, opt_some, opt_none, le_n, lt_n, eq_n, nI_add, pk_mul, sub_n, gin_n, ix_n, in_n, in_upto, div_n, rem_n, gnz_n]
theorem hasWearer_v {M : Mem} {o n : Nat} (h : gI M o 4 = nI n) (hn : n < 2147483648) {s : Nat} (hs : s < 2147483648) : f_X6_hasWearer M o (nI s) = some (decide (s < n)) := by
  unfold f_X6_hasWearer
  rw [h]
  by_cases c : s < n
  · simp (disch := omega) [n_nneg, c, bn_s, bp_s, nm_s, wM_s, opt_some, opt_none, le_n, lt_n, eq_n, nI_add, pk_mul, sub_n, gin_n, ix_n, in_n, in_upto, div_n, rem_n, gnz_n]
  · simp (disch := omega) [n_nneg, c, bn_s, bp_s, nm_s, wM_s, opt_some, opt_none, le_n, lt_n, eq_n, nI_add, pk_mul, sub_n, gin_n, ix_n, in_n, in_upto, div_n, rem_n, gnz_n]
theorem hasWearer_neg {M : Mem} {o : Nat} {a : Int32} (h : a < 0) : f_X6_hasWearer M o a = some false := by
  unfold f_X6_hasWearer
  rw [if_pos (show a < nI 0 from h)]
theorem isWearer_v {M : Mem} {n : Nat} (h : gI M 100 40 = nI n) (hn : n < 2147483648) {s : Nat} (hs : s < 2147483648) : f_X10_isWearer M (nI s) = some (decide (s < n)) := by
  unfold f_X10_isWearer
  rw [h, in_upto hs hn]
  rfl
theorem isWearer_neg {M : Mem} {a : Int32} (h : a < 0) : f_X10_isWearer M a = some false := by
  unfold f_X10_isWearer
  rw [in_neg h 0 (by omega)]
  rfl
theorem daysTo_v {M : Mem} {o : Nat} {T : TownA} (hX : TX M o T) (hV : TV T) {x y w : Nat} (hx : x < 100) (hy : y < 100) (hw : w < tW T) : f_X6_daysTo M o (nI x) (nI y) (nI w) = some (nI (tWay T x y w)) := by
  obtain ⟨⟨v1, v2, v3, v4, v5⟩, v6, -⟩ := hV
  obtain ⟨⟨x0, x1, x2, x3, x4⟩, x5, -⟩ := hX
  obtain ⟨g1, g2, g3, g4⟩ := x5 w hw
  obtain ⟨u1, u2, -⟩ := v6 w hw
  unfold f_X6_daysTo
  rw [hasWearer_v x4 (by omega) (by omega), bn_s, if_pos (dT hw), gin_n (by omega) (by omega), ix_n (by omega), g1, abs_x (by omega) (by omega), nm_s, gin_n (by omega) (by omega), g2, abs_x (by omega) (by omega), nm_s, nI_add, x3]
  have d1 : dN (tXs T w) x < 200 := by unfold dN; omega
  have d2 : dN (tYs T w) y < 200 := by unfold dN; omega
  rw [begun_v (by omega) (by omega) (by omega)]
  rfl
theorem ways_v {M : Mem} {k : Nat} {T : TownA} (hH : MT M k T) (hV : TV T) {x y w : Nat} (hx : x < 100) (hy : y < 100) (hw : w < tW T) : f_X10_ways M (nI x) (nI y) (nI w) = some (nI (tWay T x y w)) := by
  obtain ⟨⟨v1, v2, v3, v4, v5⟩, v6, -⟩ := hV
  obtain ⟨hk, y0, y1, ⟨⟨m0, m1, m2, m3, m4⟩, m5, -⟩⟩ := hH
  obtain ⟨g1, g2, g3, g4⟩ := m5 w hw
  obtain ⟨u1, u2, -⟩ := v6 w hw
  have eo : ∀ j, j < 100 → f_X10_townOf M (nI j) = some (gA M 100 8 (41 * k + j)) := fun j hj => townOf_v y0 hk hj
  have d1 : dN (tXs T w) x < 200 := by unfold dN; omega
  have d2 : dN (tYs T w) y < 200 := by unfold dN; omega
  unfold f_X10_ways
  rw [nI_add, nI_add, eo _ (by omega), eo _ (by omega), g1, g2]
  simp only [bn_s, nm_s]
  have e49 : f_X10_ways_49 M (nI x) (nI y) (nI w) (nI (dN (tXs T w) x)) (nI (dN (tYs T w) y)) = some (nI (tWay T x y w)) := by
    unfold f_X10_ways_49
    rw [nm_s, nI_add, eo 2 (by omega), bn_s, m2, upwards_v (by omega) (by omega) (by omega)]
    rfl
  have e36 : f_X10_ways_36 M (nI x) (nI y) (nI w) (nI y - nI (tYs T w)) (nI (dN (tXs T w) x)) = some (nI (tWay T x y w)) := by
    unfold f_X10_ways_36
    rcases abs_m (a := y) (b := tYs T w) (by omega) (by omega) with ⟨c, e⟩ | ⟨c, e⟩
    · rw [if_pos c, e, e49]
    · rw [if_neg c, e, e49]
  rcases abs_m (a := x) (b := tXs T w) (by omega) (by omega) with ⟨c, e⟩ | ⟨c, e⟩
  · rw [if_pos c, e, e36]
  · rw [if_neg c, e, e36]
theorem between_v {M : Mem} {k : Nat} {T : TownA} (hH : MT M k T) (hV : TV T) {a b : Nat} (ha : a < tW T) (hb : b < tW T) : f_X10_between M (nI a) (nI b) = some (nI (tWay T (tXs T a) (tYs T a) b)) := by
  obtain ⟨⟨v1, v2, v3, v4, v5⟩, v6, -⟩ := id hV
  obtain ⟨hk, y0, y1, ⟨-, m5, -⟩⟩ := id hH
  obtain ⟨g1, g2, -⟩ := m5 a ha
  obtain ⟨u1, u2, -⟩ := v6 a ha
  have eo : ∀ j, j < 100 → f_X10_townOf M (nI j) = some (gA M 100 8 (41 * k + j)) := fun j hj => townOf_v y0 hk hj
  unfold f_X10_between
  rw [nI_add, nI_add, eo _ (by omega), eo _ (by omega), g1, g2]
  simp only [bn_s]
  rw [ways_v hH hV (by omega) (by omega) hb]
  rfl
theorem q_way {Mx Mm : Mem} (H : Rl Mx Mm) (t a b : Int32) : EqI Mx Mm (wM (f_X9_way Mx t a b) Mx) (f_X10_way Mm t a b) := by
  have h0 := FM_sI Mm (o := 100) (k := 0) (v := nI 0)
  unfold f_X9_way f_X10_way
  rw [nm_s]
  rcases town_cases H t with ⟨e1, e2⟩ | ⟨k, T, hk, rfl, hV, hX, hM, e1, e2⟩
  · rw [e1, e2 _ h0]
    exact ⟨_, _, _, rfl, rfl, Rl_fr H (FX_rf Mx) (FM_tr h0 (FM_sI _))⟩
  · have hR := Rl_fr H (FX_rf Mx) (FM_tr h0 (FM_mt _ k T))
    rw [e1, e2 _ h0, bn_s, bp_s, if_pos rfl, opt_some]
    have hH := mt_MT (M := sI Mm 100 0 (nI 0)) hk (TM_cg rfl hM)
    have hx4 := hX.1.2.2.2.2
    have hw6 := hV.1.2.2.2.2
    have hm40 := hH.2.2.1
    rcases int_cases a with ha | ⟨i, hi, rfl⟩
    · rw [hasWearer_neg ha, isWearer_neg ha]
      exact ⟨_, _, _, rfl, rfl, hR⟩
    rw [hasWearer_v hx4 (by omega) hi, isWearer_v hm40 (by omega) hi, bn_s, bn_s]
    by_cases c : i < tW T
    · rw [if_pos (dT c), if_pos (dT c)]
      rcases int_cases b with hb | ⟨j, hj, rfl⟩
      · rw [hasWearer_neg hb, isWearer_neg hb]
        exact ⟨_, _, _, rfl, rfl, hR⟩
      rw [hasWearer_v hx4 (by omega) hj, isWearer_v hm40 (by omega) hj, bn_s, bn_s]
      by_cases c2 : j < tW T
      · rw [if_pos (dT c2), if_pos (dT c2), between_v hH hV c c2, gin_n (by omega) (by omega), gin_n (by omega) (by omega), ix_n hi]
        obtain ⟨g1, g2, -⟩ := hX.2.1 i c
        obtain ⟨u1, u2, -⟩ := hV.2.1 i c
        rw [g1, g2, daysTo_v hX hV (by omega) (by omega) c2]
        exact ⟨_, _, _, rfl, rfl, hR⟩
      · rw [if_neg (dF c2), if_neg (dF c2)]
        exact ⟨_, _, _, rfl, rfl, hR⟩
    · rw [if_neg (dF c), if_neg (dF c)]
      exact ⟨_, _, _, rfl, rfl, hR⟩
theorem q_town {Mx Mm : Mem} (H : Rl Mx Mm) (a w : Int32) : EqI Mx Mm (wM (f_X9_town Mx a w) Mx) (f_X10_town Mm a w) := by
  have h0 := FM_sI Mm (o := 100) (k := 0) (v := nI 0)
  unfold f_X9_town f_X10_town
  rw [nm_s]
  rcases town_cases H a with ⟨e1, e2⟩ | ⟨k, T, hk, rfl, hV, hX, hM, e1, e2⟩
  · rw [e1, e2 _ h0]
    exact ⟨_, _, _, rfl, rfl, Rl_fr H (FX_rf Mx) (FM_tr h0 (FM_sI _))⟩
  · have hR := Rl_fr H (FX_rf Mx) (FM_tr h0 (FM_mt _ k T))
    rw [e1, e2 _ h0, bn_s, bp_s, if_pos rfl, opt_some]
    have hH := mt_MT (M := sI Mm 100 0 (nI 0)) hk (TM_cg rfl hM)
    have hm40 := hH.2.2.1
    have y0 := hH.2.1
    obtain ⟨⟨v1, v2, v3, v4, v5⟩, v6, -⟩ := hV
    obtain ⟨⟨x0, x1, x2, x3, x4⟩, x5, x6⟩ := hX
    obtain ⟨⟨m0, m1, m2, m3, m4⟩, m5, m6⟩ := hM
    have eo : ∀ j, j < 100 → f_X10_townOf (mt (sI Mm 100 0 (nI 0)) k T) (nI j) = some (gA Mm 100 8 (41 * k + j)) := fun j hj => townOf_v y0 hk hj
    rcases int_cases w with h | ⟨v, hv, rfl⟩
    · have z2 := neg_lt h 10 (by omega)
      unfold f_X6_tell
      simp (disch := omega) [neg_ne h, in_neg h, z2, bn_s, bp_s, nm_s, wM_s, opt_some, opt_none, le_n, lt_n, eq_n, nI_add, pk_mul, sub_n, gin_n, ix_n, in_n, in_upto, div_n, rem_n, gnz_n]
      exact ⟨_, _, _, rfl, rfl, hR⟩
    · by_cases c4 : v ≤ 4
      · have i1 : f_X10_in (nI v) (nI 10) (nI 69) = some false := by
          rw [in_n hv (by omega) (by omega)]; congr 1; simp; omega
        have i2 : f_X10_in (nI v) (nI 0) (nI 4) = some true := by
          rw [in_n hv (by omega) (by omega)]; congr 1; simp; omega
        unfold f_X6_tell
        rcases (show v = 0 ∨ v = 1 ∨ v = 2 ∨ v = 3 ∨ v = 4 by omega) with d | d | d | d | d <;> subst d <;> simp (disch := omega) [i1, i2, eo, x0, x1, x2, x3, x4, m0, m1, m2, m3, m4, bn_s, bp_s, nm_s, wM_s, opt_some, opt_none, le_n, lt_n, eq_n, nI_add, pk_mul, sub_n, gin_n, ix_n, in_n, in_upto, div_n, rem_n, gnz_n] <;> exact ⟨_, _, _, rfl, rfl, hR⟩
      · have i2 : f_X10_in (nI v) (nI 0) (nI 4) = some false := by
          rw [in_n hv (by omega) (by omega)]; congr 1; simp; omega
        have hS := isWearer_v (M := mt (sI Mm 100 0 (nI 0)) k T) hm40 (by omega) (s := v % 10) (by omega)
        have hT := hasWearer_v (M := Mx) (o := 6 + k) x4 (by omega) (s := v % 10) (by omega)
        have n0 : ¬ v = 0 := by omega
        have n1 : ¬ v = 1 := by omega
        have n2 : ¬ v = 2 := by omega
        have n3 : ¬ v = 3 := by omega
        have n4 : ¬ v = 4 := by omega
        unfold f_X6_tell
        rw [rem_n hv (by omega) (by omega)]
        by_cases c10 : v < 10
        · have i1 : f_X10_in (nI v) (nI 10) (nI 69) = some false := by
            rw [in_n hv (by omega) (by omega)]; congr 1; simp; omega
          simp (disch := omega) [n0, n1, n2, n3, n4, c10, i1, i2, bn_s, bp_s, nm_s, wM_s, opt_some, opt_none, le_n, lt_n, eq_n, nI_add, pk_mul, sub_n, gin_n, ix_n, in_n, in_upto, div_n, rem_n, gnz_n]
          exact ⟨_, _, _, rfl, rfl, hR⟩
        by_cases c69 : v ≤ 69
        · have i1 : f_X10_in (nI v) (nI 10) (nI 69) = some true := by
            rw [in_n hv (by omega) (by omega)]; congr 1; simp; omega
          by_cases c2 : v % 10 < tW T
          · obtain ⟨s1, s2, s3, s4⟩ := x5 _ c2
            obtain ⟨r1, r2, r3, r4⟩ := m5 _ c2
            obtain ⟨s5, s6⟩ := x6 (v % 10) (by omega)
            obtain ⟨r5, r6⟩ := m6 (v % 10) (by omega)
            rcases (show v / 10 = 1 ∨ v / 10 = 2 ∨ v / 10 = 3 ∨ v / 10 = 4 ∨ v / 10 = 5 ∨ v / 10 = 6 by omega) with d | d | d | d | d | d
            · simp (disch := omega) [n0, n1, n2, n3, n4, c10, i1, hS, hT, c2, d, eo, s1, r1, bn_s, bp_s, nm_s, wM_s, opt_some, opt_none, le_n, lt_n, eq_n, nI_add, pk_mul, sub_n, gin_n, ix_n, in_n, in_upto, div_n, rem_n, gnz_n]
              exact ⟨_, _, _, rfl, rfl, hR⟩
            · simp (disch := omega) [n0, n1, n2, n3, n4, c10, i1, hS, hT, c2, d, eo, s2, r2, bn_s, bp_s, nm_s, wM_s, opt_some, opt_none, le_n, lt_n, eq_n, nI_add, pk_mul, sub_n, gin_n, ix_n, in_n, in_upto, div_n, rem_n, gnz_n]
              exact ⟨_, _, _, rfl, rfl, hR⟩
            · simp (disch := omega) [n0, n1, n2, n3, n4, c10, i1, hS, hT, c2, d, eo, s3, r3, bn_s, bp_s, nm_s, wM_s, opt_some, opt_none, le_n, lt_n, eq_n, nI_add, pk_mul, sub_n, gin_n, ix_n, in_n, in_upto, div_n, rem_n, gnz_n]
              exact ⟨_, _, _, rfl, rfl, hR⟩
            · simp (disch := omega) [n0, n1, n2, n3, n4, c10, i1, hS, hT, c2, d, eo, s4, r4, bn_s, bp_s, nm_s, wM_s, opt_some, opt_none, le_n, lt_n, eq_n, nI_add, pk_mul, sub_n, gin_n, ix_n, in_n, in_upto, div_n, rem_n, gnz_n]
              exact ⟨_, _, _, rfl, rfl, hR⟩
            · simp (disch := omega) [n0, n1, n2, n3, n4, c10, i1, hS, hT, c2, d, eo, s5, r5, bn_s, bp_s, nm_s, wM_s, opt_some, opt_none, le_n, lt_n, eq_n, nI_add, pk_mul, sub_n, gin_n, ix_n, in_n, in_upto, div_n, rem_n, gnz_n]
              exact ⟨_, _, _, rfl, rfl, hR⟩
            · simp (disch := omega) [n0, n1, n2, n3, n4, c10, i1, hS, hT, c2, d, eo, s6, r6, bn_s, bp_s, nm_s, wM_s, opt_some, opt_none, le_n, lt_n, eq_n, nI_add, pk_mul, sub_n, gin_n, ix_n, in_n, in_upto, div_n, rem_n, gnz_n]
              exact ⟨_, _, _, rfl, rfl, hR⟩
          · simp (disch := omega) [n0, n1, n2, n3, n4, c10, i1, hS, hT, c2, bn_s, bp_s, nm_s, wM_s, opt_some, opt_none, le_n, lt_n, eq_n, nI_add, pk_mul, sub_n, gin_n, ix_n, in_n, in_upto, div_n, rem_n, gnz_n]
            exact ⟨_, _, _, rfl, rfl, hR⟩
        · have i1 : f_X10_in (nI v) (nI 10) (nI 69) = some false := by
            rw [in_n hv (by omega) (by omega)]; congr 1; simp; omega
          have d1 : ¬ v / 10 = 1 := by omega
          have d2 : ¬ v / 10 = 2 := by omega
          have d3 : ¬ v / 10 = 3 := by omega
          have d4 : ¬ v / 10 = 4 := by omega
          have d5 : ¬ v / 10 = 5 := by omega
          have d6 : ¬ v / 10 = 6 := by omega
          simp (disch := omega) [n0, n1, n2, n3, n4, c10, d1, d2, d3, d4, d5, d6, i1, i2, hT, bn_s, bp_s, nm_s, wM_s, opt_some, opt_none, le_n, lt_n, eq_n, nI_add, pk_mul, sub_n, gin_n, ix_n, in_n, in_upto, div_n, rem_n, gnz_n]
          exact ⟨_, _, _, rfl, rfl, hR⟩
