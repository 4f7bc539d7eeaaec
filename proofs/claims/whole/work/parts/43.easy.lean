/-! fault, end, count, deed, fact, grown, way -/
theorem q_fault {Mx Mm : Mem} (H : Rl Mx Mm) (a : Int32) : EqI Mx Mm (wM (f_X9_fault Mx a) Mx) (f_X10_fault Mm a) := by
  obtain ⟨-, -, ⟨h2, h3⟩, -⟩ := H.1
  have hR := Rl_fr H (FX_rf Mx) (FM_sI Mm (o := 100) (k := 0) (v := nI 0))
  unfold f_X9_fault f_X10_fault
  rw [nm_s, gin0 (by omega) (by omega), gin0 (by omega) (by omega), ix0]
  by_cases c0 : a = nI 0
  · rw [if_pos c0, if_pos c0]
    exact ⟨_, _, _, rfl, by rw [gA_sI, ← h2], hR⟩
  · rw [if_neg c0, if_neg c0]
    by_cases c1 : a = nI 1
    · rw [if_pos c1, if_pos c1]
      exact ⟨_, _, _, rfl, by rw [gA_sI, ← h3], hR⟩
    · rw [if_neg c1, if_neg c1]
      exact ⟨_, _, _, rfl, rfl, hR⟩
theorem q_count {Mx Mm : Mem} (H : Rl Mx Mm) (a : Int32) : EqI Mx Mm (wM (f_X9_count Mx a) Mx) (f_X10_count Mm a) := by
  obtain ⟨-, -, -, cn, hc, -⟩ := H.1
  have hR := Rl_fr H (FX_rf Mx) (FM_sI Mm (o := 100) (k := 0) (v := nI 0))
  unfold f_X9_count f_X10_count
  rw [nm_s]
  rcases int_cases a with h | ⟨j, h1, rfl⟩
  · rw [if_pos (show a < nI 0 from h), in_neg h 0 (by omega)]
    exact ⟨_, _, _, rfl, rfl, hR⟩
  · rw [if_neg (n_nneg h1), in_n h1 (by omega) (by omega)]
    by_cases c : j < 4
    · obtain ⟨-, g2, g3⟩ := hc j c
      rw [if_pos (nI_lt c (by omega)), gin_n c (by omega), gin_n (by omega) (by omega), ix_n h1, g2]
      refine ⟨nI (cn j), _, _, rfl, ?_, hR⟩
      rw [bn_s, if_pos (by simp; omega), gA_sI, ← g3]
      simp
    · rw [if_neg (nI_nlt (by omega) h1)]
      refine ⟨_, _, _, rfl, ?_, hR⟩
      rw [bn_s, if_neg (by simp; omega)]
theorem q_deed {Mx Mm : Mem} (H : Rl Mx Mm) (a k w : Int32) : EqI Mx Mm (wM (f_X9_deed Mx a k w) Mx) (f_X10_deed Mm a k w) := by
  have h0 := FM_sI Mm (o := 100) (k := 0) (v := nI 0)
  have hR := Rl_fr H (FX_rf Mx) (FM_tr h0 (FM_sI _ (o := 100) (k := 26) (v := a)))
  unfold f_X9_deed f_X10_deed
  rw [nm_s]
  rcases life_cases H a with ⟨e1, e2⟩ | ⟨i, L, hi, rfl, hV, hX, hM, e1, e2⟩
  · rw [e1, e2 _ h0]
    exact ⟨_, _, _, rfl, rfl, hR⟩
  · rw [e1, e2 _ h0, bn_s, bp_s, if_pos rfl]
    obtain ⟨hV1, hV2⟩ := hV
    have ed : f_X10_deeds (ml (sI Mm 100 0 (nI 0)) (nI i)) = some (nI L.1) := by
      unfold f_X10_deeds ml
      simp (disch := omega) only [gI_sI, gA_sI, pk_mul, gin_n, ix_n, and_self, if_true, nI_add]
      rw [hM.1]
    have eo : ∀ j v, j < L.1 → v < 2 → f_X10_deedOf (ml (sI Mm 100 0 (nI 0)) (nI i)) (nI j) (nI v) = some (gA Mm 100 7 (81 * i + (1 + 2 * j + v))) := by
      intro j v hj hv
      unfold f_X10_deedOf ml
      simp (disch := omega) only [gI_sI, gA_sI, pk_mul, gin_n, ix_n, and_self, if_true, nI_add]
      congr 2
      omega
    show EqI Mx Mm (wM (bn (f_X1_tell Mx (4 + i) k w) fun r => some r) Mx) _
    rw [ed]
    unfold f_X1_tell f_X1_tell_14
    rw [hX.1]
    by_cases ck : k = -1
    · subst ck
      by_cases cw : w = nI 0
      · simp [cw, bn_s, wM_s]
        exact ⟨_, _, _, rfl, rfl, hR⟩
      · simp [cw, m1_lt0, bn_s, wM_s]
        exact ⟨_, _, _, rfl, rfl, hR⟩
    · rcases int_cases k with h | ⟨j, h1, rfl⟩
      · have h' : k < nI 0 := h
        simp [ck, h', in_neg h, bn_s, wM_s]
        exact ⟨_, _, _, rfl, rfl, hR⟩
      · by_cases c : j < L.1
        · have c' : j ≤ L.1 - 1 := by omega
          obtain ⟨g1, g2⟩ := hX.2 j c
          obtain ⟨g3, g4⟩ := hM.2 j c
          rcases int_cases w with h | ⟨v, hv1, rfl⟩
          · simp (disch := omega) [ck, n_nneg, c, c', neg_ne h, in_neg h, bn_s, bp_s, nm_s, wM_s, opt_some, opt_none, le_n, lt_n, eq_n, nI_add, pk_mul, sub_n, gin_n, ix_n, in_n, in_upto, div_n, rem_n, gnz_n]
            exact ⟨_, _, _, rfl, rfl, hR⟩
          · by_cases c0 : v = 0
            · subst c0
              simp (disch := omega) [ck, n_nneg, c, c', eo j 0 c, g1, g3, bn_s, bp_s, nm_s, wM_s, opt_some, opt_none, le_n, lt_n, eq_n, nI_add, pk_mul, sub_n, gin_n, ix_n, in_n, in_upto, div_n, rem_n, gnz_n]
              exact ⟨_, _, _, rfl, rfl, hR⟩
            · by_cases c1 : v = 1
              · subst c1
                simp (disch := omega) [ck, n_nneg, c, c', eo j 1 c, g2, g4, bn_s, bp_s, nm_s, wM_s, opt_some, opt_none, le_n, lt_n, eq_n, nI_add, pk_mul, sub_n, gin_n, ix_n, in_n, in_upto, div_n, rem_n, gnz_n]
                exact ⟨_, _, _, rfl, rfl, hR⟩
              · have c2 : ¬ v ≤ 1 := by omega
                simp (disch := omega) [ck, n_nneg, c, c', c0, c1, c2, bn_s, bp_s, nm_s, wM_s, opt_some, opt_none, le_n, lt_n, eq_n, nI_add, pk_mul, sub_n, gin_n, ix_n, in_n, in_upto, div_n, rem_n, gnz_n]
                exact ⟨_, _, _, rfl, rfl, hR⟩
        · simp (disch := omega) [ck, n_nneg, c, bn_s, bp_s, nm_s, wM_s, opt_some, opt_none, le_n, lt_n, eq_n, nI_add, pk_mul, sub_n, gin_n, ix_n, in_n, in_upto, div_n, rem_n, gnz_n]
          exact ⟨_, _, _, rfl, rfl, hR⟩
theorem q_fact {Mx Mm : Mem} (H : Rl Mx Mm) (a k w : Int32) : EqI Mx Mm (wM (f_X9_fact Mx a k w) Mx) (f_X10_fact Mm a k w) := by
  have h0 := FM_sI Mm (o := 100) (k := 0) (v := nI 0)
  have hR := Rl_fr H (FX_rf Mx) (FM_tr h0 (FM_sI _ (o := 100) (k := 50) (v := a)))
  unfold f_X9_fact f_X10_fact
  rw [nm_s]
  rcases sight_cases H a with ⟨e1, e2⟩ | ⟨i, S, hi, rfl, hV, hX, hM, e1, e2⟩
  · rw [e1, e2 _ h0]
    exact ⟨_, _, _, rfl, rfl, hR⟩
  · rw [e1, e2 _ h0, bn_s, bp_s, if_pos rfl]
    obtain ⟨hV1, hV2⟩ := hV
    have ed : f_X10_facts (ms (sI Mm 100 0 (nI 0)) (nI i)) = some (nI S.1) := by
      unfold f_X10_facts ms
      simp (disch := omega) only [gI_sI, gA_sI, pk_mul, gin_n, ix_n, and_self, if_true, nI_add]
      rw [hM.1]
    have eo : ∀ j v, j < S.1 → v < 3 → f_X10_factOf (ms (sI Mm 100 0 (nI 0)) (nI i)) (nI j) (nI v) = some (gA Mm 100 9 (31 * i + (1 + 3 * j + v))) := by
      intro j v hj hv
      unfold f_X10_factOf ms
      simp (disch := omega) only [gI_sI, gA_sI, pk_mul, gin_n, ix_n, and_self, if_true, nI_add]
      congr 2
      omega
    show EqI Mx Mm (wM (bn (f_X4_tell Mx (8 + i) k w) fun r => some r) Mx) _
    rw [ed]
    unfold f_X4_tell f_X4_tell_14
    rw [hX.1]
    by_cases ck : k = -1
    · subst ck
      by_cases cw : w = nI 0
      · simp [cw, bn_s, wM_s]
        exact ⟨_, _, _, rfl, rfl, hR⟩
      · simp [cw, m1_lt0, bn_s, wM_s]
        exact ⟨_, _, _, rfl, rfl, hR⟩
    · rcases int_cases k with h | ⟨j, h1, rfl⟩
      · have h' : k < nI 0 := h
        simp [ck, h', in_neg h, bn_s, wM_s]
        exact ⟨_, _, _, rfl, rfl, hR⟩
      · by_cases c : j < S.1
        · have c' : j ≤ S.1 - 1 := by omega
          obtain ⟨g1, g2, g5⟩ := hX.2 j c
          obtain ⟨g3, g4, g6⟩ := hM.2 j c
          rcases int_cases w with h | ⟨v, hv1, rfl⟩
          · simp (disch := omega) [ck, n_nneg, c, c', neg_ne h, in_neg h, bn_s, bp_s, nm_s, wM_s, opt_some, opt_none, le_n, lt_n, eq_n, nI_add, pk_mul, sub_n, gin_n, ix_n, in_n, in_upto, div_n, rem_n, gnz_n]
            exact ⟨_, _, _, rfl, rfl, hR⟩
          · by_cases c0 : v = 0
            · subst c0
              simp (disch := omega) [ck, n_nneg, c, c', eo j 0 c, g1, g3, bn_s, bp_s, nm_s, wM_s, opt_some, opt_none, le_n, lt_n, eq_n, nI_add, pk_mul, sub_n, gin_n, ix_n, in_n, in_upto, div_n, rem_n, gnz_n]
              exact ⟨_, _, _, rfl, rfl, hR⟩
            · by_cases c1 : v = 1
              · subst c1
                simp (disch := omega) [ck, n_nneg, c, c', eo j 1 c, g2, g4, bn_s, bp_s, nm_s, wM_s, opt_some, opt_none, le_n, lt_n, eq_n, nI_add, pk_mul, sub_n, gin_n, ix_n, in_n, in_upto, div_n, rem_n, gnz_n]
                exact ⟨_, _, _, rfl, rfl, hR⟩
              · by_cases c2 : v = 2
                · subst c2
                  simp (disch := omega) [ck, n_nneg, c, c', eo j 2 c, g5, g6, bn_s, bp_s, nm_s, wM_s, opt_some, opt_none, le_n, lt_n, eq_n, nI_add, pk_mul, sub_n, gin_n, ix_n, in_n, in_upto, div_n, rem_n, gnz_n]
                  exact ⟨_, _, _, rfl, rfl, hR⟩
                · have c3 : ¬ v ≤ 2 := by omega
                  simp (disch := omega) [ck, n_nneg, c, c', c0, c1, c2, c3, bn_s, bp_s, nm_s, wM_s, opt_some, opt_none, le_n, lt_n, eq_n, nI_add, pk_mul, sub_n, gin_n, ix_n, in_n, in_upto, div_n, rem_n, gnz_n]
                  exact ⟨_, _, _, rfl, rfl, hR⟩
        · simp (disch := omega) [ck, n_nneg, c, bn_s, bp_s, nm_s, wM_s, opt_some, opt_none, le_n, lt_n, eq_n, nI_add, pk_mul, sub_n, gin_n, ix_n, in_n, in_upto, div_n, rem_n, gnz_n]
          exact ⟨_, _, _, rfl, rfl, hR⟩
/-! coat -/
theorem hasSeam_v {M : Mem} {o n : Nat} (h : gI M o 0 = nI n) (hn : n < 2147483648) {s : Nat} (hs : s < 2147483648) : f_X0_hasSeam M o (nI s) = some (decide (s < n)) := by
  unfold f_X0_hasSeam
  rw [h]
  by_cases c : s < n
  · simp (disch := omega) [n_nneg, c, bn_s, bp_s, nm_s, wM_s, opt_some, opt_none, le_n, lt_n, eq_n, nI_add, pk_mul, sub_n, gin_n, ix_n, in_n, in_upto, div_n, rem_n, gnz_n]
  · simp (disch := omega) [n_nneg, c, bn_s, bp_s, nm_s, wM_s, opt_some, opt_none, le_n, lt_n, eq_n, nI_add, pk_mul, sub_n, gin_n, ix_n, in_n, in_upto, div_n, rem_n, gnz_n]
theorem hasSeam_neg {M : Mem} {o : Nat} {a : Int32} (h : a < 0) : f_X0_hasSeam M o a = some false := by
  unfold f_X0_hasSeam
  rw [if_pos (show a < nI 0 from h)]
theorem isSeam_v {M : Mem} {n : Nat} (h : gI M 100 24 = nI n) (hn : n < 2147483648) {s : Nat} (hs : s < 2147483648) : f_X10_isSeam M (nI s) = some (decide (s < n)) := by
  unfold f_X10_isSeam
  rw [h, in_upto hs hn]
  rfl
theorem isSeam_neg {M : Mem} {a : Int32} (h : a < 0) : f_X10_isSeam M a = some false := by
  unfold f_X10_isSeam
  rw [in_neg h 0 (by omega)]
  rfl
theorem tell42_v {M : Mem} {o n : Nat} (h : gI M o 0 = nI n) (hn : n ≤ 9) {v : Nat} (hv : v < 2147483648) : f_X0_tell_42 M o (nI v) = some (if v < 10 ∨ ¬ v % 10 < n then -1 else if v / 10 = 1 then gA M o 2 (v % 10) else if v / 10 = 2 then gA M o 3 (v % 10) else if v / 10 = 3 then gA M o 4 (v % 10) else if v / 10 = 4 then gA M o 5 (v % 10) else -1) := by
  unfold f_X0_tell_42
  rw [rem_n hv (by omega) (by omega)]
  by_cases c : v < 10
  · simp (disch := omega) [c, bn_s, bp_s, nm_s, wM_s, opt_some, opt_none, le_n, lt_n, eq_n, nI_add, pk_mul, sub_n, gin_n, ix_n, in_n, in_upto, div_n, rem_n, gnz_n]
  · have e := hasSeam_v (M := M) (o := o) h (by omega) (s := v % 10) (by omega)
    by_cases c2 : v % 10 < n
    · by_cases d1 : v / 10 = 1
      · simp (disch := omega) [c, e, c2, d1, bn_s, bp_s, nm_s, wM_s, opt_some, opt_none, le_n, lt_n, eq_n, nI_add, pk_mul, sub_n, gin_n, ix_n, in_n, in_upto, div_n, rem_n, gnz_n]
      · by_cases d2 : v / 10 = 2
        · simp (disch := omega) [c, e, c2, d2, bn_s, bp_s, nm_s, wM_s, opt_some, opt_none, le_n, lt_n, eq_n, nI_add, pk_mul, sub_n, gin_n, ix_n, in_n, in_upto, div_n, rem_n, gnz_n]
        · by_cases d3 : v / 10 = 3
          · simp (disch := omega) [c, e, c2, d3, bn_s, bp_s, nm_s, wM_s, opt_some, opt_none, le_n, lt_n, eq_n, nI_add, pk_mul, sub_n, gin_n, ix_n, in_n, in_upto, div_n, rem_n, gnz_n]
          · by_cases d4 : v / 10 = 4
            · simp (disch := omega) [c, e, c2, d4, bn_s, bp_s, nm_s, wM_s, opt_some, opt_none, le_n, lt_n, eq_n, nI_add, pk_mul, sub_n, gin_n, ix_n, in_n, in_upto, div_n, rem_n, gnz_n]
            · simp (disch := omega) [c, e, c2, d1, d2, d3, d4, bn_s, bp_s, nm_s, wM_s, opt_some, opt_none, le_n, lt_n, eq_n, nI_add, pk_mul, sub_n, gin_n, ix_n, in_n, in_upto, div_n, rem_n, gnz_n]
    · simp (disch := omega) [c, e, c2, bn_s, bp_s, nm_s, wM_s, opt_some, opt_none, le_n, lt_n, eq_n, nI_add, pk_mul, sub_n, gin_n, ix_n, in_n, in_upto, div_n, rem_n, gnz_n]
theorem q_coat {Mx Mm : Mem} (H : Rl Mx Mm) (a w : Int32) : EqI Mx Mm (wM (f_X9_coat Mx a w) Mx) (f_X10_coat Mm a w) := by
  have h0 := FM_sI Mm (o := 100) (k := 0) (v := nI 0)
  unfold f_X9_coat f_X10_coat
  rw [nm_s]
  rcases coat_cases H a with ⟨e1, e2⟩ | ⟨k, C, hk, rfl, hV, hX, hM, e1, e2⟩
  · rw [e1, e2 _ h0]
    exact ⟨_, _, _, rfl, rfl, Rl_fr H (FX_rf Mx) h0⟩
  · have hR := Rl_fr H (FX_rf Mx) (FM_tr h0 (FM_mh _ k C))
    rw [e1, e2 _ h0, bn_s, bp_s, if_pos rfl, opt_some]
    obtain ⟨hN, -⟩ := hV
    obtain ⟨x0, x1, x2, x3, x4⟩ := hX
    have hH := mh_MH (M := sI Mm 100 0 (nI 0)) hk (CM_cg rfl hM)
    obtain ⟨m0, m1, m2, m3, m4⟩ := hM
    obtain ⟨-, y0, y1, y2, -⟩ := hH
    have eo : ∀ j, j < 276 → f_X10_of (mh (sI Mm 100 0 (nI 0)) k C) (nI j) = some (gA Mm 100 6 (138 * k + j)) := fun j hj => of_v y0 hk hj
    unfold f_X0_tell
    rcases int_cases w with h | ⟨v, hv, rfl⟩
    · have z1 := neg_lt h 100 (by omega)
      have z2 := neg_lt h 10 (by omega)
      unfold f_X0_tell_42
      simp (disch := omega) [neg_ne h, in_neg h, z1, z2, bn_s, bp_s, nm_s, wM_s, opt_some, opt_none, le_n, lt_n, eq_n, nI_add, pk_mul, sub_n, gin_n, ix_n, in_n, in_upto, div_n, rem_n, gnz_n]
      exact ⟨_, _, _, rfl, rfl, hR⟩
    · by_cases c0 : v = 0
      · subst c0
        simp (disch := omega) [eo, x0, m0, bn_s, bp_s, nm_s, wM_s, opt_some, opt_none, le_n, lt_n, eq_n, nI_add, pk_mul, sub_n, gin_n, ix_n, in_n, in_upto, div_n, rem_n, gnz_n]
        exact ⟨_, _, _, rfl, rfl, hR⟩
      by_cases c1 : v = 1
      · subst c1
        simp (disch := omega) [eo, x1, m1, bn_s, bp_s, nm_s, wM_s, opt_some, opt_none, le_n, lt_n, eq_n, nI_add, pk_mul, sub_n, gin_n, ix_n, in_n, in_upto, div_n, rem_n, gnz_n]
        exact ⟨_, _, _, rfl, rfl, hR⟩
      by_cases c2 : 100 ≤ v ∧ v < 200
      · obtain ⟨c3, c4⟩ := c2
        have c5 : ¬ v < 100 := by omega
        have c6 : ¬ 200 ≤ v := by omega
        have c7 : v ≤ 199 := by omega
        have e := x4 (v - 100) (by omega)
        have e' := m4 (v - 100) (by omega)
        have e2 : 38 + v - 100 = 38 + (v - 100) := by omega
        simp (disch := omega) [c0, c1, c3, c5, c6, c7, eo, e, e', e2, bn_s, bp_s, nm_s, wM_s, opt_some, opt_none, le_n, lt_n, eq_n, nI_add, pk_mul, sub_n, gin_n, ix_n, in_n, in_upto, div_n, rem_n, gnz_n]
        exact ⟨_, _, _, rfl, rfl, hR⟩
      · have hT := tell42_v x0 (by omega) hv
        have c3 : f_X0_tell Mx (2 + k) (nI v) = f_X0_tell_42 Mx (2 + k) (nI v) := by
          unfold f_X0_tell
          by_cases z : v < 100
          · simp (disch := omega) [c0, c1, z, bn_s, bp_s, nm_s, wM_s, opt_some, opt_none, le_n, lt_n, eq_n, nI_add, pk_mul, sub_n, gin_n, ix_n, in_n, in_upto, div_n, rem_n, gnz_n]
          · have z2 : 200 ≤ v := by omega
            simp (disch := omega) [c0, c1, z, z2, bn_s, bp_s, nm_s, wM_s, opt_some, opt_none, le_n, lt_n, eq_n, nI_add, pk_mul, sub_n, gin_n, ix_n, in_n, in_upto, div_n, rem_n, gnz_n]
        unfold f_X0_tell at c3
        rw [c3, hT, rem_n hv (by omega) (by omega)]
        have i1 : f_X10_in (nI v) (nI 100) (nI 199) = some false := by
          rw [in_n hv (by omega) (by omega)]; congr 1; simp; omega
        have i2 : ∀ b : Bool, b = decide (v ≤ 1) → f_X10_in (nI v) (nI 0) (nI 1) = some false := by
          intro b _
          rw [in_n hv (by omega) (by omega)]; congr 1; simp; omega
        have i2 := i2 _ rfl
        have hS := isSeam_v (M := mh (sI Mm 100 0 (nI 0)) k C) y1 (by omega) (s := v % 10) (by omega)
        by_cases c10 : v < 10
        · have i3 : f_X10_in (nI v) (nI 10) (nI 49) = some false := by
            rw [in_n hv (by omega) (by omega)]; congr 1; simp; omega
          simp (disch := omega) [c10, i1, i2, i3, bn_s, bp_s, nm_s, wM_s, opt_some, opt_none, le_n, lt_n, eq_n, nI_add, pk_mul, sub_n, gin_n, ix_n, in_n, in_upto, div_n, rem_n, gnz_n]
          exact ⟨_, _, _, rfl, rfl, hR⟩
        by_cases c49 : v ≤ 49
        · have i3 : f_X10_in (nI v) (nI 10) (nI 49) = some true := by
            rw [in_n hv (by omega) (by omega)]; congr 1; simp; omega
          by_cases c2 : v % 10 < cN C
          · obtain ⟨s1, s2, s3⟩ := x2 _ c2
            obtain ⟨r1, r2, r3⟩ := m2 _ c2
            have s4 := x3 (v % 10) (by omega)
            have r4 := m3 (v % 10) (by omega)
            rcases (show v / 10 = 1 ∨ v / 10 = 2 ∨ v / 10 = 3 ∨ v / 10 = 4 by omega) with d | d | d | d
            · simp (disch := omega) [c10, i1, i3, hS, c2, d, eo, s1, r1, bn_s, bp_s, nm_s, wM_s, opt_some, opt_none, le_n, lt_n, eq_n, nI_add, pk_mul, sub_n, gin_n, ix_n, in_n, in_upto, div_n, rem_n, gnz_n]
              exact ⟨_, _, _, rfl, rfl, hR⟩
            · simp (disch := omega) [c10, i1, i3, hS, c2, d, eo, s2, r2, bn_s, bp_s, nm_s, wM_s, opt_some, opt_none, le_n, lt_n, eq_n, nI_add, pk_mul, sub_n, gin_n, ix_n, in_n, in_upto, div_n, rem_n, gnz_n]
              exact ⟨_, _, _, rfl, rfl, hR⟩
            · simp (disch := omega) [c10, i1, i3, hS, c2, d, eo, s3, r3, bn_s, bp_s, nm_s, wM_s, opt_some, opt_none, le_n, lt_n, eq_n, nI_add, pk_mul, sub_n, gin_n, ix_n, in_n, in_upto, div_n, rem_n, gnz_n]
              exact ⟨_, _, _, rfl, rfl, hR⟩
            · simp (disch := omega) [c10, i1, i3, hS, c2, d, eo, s4, r4, bn_s, bp_s, nm_s, wM_s, opt_some, opt_none, le_n, lt_n, eq_n, nI_add, pk_mul, sub_n, gin_n, ix_n, in_n, in_upto, div_n, rem_n, gnz_n]
              exact ⟨_, _, _, rfl, rfl, hR⟩
          · simp (disch := omega) [c10, i1, i3, hS, c2, bn_s, bp_s, nm_s, wM_s, opt_some, opt_none, le_n, lt_n, eq_n, nI_add, pk_mul, sub_n, gin_n, ix_n, in_n, in_upto, div_n, rem_n, gnz_n]
            exact ⟨_, _, _, rfl, rfl, hR⟩
        · have i3 : f_X10_in (nI v) (nI 10) (nI 49) = some false := by
            rw [in_n hv (by omega) (by omega)]; congr 1; simp; omega
          have d1 : ¬ v / 10 = 1 := by omega
          have d2 : ¬ v / 10 = 2 := by omega
          have d3 : ¬ v / 10 = 3 := by omega
          have d4 : ¬ v / 10 = 4 := by omega
          simp (disch := omega) [d1, d2, d3, d4, i1, i2, i3, bn_s, bp_s, nm_s, wM_s, opt_some, opt_none, le_n, lt_n, eq_n, nI_add, pk_mul, sub_n, gin_n, ix_n, in_n, in_upto, div_n, rem_n, gnz_n]
          exact ⟨_, _, _, rfl, rfl, hR⟩
