/-! SIGHTS: fits and sure -/
theorem lcmp_eq {a b : Nat} (ha : a < 2 ^ 63) (hb : b < 2 ^ 63) : (lg_cmp (lN a) (lN b) = nI 0) = (a = b) := by
  apply propext
  constructor
  · intro h
    have h1 : lg_cmp (lN a) (lN b) ≤ nI 0 := by rw [h]; exact nI_le (Nat.le_refl _) (by omega)
    have h2 : nI 0 ≤ lg_cmp (lN a) (lN b) := by rw [h]; exact nI_le (Nat.le_refl _) (by omega)
    rw [lcmp_le ha hb] at h1
    rw [lcmp_ge ha hb] at h2
    omega
  · intro h
    have h1 : lg_cmp (lN a) (lN b) ≤ nI 0 := by rw [lcmp_le ha hb]; omega
    have h2 : nI 0 ≤ lg_cmp (lN a) (lN b) := by rw [lcmp_ge ha hb]; omega
    exact Int32.le_antisymm h1 h2
def p512 : Nat → Bool := fun k => k == 51 || k == 52
/-- both tables of the reference -/
def ST1 (M : Mem) (C : CoatA) (S : SightA) : Prop := ∀ j, j < 2 ^ cN C → gB M 100 51 j = lN (fwd (so C S) (cN C) (2 ^ cN C - 1) j)
def ST2 (M : Mem) (C : CoatA) (S : SightA) : Prop := ∀ j, j < 2 ^ cN C → gB M 100 52 j = lN (gw (so C S) (cN C) j)
section Sight
variable {M : Mem} {k l : Nat} {C : CoatA} {S : SightA}
theorem findSo3 (hH : MH M k C) (hV : CV C) (h : MS M l S) (e35 : gI M 100 35 = nI (2 ^ cN C - 1)) {M2 : Mem} (hf : FK 100 p512 M M2) (ht : ST1 M2 C S) : ∃ M', f_X10_findSo_112 FU (nI (2 ^ cN C - 1), M2) = some M' ∧ FK 100 p512 M M' ∧ ST1 M' C S ∧ ST2 M' C S := by
  have hn := hV.1
  have h24 := hH.2.2.1
  obtain ⟨-, w2, w3⟩ := pw9 (cN C) (by omega)
  have ed : dnI (2 ^ cN C) = nI (2 ^ cN C - 1) := by unfold dnI; rw [sub_n (by omega)]
  unfold f_X10_findSo_112
  refine lpU_inv (fun i a => ∃ M', a = (dnI (2 ^ cN C - i), M') ∧ FK 100 p512 M M' ∧ ST1 M' C S ∧ ∀ j, 2 ^ cN C - i ≤ j → j < 2 ^ cN C → gB M' 100 52 j = lN (gw (so C S) (cN C) j)) (2 ^ cN C) (fun x => ∃ M', x = some M' ∧ FK 100 p512 M M' ∧ ST1 M' C S ∧ ST2 M' C S) (by omega) ?_ ?_ 0 _ (Nat.zero_le _) ⟨M2, by rw [Nat.sub_zero, ed], hf, ht, fun j h1 h2 => by omega⟩
  · rintro rc a ⟨M3, rfl, hf3, ht3, hg3⟩
    show ∃ M', b_X10_findSo_112 _ (dnI (2 ^ cN C - 2 ^ cN C)) M3 = _ ∧ _
    unfold b_X10_findSo_112
    rw [Nat.sub_self, if_pos dnI_0]
    exact ⟨M3, rfl, hf3, ht3, fun j hj => hg3 j (by omega) hj⟩
  · rintro rc i a hi ⟨M3, rfl, hf3, ht3, hg3⟩
    refine Or.inr ?_
    show ∃ a', _ ∧ b_X10_findSo_112 _ (dnI (2 ^ cN C - i)) M3 = _
    unfold b_X10_findSo_112
    obtain ⟨v, hv⟩ : ∃ v, 2 ^ cN C - i = v + 1 := ⟨2 ^ cN C - i - 1, by omega⟩
    have e0 : (if v = 2 ^ cN C - 1 then f_X10_findSo_134 (fun x0 x1 => rc (x0, x1)) (nI v) (nI v) (lN 1) M3 else f_X10_findSo_134 (fun x0 x1 => rc (x0, x1)) (nI v) (nI v) (lN 0) M3) = f_X10_findSo_134 (fun x0 x1 => rc (x0, x1)) (nI v) (nI v) (lN (if v = 2 ^ cN C - 1 then 1 else 0)) M3 := by split <;> rfl
    rw [hv, dnI_s, if_neg (n_nneg (by omega)), hf3.1, e35, ite_p (eq_n (a := v) (b := 2 ^ cN C - 1) (by omega) (by omega)), e0]
    unfold f_X10_findSo_134
    rw [gin_n (by omega) (by omega), ix_n (by omega), nm_s]
    unfold f_X10_findSo_137
    refine lpU_inv (fun s a => ∃ M4, a = (nI s, M4) ∧ FK 100 p512 M M4 ∧ ST1 M4 C S ∧ (∀ j, v < j → j < 2 ^ cN C → gB M4 100 52 j = lN (gw (so C S) (cN C) j)) ∧ gB M4 100 52 v = lN ((if v = 2 ^ cN C - 1 then 1 else 0) + gSum (fun s => if so C S v s then gw (so C S) (cN C) (v ||| 2 ^ s) else 0) s)) (cN C) (fun x => ∃ a', (∃ M', a' = (dnI (2 ^ cN C - (i + 1)), M') ∧ FK 100 p512 M M' ∧ ST1 M' C S ∧ ∀ j, 2 ^ cN C - (i + 1) ≤ j → j < 2 ^ cN C → gB M' 100 52 j = lN (gw (so C S) (cN C) j)) ∧ x = rc a') (by omega) ?_ ?_ 0 _ (Nat.zero_le _) ⟨_, rfl, FK_tr hf3 (FK_sB _ rfl), fun j hj => ?_, fun j h1 h2 => ?_, ?_⟩
    · rintro rc2 a ⟨M4, rfl, hf4, ht4, hg4, hv4⟩
      show ∃ a', _ ∧ b_X10_findSo_137 _ (nI v) _ (nI (cN C)) M4 = _
      unfold b_X10_findSo_137
      rw [hf4.1, h24, if_pos (nI_le (Nat.le_refl _) (by omega)), dnI_n, nm_s]
      have ev : 2 ^ cN C - (i + 1) = v := by omega
      refine ⟨_, ⟨M4, by rw [ev], hf4, ht4, fun j h1 h2 => ?_⟩, rfl⟩
      by_cases q : j = v
      · rw [q, hv4]
        by_cases r : v = 2 ^ cN C - 1
        · rw [if_pos r, gS_0 (cN C) (fun s hs => by
            show (if so C S v s = true then _ else 0) = 0
            rw [if_neg]
            intro y
            have := so_n v s y
            rw [r, all_tb, decide_eq_true hs] at this
            exact absurd this (by decide)), r, gw_all so_n hn]
        · rw [if_neg r, Nat.zero_add, gw_in so_n hn (by omega)]
      · exact hg4 j (by omega) h2
    · rintro rc2 s a hs ⟨M4, rfl, hf4, ht4, hg4, hv4⟩
      refine Or.inr ?_
      show ∃ a', _ ∧ b_X10_findSo_137 _ (nI v) _ (nI s) M4 = _
      unfold b_X10_findSo_137 f_X10_findSo_175
      have ho := or_lt (S := v) (n := cN C) (s := s) (by omega) hs
      have eS : ∀ x, (if so C S v s = true then gw (so C S) (cN C) (v ||| 2 ^ s) else 0) = x → lN ((if v = 2 ^ cN C - 1 then 1 else 0) + gSum (fun s => if so C S v s then gw (so C S) (cN C) (v ||| 2 ^ s) else 0) s) + lN x = lN ((if v = 2 ^ cN C - 1 then 1 else 0) + gSum (fun s => if so C S v s then gw (so C S) (cN C) (v ||| 2 ^ s) else 0) (s + 1)) := by
        intro x ex
        rw [lN_add, ← ex, Nat.add_assoc]
        rfl
      rw [hf4.1, h24, if_neg (nI_ge hs (by omega)), gin_n (by omega) (by omega), isSo_v (MH_FK hH hf4 rfl) hV (MS_FK h hf4 rfl) (by omega) hs, bn_s, nI_add, or_nI (by omega)]
      by_cases r : so C S v s = true
      · have hgt := or_gt (so_n v s r)
        rw [if_pos r, gin_n (by omega) (by omega), ix_n (by omega), ix_n (by omega), hg4 _ hgt ho, hv4, eS _ (if_pos r), gin_n (by omega) (by omega), nm_s, nm_s]
        refine ⟨_, ⟨_, rfl, FK_tr hf4 (FK_sB _ rfl), fun j hj => ?_, fun j h1 h2 => ?_, ?_⟩, rfl⟩
        · rw [gB_sB, if_neg (by omega)]; exact ht4 j hj
        · rw [gB_sB, if_neg (by omega)]; exact hg4 j h1 h2
        · rw [gB_sB, if_pos ⟨rfl, rfl, rfl⟩]
      · rw [if_neg r, ix_n (by omega), hv4, eS _ (if_neg r), gin_n (by omega) (by omega), nm_s, nm_s]
        refine ⟨_, ⟨_, rfl, FK_tr hf4 (FK_sB _ rfl), fun j hj => ?_, fun j h1 h2 => ?_, ?_⟩, rfl⟩
        · rw [gB_sB, if_neg (by omega)]; exact ht4 j hj
        · rw [gB_sB, if_neg (by omega)]; exact hg4 j h1 h2
        · rw [gB_sB, if_pos ⟨rfl, rfl, rfl⟩]
    · rw [gB_sB, if_neg (by omega)]; exact ht3 j hj
    · rw [gB_sB, if_neg (by omega)]; exact hg3 j (by omega) h2
    · rw [gB_sB, if_pos ⟨rfl, rfl, rfl⟩]
      rfl
theorem findSo2 (hH : MH M k C) (hV : CV C) (h : MS M l S) (e35 : gI M 100 35 = nI (2 ^ cN C - 1)) {M2 : Mem} (hf : FK 100 p512 M M2) (ht : ∀ j, j < 2 ^ cN C → gB M2 100 51 j = lN (fwd (so C S) (cN C) 0 j)) : ∃ M', f_X10_findSo_45 FU (nI 0, M2) = some M' ∧ FK 100 p512 M M' ∧ ST1 M' C S ∧ ST2 M' C S := by
  have hn := hV.1
  have h24 := hH.2.2.1
  obtain ⟨-, w2, w3⟩ := pw9 (cN C) (by omega)
  unfold f_X10_findSo_45
  refine lpU_inv (fun i a => ∃ M', a = (nI i, M') ∧ FK 100 p512 M M' ∧ ∀ j, j < 2 ^ cN C → gB M' 100 51 j = lN (fwd (so C S) (cN C) i j)) (2 ^ cN C - 1) (fun x => ∃ M', x = some M' ∧ FK 100 p512 M M' ∧ ST1 M' C S ∧ ST2 M' C S) (by omega) ?_ ?_ 0 _ (Nat.zero_le _) ⟨M2, rfl, hf, ht⟩
  · rintro rc a ⟨M3, rfl, hf3, ht3⟩
    show ∃ M', b_X10_findSo_45 _ (nI (2 ^ cN C - 1)) M3 = _ ∧ _
    unfold b_X10_findSo_45
    rw [hf3.1, e35, if_pos (nI_le (Nat.le_refl _) (by omega)), nm_s]
    exact findSo3 hH hV h e35 hf3 ht3
  · rintro rc i a hi ⟨M3, rfl, hf3, ht3⟩
    refine Or.inr ?_
    show ∃ a', _ ∧ b_X10_findSo_45 _ (nI i) M3 = _
    unfold b_X10_findSo_45
    rw [hf3.1, e35, if_neg (nI_ge hi (by omega))]
    unfold f_X10_findSo_55
    refine lpU_inv (fun s a => ∃ M4, a = (nI s, M4) ∧ FK 100 p512 M M4 ∧ ∀ j, j < 2 ^ cN C → gB M4 100 51 j = lN (psh (so C S) (fwd (so C S) (cN C) i) i s j)) (cN C) (fun x => ∃ a', (∃ M', a' = (nI (i + 1), M') ∧ FK 100 p512 M M' ∧ ∀ j, j < 2 ^ cN C → gB M' 100 51 j = lN (fwd (so C S) (cN C) (i + 1) j)) ∧ x = rc a') (by omega) ?_ ?_ 0 _ (Nat.zero_le _) ⟨M3, rfl, hf3, ht3⟩
    · rintro rc2 a ⟨M4, rfl, hf4, ht4⟩
      show ∃ a', _ ∧ b_X10_findSo_55 _ (nI i) _ (nI (cN C)) M4 = _
      unfold b_X10_findSo_55
      rw [hf4.1, h24, if_pos (nI_le (Nat.le_refl _) (by omega)), nI_add, nm_s]
      exact ⟨_, ⟨M4, rfl, hf4, ht4⟩, rfl⟩
    · rintro rc2 s a hs ⟨M4, rfl, hf4, ht4⟩
      refine Or.inr ?_
      show ∃ a', _ ∧ b_X10_findSo_55 _ (nI i) _ (nI s) M4 = _
      unfold b_X10_findSo_55 f_X10_findSo_93
      have ho := or_lt (S := i) (n := cN C) (s := s) (by omega) hs
      rw [hf4.1, h24, if_neg (nI_ge hs (by omega)), or_nI (by omega), gin_n (by omega) (by omega), isSo_v (MH_FK hH hf4 rfl) hV (MS_FK h hf4 rfl) (by omega) hs, bn_s, nI_add]
      by_cases r : so C S i s = true
      · rw [if_pos r, gin_n (by omega) (by omega), gin_n (by omega) (by omega), ix_n (by omega), ix_n (by omega), ht4 _ ho, ht4 _ (by omega), lN_add, nm_s, nm_s]
        refine ⟨_, ⟨_, rfl, FK_tr hf4 (FK_sB _ rfl), fun j hj => ?_⟩, rfl⟩
        rw [gB_sB]
        show _ = lN (if so C S i s = true ∧ j = i ||| 2 ^ s then _ else _)
        by_cases q : j = i ||| 2 ^ s
        · rw [if_pos ⟨rfl, rfl, q⟩, if_pos ⟨r, q⟩, q]
        · rw [if_neg (fun z => q z.2.2), if_neg (fun z => q z.2), ht4 j hj]
      · rw [if_neg r, gin_n (by omega) (by omega), ix_n (by omega), ht4 _ ho, lN_add, Nat.add_zero, nm_s, nm_s]
        refine ⟨_, ⟨_, rfl, FK_tr hf4 (FK_sB _ rfl), fun j hj => ?_⟩, rfl⟩
        rw [gB_sB]
        show _ = lN (if so C S i s = true ∧ j = i ||| 2 ^ s then _ else _)
        rw [if_neg (fun z : so C S i s = true ∧ j = i ||| 2 ^ s => r z.1)]
        by_cases q : j = i ||| 2 ^ s
        · rw [if_pos ⟨rfl, rfl, q⟩, q, Nat.add_zero]
        · rw [if_neg (fun z => q z.2.2), ht4 j hj]
/-- findSo -/
def FSo (M0 M' : Mem) (k l : Nat) (C : CoatA) (S : SightA) : Prop := FM M0 M' ∧ MH M' k C ∧ MS M' l S ∧ gI M' 100 35 = nI (2 ^ cN C - 1) ∧ ST1 M' C S ∧ ST2 M' C S
theorem findSo_v (hH : MH M k C) (hV : CV C) (h : MS M l S) : ∃ M', f_X10_findSo M = some M' ∧ FSo M M' k l C S := by
  have hn := hV.1
  have h24 : gI M 100 24 = nI (cN C) := hH.2.2.1
  obtain ⟨w1, w2, w3⟩ := pw9 (cN C) (by omega)
  unfold f_X10_findSo
  rw [h24, w1, nm_s]
  have hH1 : MH (sI M 100 35 (nI (2 ^ cN C - 1))) k C := mH_sI hH (by omega)
  have hS1 : MS (sI M 100 35 (nI (2 ^ cN C - 1))) l S := mS_sI h (by omega)
  have e35 : gI (sI M 100 35 (nI (2 ^ cN C - 1))) 100 35 = nI (2 ^ cN C - 1) := rfl
  have hF1 : FM M (sI M 100 35 (nI (2 ^ cN C - 1))) := FM_sI M
  generalize sI M 100 35 (nI (2 ^ cN C - 1)) = M1 at hH1 hS1 e35 hF1 ⊢
  have key : ∃ M', f_X10_findSo_14 FU (nI 0, M1) = some M' ∧ FK 100 p512 M1 M' ∧ ST1 M' C S ∧ ST2 M' C S := by
    unfold f_X10_findSo_14
    refine lpU_inv (fun i a => ∃ M', a = (nI i, M') ∧ FK 100 p512 M1 M' ∧ ∀ j, j < i → gB M' 100 51 j = lN (fwd (so C S) (cN C) 0 j)) (2 ^ cN C) (fun x => ∃ M', x = some M' ∧ FK 100 p512 M1 M' ∧ ST1 M' C S ∧ ST2 M' C S) (by omega) ?_ ?_ 0 _ (Nat.zero_le _) ⟨M1, rfl, FK_rf M1, fun j hj => by omega⟩
    · rintro rc a ⟨M3, rfl, hf3, ht3⟩
      show ∃ M', b_X10_findSo_14 _ (nI (2 ^ cN C)) M3 = _ ∧ _
      unfold b_X10_findSo_14
      rw [hf3.1, e35, if_pos (nI_lt (by omega) (by omega))]
      exact findSo2 hH1 hV hS1 e35 hf3 ht3
    · rintro rc i a hi ⟨M3, rfl, hf3, ht3⟩
      refine Or.inr ?_
      show ∃ a', _ ∧ b_X10_findSo_14 _ (nI i) M3 = _
      unfold b_X10_findSo_14
      have e0 : (if i = 0 then f_X10_findSo_36 (fun x0 x1 => rc (x0, x1)) (nI i) (nI i) (lN 1) M3 else f_X10_findSo_36 (fun x0 x1 => rc (x0, x1)) (nI i) (nI i) (lN 0) M3) = f_X10_findSo_36 (fun x0 x1 => rc (x0, x1)) (nI i) (nI i) (lN (if i = 0 then 1 else 0)) M3 := by split <;> rfl
      rw [hf3.1, e35, if_neg (nI_nlt (by omega) (by omega)), ite_p (eq_n (a := i) (b := 0) (by omega) (by omega)), e0]
      unfold f_X10_findSo_36
      rw [gin_n (by omega) (by omega), ix_n (by omega), nI_add, nm_s, nm_s]
      refine ⟨_, ⟨_, rfl, FK_tr hf3 (FK_sB _ rfl), fun j hj => ?_⟩, rfl⟩
      rw [gB_sB]
      show _ = lN (if j = 0 then 1 else 0)
      by_cases q : j = i
      · rw [if_pos ⟨rfl, rfl, q⟩, q]
      · rw [if_neg (fun z => q z.2.2)]
        exact ht3 j (by omega)
  obtain ⟨M', e1, e2, e3, e4⟩ := key
  refine ⟨M', e1, FM_tr hF1 (FM_q e2 (fun k hk => ?_)), MH_FK hH1 e2 rfl, MS_FK hS1 e2 rfl, by rw [e2.1]; exact e35, e3, e4⟩
  unfold p512
  simp
  omega
/-! the reference's sums -/
def hSm (C : CoatA) (S : SightA) (z : Nat) (c : Nat → Bool) (T : Nat) : Nat := (if (c T && so C S T z) = true then gw (so C S) (cN C) (T ||| 2 ^ z) else 0) * fwd (so C S) (cN C) (2 ^ cN C - 1) T
theorem hSm_s (hV : CV C) {z : Nat} (hz : z < cN C) (c : Nat → Bool) : gSum (hSm C S z c) (2 ^ cN C - 1) = gw (rst (so C S) z c) (cN C) 0 := rst_sum so_n hV.1 hz c
theorem hSm_t {z T : Nat} {c : Nat → Bool} (h1 : c T = true) (h2 : so C S T z = true) : hSm C S z c T = fwd (so C S) (cN C) (2 ^ cN C - 1) T * gw (so C S) (cN C) (T ||| 2 ^ z) := by
  unfold hSm
  rw [h1, h2, if_pos (by decide), Nat.mul_comm]
theorem hSm_f {z T : Nat} {c : Nat → Bool} (h : (c T && so C S T z) = false) : hSm C S z c T = 0 := by
  unfold hSm
  rw [h, if_neg (by decide), Nat.zero_mul]
theorem holdsM_v {M0 : Mem} (h : FSo M0 M k l C S) (hV : CV C) {z p : Nat} (hz : z < cN C) (hp : p < cN C) : f_X10_holds M (nI z) (nI p) = some (lN (gw (rst (so C S) z (fun T => pc T 9 == p)) (cN C) 0)) := by
  obtain ⟨-, hH, hS, e35, t1, t2⟩ := h
  have hn := hV.1
  obtain ⟨-, w2, w3⟩ := pw9 (cN C) (by omega)
  rw [← hSm_s hV hz]
  unfold f_X10_holds
  rw [nm_s]
  unfold f_X10_holds_5
  refine lpU_for (fun i => (lN (gSum (hSm C S z (fun T => pc T 9 == p)) i), nI i)) (2 ^ cN C - 1) _ (by omega) 0 (Nat.zero_le _) ?_ ?_
  · intro rc
    show b_X10_holds_5 M (nI z) (nI p) _ _ (nI (2 ^ cN C - 1)) = _
    unfold b_X10_holds_5
    rw [e35, if_pos (nI_le (Nat.le_refl _) (by omega))]
  · intro rc i _ hi
    have hl := pc_le i 9
    have ho := or_lt (S := i) (n := cN C) (s := z) (by omega) hz
    have eF : lN (gSum (hSm C S z (fun T => pc T 9 == p)) (i + 1)) = lN (gSum (hSm C S z (fun T => pc T 9 == p)) i) + lN (hSm C S z (fun T => pc T 9 == p) i) := (lN_add _ _).symm
    rw [eF]
    show b_X10_holds_5 M (nI z) (nI p) _ _ (nI i) = _
    unfold b_X10_holds_5 f_X10_holds_37 f_X10_holds_38 f_X10_holds_69
    rw [e35, if_neg (nI_ge hi (by omega)), ones_v (by omega), bn_s, ite_p (eq_n (a := pc i 9) (b := p) (by omega) (by omega)), nI_add]
    by_cases c1 : pc i 9 = p
    · have c1' : (fun T => pc T 9 == p) i = true := by show (pc i 9 == p) = true; rw [c1]; simp
      rw [if_pos c1, isSo_v hH hV hS (by omega) hz, bn_s]
      by_cases c2 : so C S i z = true
      · rw [if_pos c2, if_pos rfl, gin_n (by omega) (by omega), or_nI (by omega), gin_n (by omega) (by omega), ix_n (by omega), ix_n (by omega), t1 i (by omega), t2 _ ho, lN_mul, nm_s, nm_s, hSm_t (c := fun T => pc T 9 == p) c1' c2]
      · have c2' : ((fun T => pc T 9 == p) i && so C S i z) = false := by
          rw [c1']
          simpa using c2
        rw [if_neg c2]
        simp only [Bool.false_eq_true, if_false, nm_s]
        rw [hSm_f (c := fun T => pc T 9 == p) c2', nI_add]
    · have c1' : ((fun T => pc T 9 == p) i && so C S i z) = false := by
        show ((pc i 9 == p) && _) = false
        have : (pc i 9 == p) = false := by rw [beq_eq_false_iff_ne]; exact c1
        rw [this]
        rfl
      rw [if_neg c1]
      simp only [Bool.false_eq_true, if_false, nm_s]
      rw [hSm_f (c := fun T => pc T 9 == p) c1', nI_add]
theorem aheadM_v {M0 : Mem} (h : FSo M0 M k l C S) (hV : CV C) {a b : Nat} (ha : a < cN C) (hb : b < cN C) : f_X10_aheadOf M (nI a) (nI b) = some (lN (gw (rst (so C S) b (fun T => T.testBit a)) (cN C) 0)) := by
  obtain ⟨-, hH, hS, e35, t1, t2⟩ := h
  have hn := hV.1
  obtain ⟨-, w2, w3⟩ := pw9 (cN C) (by omega)
  rw [← hSm_s hV hb]
  unfold f_X10_aheadOf
  rw [nm_s]
  unfold f_X10_aheadOf_5
  refine lpU_for (fun i => (lN (gSum (hSm C S b (fun T => T.testBit a)) i), nI i)) (2 ^ cN C - 1) _ (by omega) 0 (Nat.zero_le _) ?_ ?_
  · intro rc
    show b_X10_aheadOf_5 M (nI a) (nI b) _ _ (nI (2 ^ cN C - 1)) = _
    unfold b_X10_aheadOf_5
    rw [e35, if_pos (nI_le (Nat.le_refl _) (by omega))]
  · intro rc i _ hi
    have ho := or_lt (S := i) (n := cN C) (s := b) (by omega) hb
    have eF : lN (gSum (hSm C S b (fun T => T.testBit a)) (i + 1)) = lN (gSum (hSm C S b (fun T => T.testBit a)) i) + lN (hSm C S b (fun T => T.testBit a) i) := (lN_add _ _).symm
    rw [eF]
    show b_X10_aheadOf_5 M (nI a) (nI b) _ _ (nI i) = _
    unfold b_X10_aheadOf_5 f_X10_aheadOf_56 f_X10_aheadOf_57
    rw [e35, if_neg (nI_ge hi (by omega)), has_v (by omega) (by omega), bn_s, nI_add]
    by_cases c1 : i.testBit a = true
    · have c1' : (fun T : Nat => T.testBit a) i = true := c1
      rw [if_pos c1, isSo_v hH hV hS (by omega) hb, bn_s]
      by_cases c2 : so C S i b = true
      · rw [if_pos c2, gin_n (by omega) (by omega), or_nI (by omega), gin_n (by omega) (by omega), ix_n (by omega), ix_n (by omega), t1 i (by omega), t2 _ ho, lN_mul, nm_s, nm_s, hSm_t (c := fun T : Nat => T.testBit a) c1' c2]
      · have c2' : ((fun T : Nat => T.testBit a) i && so C S i b) = false := by
          rw [c1']
          simpa using c2
        rw [if_neg c2]
        simp only [nm_s]
        rw [hSm_f (c := fun T : Nat => T.testBit a) c2', nI_add]
    · have c1' : ((fun T : Nat => T.testBit a) i && so C S i b) = false := by
        show (i.testBit a && _) = false
        have : i.testBit a = false := by simpa using c1
        rw [this]
        rfl
      rw [if_neg c1]
      simp only [nm_s]
      rw [hSm_f (c := fun T : Nat => T.testBit a) c1', nI_add]
end Sight
/-! which couple to ask for -/
def ask1 (q : Nat × Nat) (c v : Nat) : Nat × Nat := if q.1 = 0 ∨ v < q.2 then (c + 1, v) else q
def akB (v : Nat → Nat → Nat) (a : Nat) (q : Nat × Nat) : Nat → Nat × Nat
  | 0 => q
  | j + 1 => ask1 (akB v a q j) (9 * a + (a + 1 + j)) (v a (a + 1 + j))
def akA (v : Nat → Nat → Nat) (n : Nat) : Nat → Nat × Nat
  | 0 => (0, 0)
  | a + 1 => akB v a (akA v n a) (n - (a + 1))
theorem akB_b {v : Nat → Nat → Nat} {a n B : Nat} (hn : n ≤ 9) (ha : a < n) (hv : ∀ b, b < n → v a b ≤ B) {q : Nat × Nat} (hq : q.1 ≤ 100 ∧ q.2 ≤ B) : ∀ j, j ≤ n - (a + 1) → (akB v a q j).1 ≤ 100 ∧ (akB v a q j).2 ≤ B := by
  intro j
  induction j with
  | zero => intro _; exact hq
  | succ j ih =>
    intro hj
    have i := ih (by omega)
    have h := hv (a + 1 + j) (by omega)
    show (ask1 (akB v a q j) (9 * a + (a + 1 + j)) (v a (a + 1 + j))).1 ≤ 100 ∧ (ask1 (akB v a q j) (9 * a + (a + 1 + j)) (v a (a + 1 + j))).2 ≤ B
    unfold ask1
    by_cases c : (akB v a q j).1 = 0 ∨ v a (a + 1 + j) < (akB v a q j).2
    · rw [if_pos c]
      exact ⟨by show 9 * a + (a + 1 + j) + 1 ≤ 100; omega, h⟩
    · rw [if_neg c]
      exact i
theorem akA_b {v : Nat → Nat → Nat} {n B : Nat} (hn : n ≤ 9) (hv : ∀ a b, a < n → b < n → v a b ≤ B) : ∀ a, a ≤ n → (akA v n a).1 ≤ 100 ∧ (akA v n a).2 ≤ B := by
  intro a
  induction a with
  | zero => intro _; exact ⟨Nat.zero_le _, Nat.zero_le _⟩
  | succ a ih => intro ha; exact akB_b hn (by omega) (fun b hb => hv a b (by omega) hb) (ih (by omega)) _ (Nat.le_refl _)
def vAs (G : Nat) (Ah : Nat → Nat → Nat) (a b : Nat) : Nat := max (Ah a b) (G - Ah a b)
theorem askM_v {M0 M : Mem} {k l : Nat} {C : CoatA} {S : SightA} (h : FSo M0 M k l C S) (hV : CV C) : f_X10_ask M = some (dnI (akA (vAs (gw (so C S) (cN C) 0) (fun a b => gw (rst (so C S) b (fun T => T.testBit a)) (cN C) 0)) (cN C) (cN C)).1) := by
  have hn := hV.1
  have h24 : gI M 100 24 = nI (cN C) := h.2.1.2.2.1
  have hp := Nat.two_pow_pos (cN C)
  have t0 : gB M 100 52 0 = lN (gw (so C S) (cN C) 0) := h.2.2.2.2.2 0 hp
  have hG : gw (so C S) (cN C) 0 ≤ 362880 := gw_FAR so_n hn
  have hAle : ∀ a b, gw (rst (so C S) b (fun T => T.testBit a)) (cN C) 0 ≤ gw (so C S) (cN C) 0 := fun a b => gw_mono so_n (fun S s q => (rst_t.mp q).1) hn _ 0 (Nat.zero_le _) (Nat.le_refl _)
  have hA := fun a b (ha : a < cN C) (hb : b < cN C) => aheadM_v h hV ha hb
  generalize gw (so C S) (cN C) 0 = G at t0 hG hAle ⊢
  generalize eAh : (fun a b => gw (rst (so C S) b (fun T => T.testBit a)) (cN C) 0) = Ah
  have hA2 : ∀ a b, a < cN C → b < cN C → f_X10_aheadOf M (nI a) (nI b) = some (lN (Ah a b)) := fun a b ha hb => by rw [← eAh]; exact hA a b ha hb
  have hAle2 : ∀ a b, Ah a b ≤ G := fun a b => by rw [← eAh]; exact hAle a b
  have hvb : ∀ a b, a < cN C → b < cN C → vAs G Ah a b ≤ 362880 := fun a b _ _ => by
    have := hAle2 a b
    unfold vAs
    omega
  have em : (-1 : Int32) = dnI 0 := by decide +kernel
  unfold f_X10_ask
  rw [nm_s, em]
  unfold f_X10_ask_7
  refine lpU_for (fun a => (dnI (akA (vAs G Ah) (cN C) a).1, lN (akA (vAs G Ah) (cN C) a).2, nI a)) (cN C) _ (by omega) 0 (Nat.zero_le _) ?_ ?_
  · intro rc
    show b_X10_ask_7 M _ _ _ (nI (cN C)) = _
    unfold b_X10_ask_7
    rw [h24, if_pos (nI_le (Nat.le_refl _) (by omega))]
  · intro rc a _ ha
    have hqb := akA_b hn hvb a (by omega)
    show b_X10_ask_7 M _ _ _ (nI a) = _
    unfold b_X10_ask_7
    rw [h24, if_neg (nI_ge ha (by omega)), nI_add, nm_s]
    show _ = rc (dnI (akB (vAs G Ah) a (akA (vAs G Ah) (cN C) a) (cN C - (a + 1))).1, lN (akB (vAs G Ah) a (akA (vAs G Ah) (cN C) a) (cN C - (a + 1))).2, nI (a + 1))
    generalize akA (vAs G Ah) (cN C) a = q0 at hqb ⊢
    unfold f_X10_ask_22
    refine lpU_for (fun j => (dnI (akB (vAs G Ah) a q0 j).1, lN (akB (vAs G Ah) a q0 j).2, nI (a + 1 + j))) (cN C - (a + 1)) _ (by omega) 0 (Nat.zero_le _) ?_ ?_
    · intro rc2
      have e : a + 1 + (cN C - (a + 1)) = cN C := by omega
      show b_X10_ask_22 M _ (nI a) _ _ _ (nI (a + 1 + (cN C - (a + 1)))) = _
      unfold b_X10_ask_22
      rw [e, h24, if_pos (nI_le (Nat.le_refl _) (by omega)), nI_add, nm_s]
    · intro rc2 j _ hj
      have hb : a + 1 + j < cN C := by omega
      have hq := akB_b hn ha (fun b hb => hvb a b ha hb) hqb j (by omega)
      have hle := hAle2 a (a + 1 + j)
      show b_X10_ask_22 M _ (nI a) _ _ _ (nI (a + 1 + j)) = rc2 (dnI (ask1 (akB (vAs G Ah) a q0 j) (9 * a + (a + 1 + j)) (vAs G Ah a (a + 1 + j))).1, lN (ask1 (akB (vAs G Ah) a q0 j) (9 * a + (a + 1 + j)) (vAs G Ah a (a + 1 + j))).2, nI (a + 1 + j + 1))
      have hv2 := hvb a (a + 1 + j) ha hb
      have ev : vAs G Ah a (a + 1 + j) = max (Ah a (a + 1 + j)) (G - Ah a (a + 1 + j)) := rfl
      have h70 : ∀ by' : Nat, by' = vAs G Ah a (a + 1 + j) → f_X10_ask_70 M (nI a) (fun x0 x1 x2 => rc2 (x0, x1, x2)) (dnI (akB (vAs G Ah) a q0 j).1) (lN (akB (vAs G Ah) a q0 j).2) (nI (a + 1 + j)) (lN by') = rc2 (dnI (ask1 (akB (vAs G Ah) a q0 j) (9 * a + (a + 1 + j)) (vAs G Ah a (a + 1 + j))).1, lN (ask1 (akB (vAs G Ah) a q0 j) (9 * a + (a + 1 + j)) (vAs G Ah a (a + 1 + j))).2, nI (a + 1 + j + 1)) := by
        rintro by' rfl
        unfold f_X10_ask_70 f_X10_ask_84 f_X10_ask_89 f_X10_ask_108 f_X10_ask_120 ask1
        rw [ite_p (dnI_m1 _ (by omega)), ite_p (lcmp_ge (by omega) (by omega)), pk_mul]
        simp only [nm_s, if_true, nI_add]
        by_cases c1 : (akB (vAs G Ah) a q0 j).1 = 0
        · rw [if_pos c1, if_pos (Or.inl c1), dnI_s]
        · rw [if_neg c1]
          by_cases c2 : (akB (vAs G Ah) a q0 j).2 ≤ vAs G Ah a (a + 1 + j)
          · rw [if_pos c2, if_neg (show ¬ ((akB (vAs G Ah) a q0 j).1 = 0 ∨ vAs G Ah a (a + 1 + j) < (akB (vAs G Ah) a q0 j).2) by omega)]
            rfl
          · rw [if_neg c2, if_pos (show ((akB (vAs G Ah) a q0 j).1 = 0 ∨ vAs G Ah a (a + 1 + j) < (akB (vAs G Ah) a q0 j).2) by omega), dnI_s]
      unfold b_X10_ask_22
      rw [h24, if_neg (nI_ge hb (by omega)), hA2 a _ ha hb, bn_s, gin0 (by omega) (by omega), gin0 (by omega) (by omega), ix0, t0, lN_sub hle, ite_p (lcmp_le (by omega) (by omega))]
      by_cases c : Ah a (a + 1 + j) ≤ G - Ah a (a + 1 + j)
      · rw [if_pos c]
        exact h70 _ (by rw [ev]; omega)
      · rw [if_neg c]
        exact h70 _ (by rw [ev]; omega)
theorem bestX_v {M : Mem} {o : Nat} {C : CoatA} {A P : Nat → Nat} (h : SQ M o C A P) {G : Nat} (hG : G ≤ 362880) {Ah : Nat → Nat → Nat} (hAh : ∀ a b, a < cN C → b < cN C → gw (rst (mayP A P) b (fun T => T.testBit a)) (cN C) 0 = Ah a b ∧ Ah a b ≤ G) : ∃ M', f_X3_bestAsked M (nI G) = some (dnI (akA (vAs G Ah) (cN C) (cN C)).1, M') ∧ FX M M' := by
  have hn := h.2.2.2.1.1
  have hvb : ∀ a b, a < cN C → b < cN C → vAs G Ah a b ≤ 362880 := fun a b ha hb => by
    have := (hAh a b ha hb).2
    unfold vAs
    omega
  have em : (-1 : Int32) = dnI 0 := by decide +kernel
  have e17 : ∀ {M' : Mem}, SQ M' o C A P → gI M' 17 1 = nI (cN C) := fun h => h.2.2.2.2.1
  unfold f_X3_bestAsked
  rw [em]
  unfold f_X3_bestAsked_8
  refine lpU_inv (fun a x => ∃ M', x = (nI (if (akA (vAs G Ah) (cN C) a).1 = 0 then 1000000 else (akA (vAs G Ah) (cN C) a).2), dnI (akA (vAs G Ah) (cN C) a).1, nI a, M') ∧ FX M M' ∧ SQ M' o C A P) (cN C) (fun x => ∃ M', x = some (dnI (akA (vAs G Ah) (cN C) (cN C)).1, M') ∧ FX M M') (by omega) ?_ ?_ 0 _ (Nat.zero_le _) ⟨M, rfl, FX_rf M, h⟩
  · rintro rc x ⟨M1, rfl, hf, hq⟩
    show ∃ M', b_X3_bestAsked_8 (nI G) _ _ _ (nI (cN C)) M1 = _ ∧ _
    unfold b_X3_bestAsked_8
    rw [e17 hq, if_pos (nI_le (Nat.le_refl _) (by omega))]
    exact ⟨M1, rfl, hf⟩
  · rintro rc a x ha ⟨M1, rfl, hf, hq⟩
    refine Or.inr ?_
    have hqb := akA_b hn hvb a (by omega)
    show ∃ a', _ ∧ b_X3_bestAsked_8 (nI G) _ _ _ (nI a) M1 = _
    unfold b_X3_bestAsked_8
    rw [e17 hq, if_neg (nI_ge ha (by omega)), nI_add, nm_s]
    show ∃ a', (∃ M', a' = (nI (if (akB (vAs G Ah) a (akA (vAs G Ah) (cN C) a) (cN C - (a + 1))).1 = 0 then 1000000 else (akB (vAs G Ah) a (akA (vAs G Ah) (cN C) a) (cN C - (a + 1))).2), dnI (akB (vAs G Ah) a (akA (vAs G Ah) (cN C) a) (cN C - (a + 1))).1, nI (a + 1), M') ∧ FX M M' ∧ SQ M' o C A P) ∧ _
    generalize akA (vAs G Ah) (cN C) a = q0 at hqb ⊢
    unfold f_X3_bestAsked_23
    refine lpU_inv (fun j x => ∃ M', x = (nI (if (akB (vAs G Ah) a q0 j).1 = 0 then 1000000 else (akB (vAs G Ah) a q0 j).2), dnI (akB (vAs G Ah) a q0 j).1, nI (a + 1 + j), M') ∧ FX M M' ∧ SQ M' o C A P) (cN C - (a + 1)) (fun x => ∃ a', (∃ M', a' = (nI (if (akB (vAs G Ah) a q0 (cN C - (a + 1))).1 = 0 then 1000000 else (akB (vAs G Ah) a q0 (cN C - (a + 1))).2), dnI (akB (vAs G Ah) a q0 (cN C - (a + 1))).1, nI (a + 1), M') ∧ FX M M' ∧ SQ M' o C A P) ∧ x = rc a') (by omega) ?_ ?_ 0 _ (Nat.zero_le _) ⟨M1, rfl, hf, hq⟩
    · rintro rc2 x ⟨M2, rfl, hf2, hq2⟩
      have e : a + 1 + (cN C - (a + 1)) = cN C := by omega
      show ∃ a', _ ∧ b_X3_bestAsked_23 (nI G) _ (nI a) _ _ _ (nI (a + 1 + (cN C - (a + 1)))) M2 = _
      unfold b_X3_bestAsked_23
      rw [e, e17 hq2, if_pos (nI_le (Nat.le_refl _) (by omega)), nI_add, nm_s]
      exact ⟨_, ⟨M2, rfl, hf2, hq2⟩, rfl⟩
    · rintro rc2 j x hj ⟨M2, rfl, hf2, hq2⟩
      refine Or.inr ?_
      have hb : a + 1 + j < cN C := by omega
      have hqq := akB_b hn ha (fun b hb => hvb a b ha hb) hqb j (by omega)
      obtain ⟨eA, hle⟩ := hAh a (a + 1 + j) ha hb
      have hv2 := hvb a (a + 1 + j) ha hb
      obtain ⟨M3, k1, k2, k3⟩ := cahead_v hq2 ha hb
      rw [eA] at k1
      show ∃ a', (∃ M', a' = (nI (if (ask1 (akB (vAs G Ah) a q0 j) (9 * a + (a + 1 + j)) (vAs G Ah a (a + 1 + j))).1 = 0 then 1000000 else (ask1 (akB (vAs G Ah) a q0 j) (9 * a + (a + 1 + j)) (vAs G Ah a (a + 1 + j))).2), dnI (ask1 (akB (vAs G Ah) a q0 j) (9 * a + (a + 1 + j)) (vAs G Ah a (a + 1 + j))).1, nI (a + 1 + (j + 1)), M') ∧ _) ∧ b_X3_bestAsked_23 (nI G) _ (nI a) _ _ _ (nI (a + 1 + j)) M2 = _
      have hg : ∀ x : Option (Int32 × Mem), gin (nI (a + 1 + j)) 9 x = x := fun x => gin_n (by omega) (by omega)
      unfold b_X3_bestAsked_23 f_X3_bestAsked_99
      simp only [hg, nm_s]
      rw [e17 hq2, if_neg (nI_ge hb (by omega)), ix_n (by omega), (hq2.2.2.2.2.2 _ (by omega)).1.1, or_nI (by omega), k1, bp_s, sub_n hle, mx_n (by omega) (by omega), pk_mul, nI_add, nI_add]
      have ev : max (Ah a (a + 1 + j)) (G - Ah a (a + 1 + j)) = vAs G Ah a (a + 1 + j) := rfl
      rw [ev]
      unfold ask1
      by_cases c1 : (akB (vAs G Ah) a q0 j).1 = 0
      · rw [if_pos c1, if_pos (Or.inl c1), if_neg (nI_ge (by omega) (by omega))]
        refine ⟨_, ⟨_, ?_, FX_tr hf2 k2, k3⟩, rfl⟩
        show (nI (vAs G Ah a (a + 1 + j)), nI (9 * a + (a + 1 + j)), nI (a + 1 + j + 1), _) = (nI (vAs G Ah a (a + 1 + j)), dnI (9 * a + (a + 1 + j) + 1), nI (a + 1 + (j + 1)), _)
        rw [dnI_s]
        rfl
      · rw [if_neg c1, ite_p (le_n (by omega) (by omega))]
        by_cases c2 : (akB (vAs G Ah) a q0 j).2 ≤ vAs G Ah a (a + 1 + j)
        · rw [if_pos c2, if_neg (show ¬ ((akB (vAs G Ah) a q0 j).1 = 0 ∨ vAs G Ah a (a + 1 + j) < (akB (vAs G Ah) a q0 j).2) by omega), if_neg c1]
          exact ⟨_, ⟨_, rfl, FX_tr hf2 k2, k3⟩, rfl⟩
        · rw [if_neg c2, if_pos (show ((akB (vAs G Ah) a q0 j).1 = 0 ∨ vAs G Ah a (a + 1 + j) < (akB (vAs G Ah) a q0 j).2) by omega)]
          refine ⟨_, ⟨_, ?_, FX_tr hf2 k2, k3⟩, rfl⟩
          show (nI (vAs G Ah a (a + 1 + j)), nI (9 * a + (a + 1 + j)), nI (a + 1 + j + 1), _) = (nI (vAs G Ah a (a + 1 + j)), dnI (9 * a + (a + 1 + j) + 1), nI (a + 1 + (j + 1)), _)
          rw [dnI_s]
          rfl
/-! a coat and a sight, on both sides -/
theorem seen_cases {Mx Mm : Mem} (H : Rl Mx Mm) (a b : Int32) : (∃ Mx' M1, f_X9_seenAt Mx a b = some (none, Mx') ∧ FX Mx Mx' ∧ f_X10_laySight (sI Mm 100 0 (nI 0)) a b = some (false, M1) ∧ FM Mm M1) ∨ ∃ k C l S Mx' M1, k < 2 ∧ CV C ∧ SV S ∧ siOK (cN C) S ∧ f_X9_seenAt Mx a b = some (some (2 + k), Mx') ∧ FX Mx Mx' ∧ SQ Mx' (2 + k) C (seeA C S S.1) (seeP S S.1) ∧ f_X10_laySight (sI Mm 100 0 (nI 0)) a b = some (true, M1) ∧ FM Mm M1 ∧ MH M1 k C ∧ MS M1 l S := by
  have h0 := FM_sI Mm (o := 100) (k := 0) (v := nI 0)
  have h1 : FM Mm (ms (sI Mm 100 0 (nI 0)) b) := FM_tr h0 (FM_sI _)
  unfold f_X9_seenAt f_X10_laySight
  rcases sight_cases H b with ⟨e1, e2⟩ | ⟨l, S, hl, rfl, hSV, hSX, hSM, e1, e2⟩
  · left
    rw [e2 _ h0]
    rcases coat_cases H a with ⟨c1, c2⟩ | ⟨k, C, hk, rfl, hV, hX, hM, c1, c2⟩
    · rw [c1, bn_s, e1, bn_s, opt_none]
      exact ⟨_, _, rfl, FX_rf Mx, rfl, h1⟩
    · rw [c1, bn_s, e1, bn_s, opt_some, opt_none]
      exact ⟨_, _, rfl, FX_rf Mx, rfl, h1⟩
  · rw [e2 _ h0, bp_s, if_pos rfl]
    rcases coat_cases H a with ⟨c1, c2⟩ | ⟨k, C, hk, rfl, hV, hX, hM, c1, c2⟩
    · left
      rw [c1, bn_s, e1, bn_s, opt_none, c2 _ h1]
      exact ⟨_, _, rfl, FX_rf Mx, rfl, h1⟩
    · have hH : MH (mh (ms (sI Mm 100 0 (nI 0)) (nI l)) k C) k C := mh_MH hk (CM_cg (h1 6 (by omega)) hM)
      have hF : FM Mm (mh (ms (sI Mm 100 0 (nI 0)) (nI l)) k C) := FM_tr h1 (FM_mh _ k C)
      have hS : MS (mh (ms (sI Mm 100 0 (nI 0)) (nI l)) k C) l S := ⟨hl, rfl, SM_cg (hF 9 (by omega)) hSM, hSV⟩
      have hn := hV.1
      have hb := hsN_b hSV (Nat.le_refl _)
      rw [c1, bn_s, e1, bn_s, opt_some, opt_some, c2 _ h1, bp_s, if_pos rfl, highestSeam_v hSX hSV, bn_s, hX.1, ite_p (dn_lt (by omega) (by omega)), laySight_v hH hV hS]
      by_cases c : hsN S S.1 ≤ cN C
      · right
        have hX2 : SX (tk Mx (2 + k) C) (8 + l) S := SX_cg (FX_tk Mx (2 + k) C (8 + l) (by omega)) hSX
        obtain ⟨M1, g1, g2, g3⟩ := see_v (tk_SQ hX hV (by omega)) hSV hX2 (by omega)
        rw [if_pos c, take_v hX, bn_s, g1, bn_s, decide_eq_true c]
        exact ⟨k, C, l, S, M1, _, hk, hV, hSV, (hsN_le S (cN C) S.1).mp c, rfl, FX_tr (FX_tk Mx (2 + k) C) g2, g3, rfl, hF, hH, hS⟩
      · left
        rw [if_neg c, decide_eq_false c]
        exact ⟨_, _, rfl, FX_rf Mx, rfl, hF⟩
theorem seen_G {C : CoatA} (hV : CV C) {S : SightA} (hS : SV S) (hK : siOK (cN C) S) : gw (mayP (seeA C S S.1) (seeP S S.1)) (cN C) 0 = gw (so C S) (cN C) 0 := by
  rw [← rst_tr _ 0 (cN C), ← rst_tr (so C S) 0 (cN C)]
  exact see_gw hV hS hK 0 _
theorem q_fits {Mx Mm : Mem} (H : Rl Mx Mm) (a b s p : Int32) : EqL Mx Mm (f_X9_fits Mx a b s p) (f_X10_fits Mm a b s p) := by
  unfold f_X9_fits f_X10_fits
  rw [nm_s]
  rcases seen_cases H a b with ⟨M1, M2, e1, e2, e3, e4⟩ | ⟨k, C, l, S, M1, M2, hk, hV, hSV, hK, e1, e2, e3, e4, e5, e6, e7⟩
  · rw [e1, e3]
    exact ⟨_, _, _, rfl, rfl, Rl_fr H e2 e4⟩
  · have hn := hV.1
    have hR := Rl_fr H e2 e5
    rw [e1, bp_s, opt_some, e4, bp_s, if_pos rfl]
    obtain ⟨M3, f1, f2⟩ := findSo_v e6 hV e7
    have hR2 := Rl_fr H e2 (FM_tr e5 f2.1)
    unfold f_X10_fits_46
    rw [f1, bn_s]
    by_cases c : s = -1
    · obtain ⟨M4, g1, g2⟩ := cways_v e3
      have hb := gw_FAR (n := cN C) (may := so C S) so_n hn
      rw [if_pos c, if_pos c, if_pos c, g1, bp_s, seen_G hV hSV hK, nI_l (by omega), gin0 (by omega) (by omega), ix0, f2.2.2.2.2.2 0 (Nat.two_pow_pos _)]
      exact ⟨_, _, _, rfl, rfl, Rl_fr H (FX_tr e2 (FKX g2)) (FM_tr e5 f2.1)⟩
    · rw [if_neg c, if_neg c, if_neg c]
      rcases int_cases s with hs | ⟨s, hs, rfl⟩
      · rw [hasSeam_neg hs, isSeam_neg hs]
        exact ⟨_, _, _, rfl, rfl, hR⟩
      rw [hasSeam_v e3.2.2.1.1 (by omega) hs, isSeam_v e6.2.2.1 (by omega) hs, bn_s, bn_s]
      by_cases c1 : s < cN C
      · rw [if_pos (dT c1), if_pos (dT c1), e6.2.2.1]
        rcases int_cases p with hp | ⟨p, hp, rfl⟩
        · rw [hasSeam_neg hp, in_neg hp 0 (by omega)]
          exact ⟨_, _, _, rfl, rfl, hR⟩
        rw [hasSeam_v e3.2.2.1.1 (by omega) hp, in_upto hp (by omega), bn_s, bn_s]
        by_cases c2 : p < cN C
        · obtain ⟨M4, g1, g2, g3⟩ := cholds_v e3 c1 c2
          have hb := gw_FAR (n := cN C) (may := rst (so C S) s (fun T => pc T 9 == p)) (rst_n so_n) hn
          rw [if_pos (dT c2), if_pos (dT c2), g1, bp_s, see_gw hV hSV hK, nI_l (by omega), holdsM_v f2 hV c1 c2, bn_s]
          exact ⟨_, _, _, rfl, rfl, Rl_fr H (FX_tr e2 g2) (FM_tr e5 f2.1)⟩
        · rw [if_neg (dF c2), if_neg (dF c2)]
          exact ⟨_, _, _, rfl, rfl, hR⟩
      · rw [if_neg (dF c1), if_neg (dF c1)]
        exact ⟨_, _, _, rfl, rfl, hR⟩
/-- the first seam that is there in all -/
def sfS (C : CoatA) (S : SightA) (p : Nat) : Nat := nx (fun s => gw (rst (so C S) s (fun T => pc T 9 == p)) (cN C) 0 == gw (so C S) (cN C) 0) (cN C)
theorem surelyX_v {M : Mem} {o : Nat} {C : CoatA} {S : SightA} (hSV : SV S) (hK : siOK (cN C) S) (h : SQ M o C (seeA C S S.1) (seeP S S.1)) {p : Nat} (hp : p < cN C) : ∃ M', f_X3_surelyAt M (nI p) (nI (gw (so C S) (cN C) 0)) = some (if sfS C S p < cN C then nI (sfS C S p) else -1, M') ∧ FX M M' := by
  have hV := h.2.2.2.1
  have hn := hV.1
  have hb0 := gw_FAR (n := cN C) (may := so C S) so_n hn
  unfold f_X3_surelyAt f_X3_surelyAt_2
  refine lpU_inv (fun s a => ∃ M', a = (nI s, M') ∧ FX M M' ∧ SQ M' o C (seeA C S S.1) (seeP S S.1) ∧ ∀ j, j < s → ¬ gw (rst (so C S) j (fun T => pc T 9 == p)) (cN C) 0 = gw (so C S) (cN C) 0) (cN C) (fun x => ∃ M', x = some (if sfS C S p < cN C then nI (sfS C S p) else -1, M') ∧ FX M M') (by omega) ?_ ?_ 0 _ (Nat.zero_le _) ⟨M, rfl, FX_rf M, h, fun j hj => by omega⟩
  · rintro rc a ⟨M1, rfl, hf, hq, hj⟩
    show ∃ M', b_X3_surelyAt_2 (nI p) _ _ (nI (cN C)) M1 = _ ∧ _
    unfold b_X3_surelyAt_2
    have : ¬ sfS C S p < cN C := fun z => by
      have h9 : (gw (rst (so C S) (sfS C S p) (fun T => pc T 9 == p)) (cN C) 0 == gw (so C S) (cN C) 0) = true := nx_hit z
      exact hj _ z (beq_iff_eq.mp h9)
    rw [hq.2.2.2.2.1, if_pos (nI_le (Nat.le_refl _) (by omega)), if_neg this]
    exact ⟨M1, rfl, hf⟩
  · rintro rc s a hs ⟨M1, rfl, hf, hq, hj⟩
    obtain ⟨M2, g1, g2, g3⟩ := cholds_v hq hs hp
    have hb := gw_FAR (n := cN C) (may := rst (so C S) s (fun T => pc T 9 == p)) (rst_n so_n) hn
    show (∃ M', b_X3_surelyAt_2 (nI p) _ _ (nI s) M1 = _ ∧ _) ∨ ∃ a', _ ∧ b_X3_surelyAt_2 (nI p) _ _ (nI s) M1 = _
    unfold b_X3_surelyAt_2
    rw [hq.2.2.2.2.1, if_neg (nI_ge hs (by omega)), g1, bp_s, see_gw hV hSV hK, ite_p (eq_n (a := gw (rst (so C S) s (fun T => pc T 9 == p)) (cN C) 0) (b := gw (so C S) (cN C) 0) (by omega) (by omega)), nI_add, nm_s]
    by_cases c : gw (rst (so C S) s (fun T => pc T 9 == p)) (cN C) 0 = gw (so C S) (cN C) 0
    · left
      have e : sfS C S p = s := nx_eq hs (by simpa using c) (fun j hj2 => by simpa using hj j hj2)
      rw [if_pos c, e, if_pos hs]
      exact ⟨M2, rfl, FX_tr hf g2⟩
    · right
      rw [if_neg c]
      refine ⟨_, ⟨M2, rfl, FX_tr hf g2, g3, fun j hj2 => ?_⟩, rfl⟩
      by_cases q : j = s
      · rw [q]; exact c
      · exact hj j (by omega)
theorem sureM_v {M0 M : Mem} {k l : Nat} {C : CoatA} {S : SightA} (h : FSo M0 M k l C S) (hV : CV C) {p : Nat} (hp : p < cN C) (a b : Int32) : f_X10_sure_65 a b (nI p) FU (nI 0, M) = some (if sfS C S p < cN C then nI (sfS C S p) else -1, M) := by
  have hn := hV.1
  have hb0 := gw_FAR (n := cN C) (may := so C S) so_n hn
  have hl := nx_le (fun s => gw (rst (so C S) s (fun T => pc T 9 == p)) (cN C) 0 == gw (so C S) (cN C) 0) (cN C)
  unfold f_X10_sure_65
  refine lpU_find (fun s => (nI s, M)) (cN C) (fun m => some (if m < cN C then nI m else -1, M)) (fun s => gw (rst (so C S) s (fun T => pc T 9 == p)) (cN C) 0 = gw (so C S) (cN C) 0) (by omega) ?_ ?_ ?_ (sfS C S p) hl (fun j hj => by have := nx_min hj; simpa using this) (fun z => by have h9 : (gw (rst (so C S) (sfS C S p) (fun T => pc T 9 == p)) (cN C) 0 == gw (so C S) (cN C) 0) = true := nx_hit z; exact beq_iff_eq.mp h9) 0 (Nat.zero_le _)
  · intro rc
    show b_X10_sure_65 a b (nI p) _ (nI (cN C)) M = _
    unfold b_X10_sure_65
    rw [h.2.1.2.2.1, if_pos (nI_le (Nat.le_refl _) (by omega)), if_neg (Nat.lt_irrefl _)]
  · intro rc s hs hst
    have hb := gw_FAR (n := cN C) (may := rst (so C S) s (fun T => pc T 9 == p)) (rst_n so_n) hn
    show b_X10_sure_65 a b (nI p) _ (nI s) M = _
    unfold b_X10_sure_65
    rw [h.2.1.2.2.1, if_neg (nI_ge hs (by omega)), holdsM_v h hV hs hp, bn_s, gin0 (by omega) (by omega), ix0, h.2.2.2.2.2 0 (Nat.two_pow_pos _), ite_p (lcmp_eq (by omega) (by omega)), if_pos hst, if_pos hs]
  · intro rc s hs hst
    have hb := gw_FAR (n := cN C) (may := rst (so C S) s (fun T => pc T 9 == p)) (rst_n so_n) hn
    show b_X10_sure_65 a b (nI p) _ (nI s) M = _
    unfold b_X10_sure_65
    rw [h.2.1.2.2.1, if_neg (nI_ge hs (by omega)), holdsM_v h hV hs hp, bn_s, gin0 (by omega) (by omega), ix0, h.2.2.2.2.2 0 (Nat.two_pow_pos _), ite_p (lcmp_eq (by omega) (by omega)), if_neg hst, nI_add, nm_s]
theorem q_sure {Mx Mm : Mem} (H : Rl Mx Mm) (a b p : Int32) : EqI Mx Mm (f_X9_sure Mx a b p) (f_X10_sure Mm a b p) := by
  unfold f_X9_sure f_X10_sure
  rw [nm_s]
  rcases seen_cases H a b with ⟨M1, M2, e1, e2, e3, e4⟩ | ⟨k, C, l, S, M1, M2, hk, hV, hSV, hK, e1, e2, e3, e4, e5, e6, e7⟩
  · rw [e1, e3]
    exact ⟨_, _, _, rfl, rfl, Rl_fr H e2 e4⟩
  · have hn := hV.1
    rw [e1, bp_s, opt_some, e4, bp_s, if_pos rfl]
    obtain ⟨M3, f1, f2⟩ := findSo_v e6 hV e7
    obtain ⟨M4, g1, g2⟩ := cways_v e3
    have hq := SQ_cg e3 g2 rfl rfl
    have hX4 := FX_tr e2 (FKX g2)
    have hR1 := Rl_fr H hX4 e5
    have hR2 := Rl_fr H hX4 (FM_tr e5 f2.1)
    have hb := gw_FAR (n := cN C) (may := so C S) so_n hn
    unfold f_X10_sure_35
    rw [f1, bn_s, g1, bp_s, seen_G hV hSV hK, ite_p (eq_n (a := gw (so C S) (cN C) 0) (b := 0) (by omega) (by omega)), gin0 (by omega) (by omega), ix0, f2.2.2.2.2.2 0 (Nat.two_pow_pos _), ite_p (lcmp_eq (b := 0) (a := gw (so C S) (cN C) 0) (by omega) (by omega)), e6.2.2.1]
    by_cases c0 : gw (so C S) (cN C) 0 = 0
    · rw [if_pos c0, if_pos c0]
      by_cases c : p = -1
      · rw [if_pos c]
        exact ⟨_, _, _, rfl, rfl, hR2⟩
      · rw [if_neg c]
        rcases int_cases p with hp | ⟨p, hp, rfl⟩
        · rw [in_neg hp 0 (by omega)]
          exact ⟨_, _, _, rfl, rfl, hR1⟩
        rw [in_upto hp (by omega), bn_s]
        by_cases c2 : p < cN C
        · rw [if_pos (dT c2)]
          exact ⟨_, _, _, rfl, rfl, hR2⟩
        · rw [if_neg (dF c2)]
          exact ⟨_, _, _, rfl, rfl, hR1⟩
    · rw [if_neg c0, if_neg c0]
      by_cases c : p = -1
      · obtain ⟨M5, k1, k2⟩ := bestX_v hq hb (Ah := fun a b => gw (rst (so C S) b (fun T => T.testBit a)) (cN C) 0) (fun a b ha hb2 => ⟨see_gw hV hSV hK b _, gw_mono so_n (fun S s q => (rst_t.mp q).1) hn _ 0 (Nat.zero_le _) (Nat.le_refl _)⟩)
        rw [if_pos c, if_pos c, if_pos c, k1, bp_s, askM_v f2 hV, bn_s]
        exact ⟨_, _, _, rfl, rfl, Rl_fr H (FX_tr hX4 k2) (FM_tr e5 f2.1)⟩
      · rw [if_neg c, if_neg c, if_neg c]
        rcases int_cases p with hp | ⟨p, hp, rfl⟩
        · rw [in_neg hp 0 (by omega), hasSeam_neg hp]
          exact ⟨_, _, _, rfl, rfl, hR1⟩
        rw [in_upto hp (by omega), bn_s, hasSeam_v hq.2.2.1.1 (by omega) hp, bn_s]
        by_cases c2 : p < cN C
        · obtain ⟨M5, k1, k2⟩ := surelyX_v hSV hK hq c2
          rw [if_pos (dT c2), if_pos (dT c2), k1, bp_s, sureM_v f2 hV c2]
          exact ⟨_, _, _, rfl, rfl, Rl_fr H (FX_tr hX4 k2) (FM_tr e5 f2.1)⟩
        · rw [if_neg (dF c2), if_neg (dF c2)]
          exact ⟨_, _, _, rfl, rfl, hR1⟩
