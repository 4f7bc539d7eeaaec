/-! TEXTS: the reference's numbers of a line -/
theorem ntc_cg {c d : Prop} [Decidable c] [Decidable d] (h : c ↔ d) {g q : Nat} {x : Nat × Nat} : ntc c g q x = ntc d g q x := by
  unfold ntc
  by_cases p : c
  · rw [if_pos p, if_pos (h.mp p)]
  · rw [if_neg p, if_neg (fun z => p (h.mpr z))]
def FPm (M : Mem) (x : Nat × Nat) : Prop := x.1 ≤ 4 ∧ gI M 100 17 = nI x.1 ∧ (¬ x.1 = 0 → gI M 100 18 = nI x.2)
/-- a line's numbers are good, as long as there is no fault -/
def GD (M : Mem) (x : Nat × Nat) : Prop := x.1 = 0 → gI M 100 22 = nI 1
def FT2 (M M' : Mem) : Prop := (∀ k, ¬ (k = 10 ∨ (12 ≤ k ∧ k ≤ 18) ∨ k = 22) → gI M' 100 k = gI M 100 k) ∧ ∀ k, ¬ k = 20 → gA M' 100 k = gA M 100 k
theorem FT2_rf (M : Mem) : FT2 M M := ⟨fun _ _ => rfl, fun _ _ => rfl⟩
theorem FT2_tr {A B C : Mem} (h : FT2 A B) (g : FT2 B C) : FT2 A C := ⟨fun k q => (g.1 k q).trans (h.1 k q), fun k q => (g.2 k q).trans (h.2 k q)⟩
theorem FT2_sI (M : Mem) {k : Nat} {v : Int32} (h : k = 10 ∨ (12 ≤ k ∧ k ≤ 18) ∨ k = 22) : FT2 M (sI M 100 k v) := ⟨fun b q => if_neg (fun z => q (by omega)), fun _ _ => rfl⟩
theorem FT2_sA (M : Mem) {j : Nat} {v : Int32} : FT2 M (sA M 100 20 j v) := ⟨fun _ _ => rfl, fun b q => if_neg (fun z => q z.2)⟩
theorem FT2_T {M M' : Mem} (h : FTm M M') : FT2 M M' := ⟨fun k q => h.1 100 k (by omega), fun k _ => h.2 100 k⟩
theorem FT2_FM {M M' : Mem} (h : FT2 M M') : FM M M' := fun k q => h.2 k (by omega)
theorem PB_lt {x : Nat × Nat} {a b g : Nat} (h : PB x a) (q : a < b) : PB (nt x g a) b := by
  intro z
  unfold nt at z ⊢
  by_cases p : x.1 = 0
  · rw [if_pos p]; exact q
  · rw [if_neg p]; exact Nat.lt_trans (h p) q
theorem vlT_99 {tb : Nat → Nat} {tl i : Nat} (hk : tkK tb tl i = 2) : vlT tb tl i ≤ 99 := by
  have hdig : tkT tb tl i - tkF tb tl i ≤ 2 ∧ ∀ j, tkF tb tl i ≤ j → j < tkT tb tl i → 48 ≤ tb j ∧ tb j ≤ 57 := by
    unfold tkK at hk
    unfold tkT
    by_cases q : tkF tb tl i = tl
    · rw [if_pos q] at hk; omega
    · rw [if_neg q] at hk
      rw [if_neg q]
      by_cases q1 : leB (tb (tkF tb tl i)) = false
      · rw [if_pos q1] at hk; omega
      · rw [if_neg q1] at hk
        rw [if_neg q1]
        by_cases q2 : diB (tb (tkF tb tl i)) = false
        · rw [if_pos q2] at hk
          rw [if_pos q2]
          by_cases q3 : deT tb tl (tkF tb tl i) - tkF tb tl i ≤ 2
          · refine ⟨q3, fun j h1 h2 => ?_⟩
            have t : diB (tb j) = false := (ff_v (fun j => diB (tb j)) (tl - tkF tb tl i) (tkF tb tl i)).2.2.1 j h1 h2
            unfold diB at t
            simpa using t
          · rw [if_neg q3] at hk; omega
        · rw [if_neg q2] at hk
          split at hk <;> omega
  obtain ⟨hd2, hdig⟩ := hdig
  unfold vlT
  have e0 : tkT tb tl i - tkF tb tl i = 0 ∨ tkT tb tl i - tkF tb tl i = 1 ∨ tkT tb tl i - tkF tb tl i = 2 := by omega
  rcases e0 with e | e | e
  · rw [e]; exact Nat.zero_le _
  · have := hdig (tkF tb tl i + 0) (by omega) (by omega)
    rw [e]
    show 0 * 10 + (tb (tkF tb tl i + 0) - 48) ≤ 99
    omega
  · have := hdig (tkF tb tl i + 0) (by omega) (by omega)
    have := hdig (tkF tb tl i + 1) (by omega) (by omega)
    rw [e]
    show (0 * 10 + (tb (tkF tb tl i + 0) - 48)) * 10 + (tb (tkF tb tl i + 1) - 48) ≤ 99
    omega
section Takes
variable {tb : Nat → Nat} {tl : Nat} {M : Mem}
theorem MTk_cg {i : Nat} {M' : Mem} (h : MTk tb tl i M) (h1 : ∀ k, 10 ≤ k → k ≤ 14 → gI M' 100 k = gI M 100 k) (h2 : gA M' 100 1 = gA M 100 1) (h3 : gL M' 100 15 = gL M 100 15) : MTk tb tl i M' := by
  obtain ⟨⟨a1, a2, a3⟩, b1, b2, b3, b4, b5, b6⟩ := h
  exact ⟨⟨by rw [h1 11 (by omega) (by omega)]; exact a1, fun j hj => by rw [h2]; exact a2 j hj, a3⟩, b1, by rw [h1 12 (by omega) (by omega)]; exact b2, by rw [h1 10 (by omega) (by omega)]; exact b3, by rw [h1 13 (by omega) (by omega)]; exact b4, fun z => by rw [h3]; exact b5 z, fun z => by rw [h1 14 (by omega) (by omega)]; exact b6 z⟩
theorem MTk_I {i k : Nat} {v : Int32} (h : MTk tb tl i M) (hk : 15 ≤ k) : MTk tb tl i (sI M 100 k v) := MTk_cg h (fun b b1 b2 => if_neg (fun z => by omega)) rfl rfl
theorem MTk_A {i k j : Nat} {v : Int32} (h : MTk tb tl i M) (hk : 2 ≤ k) : MTk tb tl i (sA M 100 k j v) := MTk_cg h (fun _ _ _ => rfl) (if_neg (fun z => by omega)) rfl
theorem tok_n {i : Nat} (h : MTk tb tl i M) : ∃ M', f_X10_token M = some M' ∧ FTm M M' ∧ MTk tb tl (tkT tb tl i) M' := token_v h.1 (tkT_b h.2.1).1 h.2.2.2.1
theorem later_v {x : Nat × Nat} (h : FPm M x) {g q : Nat} (h1 : ¬ g = 0) (h4 : g ≤ 4) (hb : PB x q) (hq : q < 10000) : ∃ M', f_X10_later M (nI g) (nI q) = some M' ∧ FPm M' (nt x g q) ∧ FT2 M M' ∧ gI M' 100 22 = gI M 100 22 ∧ gA M' = gA M ∧ ∀ i, MTk tb tl i M → MTk tb tl i M' := by
  obtain ⟨a, b, c⟩ := h
  unfold f_X10_later f_X10_later_31 nt
  rw [b, ite_p (eq_n (by omega) (by omega))]
  by_cases p : x.1 = 0
  · rw [if_pos p, if_pos p]
    refine ⟨_, rfl, ⟨h4, ?_, fun _ => ?_⟩, FT2_tr (FT2_sI _ (by omega)) (FT2_sI _ (by omega)), ?_, rfl, fun i hi => MTk_I (MTk_I hi (by omega)) (by omega)⟩
    · rw [gI_sI, if_neg (by omega), gI_sI, if_pos ⟨rfl, rfl⟩]
    · rw [gI_sI, if_pos ⟨rfl, rfl⟩]
    · rw [gI_sI, if_neg (by omega), gI_sI, if_neg (by omega)]
  · have hb2 := hb p
    rw [if_neg p, if_neg p, c p, ite_p (lt_n (by omega) (by omega)), if_neg (by omega), ite_p (eq_n (by omega) (by omega)), if_neg (by omega)]
    exact ⟨_, rfl, ⟨a, b, c⟩, FT2_rf _, rfl, rfl, fun i hi => hi⟩
theorem full_v {x : Nat × Nat} (h : FPm M x) {n m q : Nat} (hn : gA M 100 19 0 = nI n) (hnm : n ≤ m) (hm : m < 100) (hb : PB x q) (hq : q < 10000) : ∃ M', f_X10_full M (nI 0) (nI m) (nI q) = some M' ∧ FPm M' (ntc (m ≤ n) 3 q x) ∧ FT2 M M' ∧ gI M' 100 22 = gI M 100 22 ∧ gA M' = gA M ∧ ∀ i, MTk tb tl i M → MTk tb tl i M' := by
  unfold f_X10_full
  rw [gin_n (by omega) (by omega), ix_n (by omega), hn, ite_p (eq_n (by omega) (by omega))]
  by_cases p : n = m
  · rw [if_pos p, ntc_p (by omega)]
    obtain ⟨M', g1, g2, g3⟩ := later_v (tb := tb) (tl := tl) h (g := 3) (q := q) (by omega) (by omega) hb hq
    rw [g1]
    exact ⟨M', rfl, g2, g3⟩
  · rw [if_neg p, ntc_id (by omega)]
    exact ⟨M, rfl, h, FT2_rf _, rfl, rfl, fun i hi => hi⟩
/-- j numbers of the line at e have been read -/
def MLs (tb : Nat → Nat) (tl e j : Nat) (x : Nat × Nat) (M : Mem) : Prop := MTk tb tl (ps tb tl e (j + 1)) M ∧ FPm M x ∧ PB x (tkF tb tl (ps tb tl e (j + 1))) ∧ GD M x ∧ OKn tb tl e j
theorem but_v {e j s lo hi : Nat} {b : Int32} {x : Nat × Nat} (h : MLs tb tl e j x M) (hk : tkK tb tl (ps tb tl e (j + 1)) = 2) (hs : s < 4) (hlo : lo < 1000) (hhi : hi < 1000) : ∃ M', f_X10_takeBut M (nI s) (nI lo) (nI hi) b = some (true, M') ∧ MLs tb tl e (j + 1) (ntc ((vlT tb tl (ps tb tl e (j + 1)) < lo ∨ hi < vlT tb tl (ps tb tl e (j + 1))) ∨ nI (vlT tb tl (ps tb tl e (j + 1))) = b) 2 (tkF tb tl (ps tb tl e (j + 1))) x) M' ∧ FT2 M M' ∧ gA M' 100 20 s = nI (vlT tb tl (ps tb tl e (j + 1))) ∧ ∀ s', ¬ s' = s → gA M' 100 20 s' = gA M 100 20 s' := by
  obtain ⟨h1, h2, h3, h4, h5⟩ := h
  have hp := h1.2.1
  have t6 := h1.1.2.2
  obtain ⟨fb1, fb2⟩ := tkF_b (tb := tb) hp
  obtain ⟨tb1, tb2, tb3⟩ := tkT_b (tb := tb) hp
  obtain ⟨fb3, -⟩ := tkF_b (tb := tb) tb1
  have tb3' := tb3 (by omega)
  have hv9 : vlT tb tl (ps tb tl e (j + 1)) ≤ 99 := vlT_99 hk
  have hf6 : tkF tb tl (ps tb tl e (j + 1)) < 10000 := by omega
  have hO : OKn tb tl e (j + 1) := fun k hk2 => by
    by_cases q : k = j
    · rw [q]; exact hk
    · exact h5 k (by omega)
  have hb : tkF tb tl (ps tb tl e (j + 1)) < tkF tb tl (ps tb tl e (j + 1 + 1)) := by
    show _ < tkF tb tl (tkT tb tl (ps tb tl e (j + 1)))
    omega
  have hbut : ∀ M1, FPm M1 x → MTk tb tl (ps tb tl e (j + 1)) M1 → GD M1 x → ∃ M', f_X10_takeBut_44 (nI s) (nI lo) (nI hi) b (fun y => f_X10_takeBut_58 (nI s) (nI lo) (nI hi) b y) M1 = some (true, M') ∧ MLs tb tl e (j + 1) (nt x 2 (tkF tb tl (ps tb tl e (j + 1)))) M' ∧ FT2 M1 M' ∧ gA M' = gA M1 := by
    intro M1 g1 g2 g3
    obtain ⟨M2, a1, a2, a3, a4, a5, a6⟩ := later_v (tb := tb) (tl := tl) g1 (g := 2) (q := tkF tb tl (ps tb tl e (j + 1))) (by omega) (by omega) h3 hf6
    obtain ⟨M3, b1, b2, b3⟩ := tok_n (MTk_I (a6 _ g2) (k := 22) (v := b2i false) (by omega))
    unfold f_X10_takeBut_44 f_X10_takeBut_58
    rw [g2.2.2.1, a1, bn_s, nm_s]
    show ∃ M', (bn (f_X10_token (sI M2 100 22 (b2i false))) fun M5 => some (true, M5)) = some (true, M') ∧ _
    rw [b1, bn_s]
    refine ⟨M3, rfl, ⟨b3, ⟨a2.1, by rw [b2.1 100 17 (by omega)]; exact a2.2.1, fun z => by rw [b2.1 100 18 (by omega)]; exact a2.2.2 z⟩, ?_, ?_, hO⟩, FT2_tr a3 (FT2_tr (FT2_sI _ (by omega)) (FT2_T b2)), ?_⟩
    · exact PB_lt h3 hb
    · intro z
      exact absurd z (by
        unfold nt
        by_cases q : x.1 = 0
        · rw [if_pos q]; exact (by decide : ¬ (2 = 0))
        · rw [if_neg q]; exact q)
    · funext o k
      rw [b2.2 o k]
      exact congrFun (congrFun a5 o) k
  have hgood : ∀ M1, FPm M1 x → MTk tb tl (ps tb tl e (j + 1)) M1 → GD M1 x → ∃ M', f_X10_takeBut_58 (nI s) (nI lo) (nI hi) b M1 = some (true, M') ∧ MLs tb tl e (j + 1) x M' ∧ FT2 M1 M' ∧ gA M' = gA M1 := by
    intro M1 g1 g2 g3
    obtain ⟨M3, b1, b2, b3⟩ := tok_n g2
    unfold f_X10_takeBut_58
    rw [b1, bn_s]
    exact ⟨M3, rfl, ⟨b3, ⟨g1.1, by rw [b2.1 100 17 (by omega)]; exact g1.2.1, fun z => by rw [b2.1 100 18 (by omega)]; exact g1.2.2 z⟩, PB_le h3 (by omega), fun z => by rw [b2.1 100 22 (by omega)]; exact g3 z, hO⟩, FT2_T b2, funext fun o => funext fun k => b2.2 o k⟩
  have hM1 : FPm (sA M 100 20 s (nI (vlT tb tl (ps tb tl e (j + 1))))) x := ⟨h2.1, h2.2.1, h2.2.2⟩
  have hM2 : MTk tb tl (ps tb tl e (j + 1)) (sA M 100 20 s (nI (vlT tb tl (ps tb tl e (j + 1))))) := MTk_A h1 (by omega)
  have hM3 : GD (sA M 100 20 s (nI (vlT tb tl (ps tb tl e (j + 1))))) x := h4
  have hval : gI (sA M 100 20 s (nI (vlT tb tl (ps tb tl e (j + 1))))) 100 14 = nI (vlT tb tl (ps tb tl e (j + 1))) := h1.2.2.2.2.2.2 hk
  have fin : ∀ M', FT2 (sA M 100 20 s (nI (vlT tb tl (ps tb tl e (j + 1))))) M' → gA M' = gA (sA M 100 20 s (nI (vlT tb tl (ps tb tl e (j + 1))))) → FT2 M M' ∧ gA M' 100 20 s = nI (vlT tb tl (ps tb tl e (j + 1))) ∧ ∀ s', ¬ s' = s → gA M' 100 20 s' = gA M 100 20 s' := by
    intro M' g1 g2
    refine ⟨FT2_tr (FT2_sA _) g1, ?_, fun s' hs' => ?_⟩
    · rw [g2, gA_sA, if_pos ⟨rfl, rfl, rfl⟩]
    · rw [g2, gA_sA, if_neg (by omega)]
  unfold f_X10_takeBut
  rw [h1.2.2.2.2.1, hk, if_pos (show nI (kM 2) = nI 3 by decide), gin_n hs (by omega), nm_s, h1.2.2.2.2.2.2 hk, ix_n (by omega), hval, in_n (by omega) (by omega) (by omega), bn_s]
  by_cases p : lo ≤ vlT tb tl (ps tb tl e (j + 1)) ∧ vlT tb tl (ps tb tl e (j + 1)) ≤ hi
  · rw [decide_eq_true p, if_pos rfl]
    by_cases p2 : nI (vlT tb tl (ps tb tl e (j + 1))) = b
    · rw [if_pos p2, ntc_p (Or.inr p2)]
      obtain ⟨M', g1, g2, g3, g4⟩ := hbut _ hM1 hM2 hM3
      exact ⟨M', g1, g2, fin M' g3 g4⟩
    · rw [if_neg p2, ntc_id (fun z => z.elim (fun z => by omega) p2)]
      obtain ⟨M', g1, g2, g3, g4⟩ := hgood _ hM1 hM2 hM3
      exact ⟨M', g1, g2, fin M' g3 g4⟩
  · rw [decide_eq_false p, if_neg (by decide), ntc_p (Or.inl (by omega))]
    obtain ⟨M', g1, g2, g3, g4⟩ := hbut _ hM1 hM2 hM3
    exact ⟨M', g1, g2, fin M' g3 g4⟩
theorem but_n {e j : Nat} {b s lo hi : Int32} {x : Nat × Nat} (h : MLs tb tl e j x M) (hk : ¬ tkK tb tl (ps tb tl e (j + 1)) = 2) : ∃ M', f_X10_takeBut M s lo hi b = some (false, M') ∧ gI M' 100 16 = nI (tkF tb tl (ps tb tl e (j + 1))) ∧ FT2 M M' := by
  have k4 := tkK_4 tb tl (ps tb tl e (j + 1))
  have km : ∀ k, k ≤ 4 → ¬ k = 2 → ¬ nI (kM k) = nI 3 := by decide
  unfold f_X10_takeBut f_X10_fails
  rw [h.1.2.2.2.2.1, if_neg (km _ k4 hk), nm_s, bp_s]
  exact ⟨_, rfl, by rw [gI_sI, if_pos ⟨rfl, rfl⟩]; exact h.1.2.2.1, FT2_sI _ (by omega)⟩
/-- a line of n numbers read to its end, or broken off -/
def LR (tb : Nat → Nat) (tl e n : Nat) (Q : Mem → Prop) (M0 : Mem) (x : Option (Bool × Mem)) : Prop := (OKn tb tl e n ∧ ∃ M', x = some (true, M') ∧ Q M') ∨ ∃ t, t < n ∧ OKn tb tl e t ∧ ¬ tkK tb tl (ps tb tl e (t + 1)) = 2 ∧ ∃ M', x = some (false, M') ∧ gI M' 100 16 = nI (tkF tb tl (ps tb tl e (t + 1))) ∧ FM M0 M'
theorem but_LR {e j n s lo hi : Nat} {b : Int32} {x : Nat × Nat} {Q : Mem → Prop} {M0 : Mem} {K : Mem → Option (Bool × Mem)} (h : MLs tb tl e j x M) (hF : FM M0 M) (hj : j < n) (hs : s < 4) (hlo : lo < 1000) (hhi : hi < 1000) (hK : ∀ M', MLs tb tl e (j + 1) (ntc ((vlT tb tl (ps tb tl e (j + 1)) < lo ∨ hi < vlT tb tl (ps tb tl e (j + 1))) ∨ nI (vlT tb tl (ps tb tl e (j + 1))) = b) 2 (tkF tb tl (ps tb tl e (j + 1))) x) M' → FT2 M M' → gA M' 100 20 s = nI (vlT tb tl (ps tb tl e (j + 1))) → (∀ s', ¬ s' = s → gA M' 100 20 s' = gA M 100 20 s') → vlT tb tl (ps tb tl e (j + 1)) ≤ 99 → LR tb tl e n Q M0 (K M')) : LR tb tl e n Q M0 (bp (f_X10_takeBut M (nI s) (nI lo) (nI hi) b) fun r M' => if r = true then K M' else some (false, M')) := by
  by_cases hk : tkK tb tl (ps tb tl e (j + 1)) = 2
  · obtain ⟨M', g1, g2, g3, g4, g5⟩ := but_v (b := b) h hk hs hlo hhi
    rw [g1, bp_s, if_pos rfl]
    exact hK M' g2 g3 g4 g5 (vlT_99 hk)
  · obtain ⟨M', g1, g2, g3⟩ := but_n (b := b) (s := nI s) (lo := nI lo) (hi := nI hi) h hk
    rw [g1, bp_s, if_neg (by decide)]
    exact Or.inr ⟨j, hj, h.2.2.2.2, hk, M', rfl, g2, FM_tr hF (FT2_FM g3)⟩
theorem take_e (M : Mem) (s lo hi : Int32) : f_X10_take M s lo hi = f_X10_takeBut M s lo hi (-1) := by
  unfold f_X10_take
  cases f_X10_takeBut M s lo hi (-1) <;> rfl
theorem take_LR {e j n s lo hi : Nat} {x : Nat × Nat} {Q : Mem → Prop} {M0 : Mem} {K : Mem → Option (Bool × Mem)} (h : MLs tb tl e j x M) (hF : FM M0 M) (hj : j < n) (hs : s < 4) (hlo : lo < 1000) (hhi : hi < 1000) (hK : ∀ M', MLs tb tl e (j + 1) (ntc (vlT tb tl (ps tb tl e (j + 1)) < lo ∨ hi < vlT tb tl (ps tb tl e (j + 1))) 2 (tkF tb tl (ps tb tl e (j + 1))) x) M' → FT2 M M' → gA M' 100 20 s = nI (vlT tb tl (ps tb tl e (j + 1))) → (∀ s', ¬ s' = s → gA M' 100 20 s' = gA M 100 20 s') → vlT tb tl (ps tb tl e (j + 1)) ≤ 99 → LR tb tl e n Q M0 (K M')) : LR tb tl e n Q M0 (bp (f_X10_take M (nI s) (nI lo) (nI hi)) fun r M' => if r = true then K M' else some (false, M')) := by
  rw [take_e]
  refine but_LR h hF hj hs hlo hhi (fun M' g1 g2 g3 g4 g5 => hK M' ?_ g2 g3 g4 g5)
  rw [ntc_cg (d := (vlT tb tl (ps tb tl e (j + 1)) < lo ∨ hi < vlT tb tl (ps tb tl e (j + 1))) ∨ nI (vlT tb tl (ps tb tl e (j + 1))) = -1) ⟨Or.inl, fun z => z.elim id (fun z => absurd z (nI_m1 _ (by omega)))⟩]
  exact g1
theorem LR_b {e n : Nat} {Q : Mem → Prop} {M0 : Mem} {x : Option (Bool × Mem)} (h : LR tb tl e n Q M0 x) : LR tb tl e n Q M0 (bp x fun r M => some (r, M)) := by
  have e : (bp x fun r M => some (r, M)) = x := by cases x <;> rfl
  rw [e]
  exact h
theorem LR_mono {e n : Nat} {Q Q' : Mem → Prop} {M0 : Mem} {x : Option (Bool × Mem)} (h : LR tb tl e n Q M0 x) (hq : ∀ M', Q M' → Q' M') : LR tb tl e n Q' M0 x := by
  rcases h with ⟨a, M', b, c⟩ | h
  · exact Or.inl ⟨a, M', b, hq M' c⟩
  · exact Or.inr h
theorem LR_e {e n : Nat} {Q : Mem → Prop} {M0 M' : Mem} (h : OKn tb tl e n) (hq : Q M') : LR tb tl e n Q M0 (some (true, M')) := Or.inl ⟨h, M', rfl, hq⟩
end Takes
