/-! TEXTS: the reference's tokens; numbers, words -/
def kM (k : Nat) : Nat := if k = 0 then 0 else if k = 1 then 2 else if k = 2 then 3 else if k = 3 then 4 else 1
def wdT (tb : Nat → Nat) (tl i : Nat) : Nat := if tkT tb tl i - tkF tb tl i ≤ 8 then pkF (fun j => tb (tkF tb tl i + j)) (tkT tb tl i - tkF tb tl i) else 0
def vlT (tb : Nat → Nat) (tl i : Nat) : Nat := vlF tb (tkF tb tl i) (tkT tb tl i - tkF tb tl i)
/-- only the reference's token fields have changed -/
def FTm (M M' : Mem) : Prop := (∀ o k, ¬ (o = 100 ∧ (k = 10 ∨ k = 12 ∨ k = 13 ∨ k = 14)) → gI M' o k = gI M o k) ∧ ∀ o k, gA M' o k = gA M o k
theorem FTm_rf (M : Mem) : FTm M M := ⟨fun _ _ _ => rfl, fun _ _ => rfl⟩
theorem FTm_tr {A B C : Mem} (h : FTm A B) (g : FTm B C) : FTm A C := ⟨fun o k q => (g.1 o k q).trans (h.1 o k q), fun o k => (g.2 o k).trans (h.2 o k)⟩
theorem FTm_sI (M : Mem) {k : Nat} {v : Int32} (h : k = 10 ∨ k = 12 ∨ k = 13 ∨ k = 14) : FTm M (sI M 100 k v) := ⟨fun a b q => if_neg (fun z => q (by omega)), fun _ _ => rfl⟩
theorem FTm_sL (M : Mem) {k : Nat} {v : Int64} : FTm M (sL M 100 k v) := ⟨fun _ _ _ => rfl, fun _ _ => rfl⟩
theorem MTq_F {tb : Nat → Nat} {tl : Nat} {M M' : Mem} (h : MTq tb tl M) (f : FTm M M') : MTq tb tl M' := ⟨by rw [f.1 100 11 (by omega)]; exact h.1, fun j hj => by rw [f.2]; exact h.2.1 j hj, h.2.2⟩
/-- the reference's token is that at i -/
def MTk (tb : Nat → Nat) (tl i : Nat) (M : Mem) : Prop := MTq tb tl M ∧ i ≤ tl ∧ gI M 100 12 = nI (tkF tb tl i) ∧ gI M 100 10 = nI (tkT tb tl i) ∧ gI M 100 13 = nI (kM (tkK tb tl i)) ∧ (tkK tb tl i = 1 → gL M 100 15 = lN (wdT tb tl i)) ∧ (tkK tb tl i = 2 → gI M 100 14 = nI (vlT tb tl i))
def tokR (M : Mem) : Option Mem := nm (sI M 100 12 (gI M 100 10)) fun M37 => bn (f_X10_see M37) fun r39 => nm (sL M37 100 15 (lN 0)) fun M40 => if (nI 0) ≤ r39 then (bn (f_X10_in r39 (nI 97) (nI 122)) fun r43 => if r43 = true then (f_X10_token_74 FU ((nI 0), M40)) else (bn (f_X10_in r39 (nI 48) (nI 57)) fun r46 => if r46 = true then (nm (sI M40 100 14 (nI 0)) fun M52 => f_X10_token_163 FU ((nI 0), M52)) else (nm (sI M40 100 10 ((gI M40 100 10) + (nI 1))) fun M48 => if r39 = (nI 59) then (nm (sI M48 100 13 (nI 4)) fun M51 => some M51) else (nm (sI M48 100 13 (nI 1)) fun M50 => some M50)))) else (nm (sI M40 100 13 (nI 0)) fun M53 => some M53)
section Tok
variable {tb : Nat → Nat} {tl : Nat} {M : Mem}
theorem see_b {j : Nat} (h : MTq tb tl M) (hj : j < tl) : tb j < 256 := by rw [← h.2.1 j hj]; exact byN_lt _
theorem xsee_v {j : Nat} (h : MTq tb tl M) (h10 : gI M 100 10 = nI j) (hj : j ≤ tl) : f_X10_see M = some (if j < tl then nI (tb j) else -1) := by
  have h6 := h.2.2
  unfold f_X10_see
  rw [h.1, h10, ite_p (le_n (by omega) (by omega))]
  by_cases c : j < tl
  · have hb := see_b h c
    rw [if_neg (by omega), if_pos c, gin_n (by omega) (by omega), ix_n (by omega), by_v (h.2.1 j c), (i8_all (tb j) hb).1]
  · rw [if_pos (by omega), if_neg c]
theorem word_v (h : MTq tb tl M) {f : Nat} (hf : f ≤ tl) (h10 : gI M 100 10 = nI f) (h15 : gL M 100 15 = lN 0) : ∃ M', f_X10_token_74 FU (nI 0, M) = some M' ∧ FTm M M' ∧ gI M' 100 12 = gI M 100 12 ∧ gI M' 100 10 = nI (leT tb tl f) ∧ gI M' 100 13 = nI 2 ∧ gL M' 100 15 = lN (if leT tb tl f - f ≤ 8 then pkF (fun j => tb (f + j)) (leT tb tl f - f) else 0) := by
  have h6 := h.2.2
  obtain ⟨m1, m2, m3, m4⟩ := ff_v (fun j => leB (tb j)) (tl - f) f
  have eL : ff (fun j => leB (tb j)) f (tl - f) = leT tb tl f := rfl
  rw [eL] at m1 m2 m3 m4
  have fin : ∀ n M1, FTm M M1 → gI M1 100 12 = gI M 100 12 → gI M1 100 10 = nI (f + n) → (n ≤ 8 → gL M1 100 15 = lN (pkF (fun j => tb (f + j)) n)) → f + n = leT tb tl f → ∀ rc, ∃ M', b_X10_token_74 rc (nI n) M1 = some M' ∧ FTm M M' ∧ gI M' 100 12 = gI M 100 12 ∧ gI M' 100 10 = nI (leT tb tl f) ∧ gI M' 100 13 = nI 2 ∧ gL M' 100 15 = lN (if leT tb tl f - f ≤ 8 then pkF (fun j => tb (f + j)) (leT tb tl f - f) else 0) := by
    intro n M1 hf1 e12 e10 e15 en rc
    have hq := MTq_F h hf1
    have e8 : leT tb tl f - f = n := by omega
    have hsee := xsee_v hq e10 (by omega)
    have hin : f_X10_in (if f + n < tl then nI (tb (f + n)) else -1) (nI 97) (nI 122) = some false := by
      by_cases c : f + n < tl
      · rw [if_pos c, (i8_all _ (see_b hq c)).2.2.2.2.2.2.2.1, en, m4 (by omega)]
        rfl
      · rw [if_neg c]
        exact in_neg (by decide) 97 (by omega) _
    unfold b_X10_token_74
    rw [hsee, bn_s, hin, bn_s, if_neg (by decide), ite_p (le_n (by omega) (by omega)), nm_s, nm_s, nm_s, nm_s, e8]
    by_cases c : n ≤ 8
    · rw [if_pos c, if_pos c]
      refine ⟨_, rfl, FTm_tr hf1 (FTm_tr (FTm_sL _) (FTm_sI _ (by omega))), ?_, ?_, ?_, ?_⟩
      · rw [gI_sI, if_neg (by omega)]; exact e12
      · rw [gI_sI, if_neg (by omega), ← en]; exact e10
      · rw [gI_sI, if_pos ⟨rfl, rfl⟩]
      · rw [gL_sI, gL_sL, if_pos ⟨rfl, rfl⟩, e15 c]
    · rw [if_neg c, if_neg c]
      refine ⟨_, rfl, FTm_tr hf1 (FTm_tr (FTm_sL _) (FTm_sI _ (by omega))), ?_, ?_, ?_, ?_⟩
      · rw [gI_sI, if_neg (by omega)]; exact e12
      · rw [gI_sI, if_neg (by omega), ← en]; exact e10
      · rw [gI_sI, if_pos ⟨rfl, rfl⟩]
      · rw [gL_sI, gL_sL, if_pos ⟨rfl, rfl⟩]
  unfold f_X10_token_74
  refine lpU_inv (fun n a => ∃ M1, a = (nI n, M1) ∧ FTm M M1 ∧ gI M1 100 12 = gI M 100 12 ∧ gI M1 100 10 = nI (f + n) ∧ (n ≤ 8 → gL M1 100 15 = lN (pkF (fun j => tb (f + j)) n)) ∧ f + n ≤ leT tb tl f) (tl - f) (fun z => ∃ M', z = some M' ∧ FTm M M' ∧ gI M' 100 12 = gI M 100 12 ∧ gI M' 100 10 = nI (leT tb tl f) ∧ gI M' 100 13 = nI 2 ∧ gL M' 100 15 = lN (if leT tb tl f - f ≤ 8 then pkF (fun j => tb (f + j)) (leT tb tl f - f) else 0)) (by omega) ?_ ?_ 0 _ (Nat.zero_le _) ⟨M, rfl, FTm_rf M, rfl, h10, fun _ => h15, m1⟩
  · rintro rc a ⟨M1, rfl, hf1, e12, e10, e15, en⟩
    exact fin _ M1 hf1 e12 e10 e15 (by omega) _
  · rintro rc n a hn ⟨M1, rfl, hf1, e12, e10, e15, en⟩
    by_cases q : f + n = leT tb tl f
    · left
      exact fin n M1 hf1 e12 e10 e15 q _
    · right
      have hq := MTq_F h hf1
      have hl := m3 (f + n) (by omega) (by omega)
      have hb := see_b hq (show f + n < tl by omega)
      have hsee := xsee_v hq e10 (by omega)
      rw [if_pos (by omega)] at hsee
      show ∃ a', _ ∧ b_X10_token_74 _ (nI n) M1 = _
      unfold b_X10_token_74
      have hin := (i8_all _ hb).2.2.2.2.2.2.2.1
      rw [hl] at hin
      rw [hsee, bn_s, hin, bn_s, if_pos (by decide), bn_s, nI_l (n := tb (f + n)) (by omega), nm_s, gI_sL, e10, nI_add, nm_s, nI_add, nm_s]
      refine ⟨_, ⟨_, rfl, FTm_tr hf1 (FTm_tr (FTm_sL _) (FTm_sI _ (by omega))), ?_, ?_, fun h8 => ?_, by omega⟩, rfl⟩
      · rw [gI_sI, if_neg (by omega)]; exact e12
      · rw [gI_sI, if_pos ⟨rfl, rfl⟩]; rfl
      · have hlet : ∀ i, i < n + 1 → (fun j => tb (f + j)) i < 128 := by
          intro i hi
          have := m3 (f + i) (by omega) (by omega)
          unfold leB at this
          have t : 97 ≤ tb (f + i) ∧ tb (f + i) ≤ 122 := by simpa using this
          show tb (f + i) < 128
          omega
        have hp := pkF_63 hlet (by omega)
        have hp2 : pkF (fun j => tb (f + j)) n * 256 + tb (f + n) < 2 ^ 64 := by
          have e : pkF (fun j => tb (f + j)) (n + 1) = pkF (fun j => tb (f + j)) n * 256 + tb (f + n) := rfl
          rw [← e]
          exact Nat.lt_trans hp (by decide)
        rw [gL_sI, gL_sL, if_pos ⟨rfl, rfl⟩, e15 (by omega), wd_sh hb hp2]
        rfl
theorem numb_v (h : MTq tb tl M) {f : Nat} (hf : f ≤ tl) (h10 : gI M 100 10 = nI f) (h14 : gI M 100 14 = nI 0) : ∃ M', f_X10_token_163 FU (nI 0, M) = some M' ∧ FTm M M' ∧ gI M' 100 12 = gI M 100 12 ∧ gI M' 100 10 = nI (deT tb tl f) ∧ gI M' 100 13 = nI (if deT tb tl f - f ≤ 2 then 3 else 1) ∧ (deT tb tl f - f ≤ 2 → gI M' 100 14 = nI (vlF tb f (deT tb tl f - f))) := by
  have h6 := h.2.2
  obtain ⟨m1, m2, m3, m4⟩ := ff_v (fun j => diB (tb j)) (tl - f) f
  have eL : ff (fun j => diB (tb j)) f (tl - f) = deT tb tl f := rfl
  rw [eL] at m1 m2 m3 m4
  have fin : ∀ n M1, FTm M M1 → gI M1 100 12 = gI M 100 12 → gI M1 100 10 = nI (f + n) → gI M1 100 14 = nI (vlF tb f (min n 2)) → f + n = deT tb tl f → ∀ rc, ∃ M', b_X10_token_163 rc (nI n) M1 = some M' ∧ FTm M M' ∧ gI M' 100 12 = gI M 100 12 ∧ gI M' 100 10 = nI (deT tb tl f) ∧ gI M' 100 13 = nI (if deT tb tl f - f ≤ 2 then 3 else 1) ∧ (deT tb tl f - f ≤ 2 → gI M' 100 14 = nI (vlF tb f (deT tb tl f - f))) := by
    intro n M1 hf1 e12 e10 e14 en rc
    have hq := MTq_F h hf1
    have e8 : deT tb tl f - f = n := by omega
    have hsee := xsee_v hq e10 (by omega)
    have hin : f_X10_in (if f + n < tl then nI (tb (f + n)) else -1) (nI 48) (nI 57) = some false := by
      by_cases c : f + n < tl
      · rw [if_pos c, (i8_all _ (see_b hq c)).2.2.2.2.2.2.2.2, en, m4 (by omega)]
        rfl
      · rw [if_neg c]
        exact in_neg (by decide) 48 (by omega) _
    unfold b_X10_token_163
    rw [hsee, bn_s, hin, bn_s, if_neg (by decide), ite_p (le_n (by omega) (by omega)), nm_s, nm_s, e8]
    by_cases c : n ≤ 2
    · rw [if_pos c, if_pos c]
      refine ⟨_, rfl, FTm_tr hf1 (FTm_sI _ (by omega)), ?_, ?_, ?_, fun _ => ?_⟩
      · rw [gI_sI, if_neg (by omega)]; exact e12
      · rw [gI_sI, if_neg (by omega), ← en]; exact e10
      · rw [gI_sI, if_pos ⟨rfl, rfl⟩]
      · rw [gI_sI, if_neg (by omega), e14, Nat.min_eq_left c]
    · rw [if_neg c, if_neg c]
      refine ⟨_, rfl, FTm_tr hf1 (FTm_sI _ (by omega)), ?_, ?_, ?_, fun z => absurd z c⟩
      · rw [gI_sI, if_neg (by omega)]; exact e12
      · rw [gI_sI, if_neg (by omega), ← en]; exact e10
      · rw [gI_sI, if_pos ⟨rfl, rfl⟩]
  unfold f_X10_token_163
  refine lpU_inv (fun n a => ∃ M1, a = (nI n, M1) ∧ FTm M M1 ∧ gI M1 100 12 = gI M 100 12 ∧ gI M1 100 10 = nI (f + n) ∧ gI M1 100 14 = nI (vlF tb f (min n 2)) ∧ f + n ≤ deT tb tl f) (tl - f) (fun z => ∃ M', z = some M' ∧ FTm M M' ∧ gI M' 100 12 = gI M 100 12 ∧ gI M' 100 10 = nI (deT tb tl f) ∧ gI M' 100 13 = nI (if deT tb tl f - f ≤ 2 then 3 else 1) ∧ (deT tb tl f - f ≤ 2 → gI M' 100 14 = nI (vlF tb f (deT tb tl f - f)))) (by omega) ?_ ?_ 0 _ (Nat.zero_le _) ⟨M, rfl, FTm_rf M, rfl, h10, h14, m1⟩
  · rintro rc a ⟨M1, rfl, hf1, e12, e10, e14, en⟩
    exact fin _ M1 hf1 e12 e10 e14 (by omega) _
  · rintro rc n a hn ⟨M1, rfl, hf1, e12, e10, e14, en⟩
    by_cases q : f + n = deT tb tl f
    · left
      exact fin n M1 hf1 e12 e10 e14 q _
    · right
      have hq := MTq_F h hf1
      have hl := m3 (f + n) (by omega) (by omega)
      have hb := see_b hq (show f + n < tl by omega)
      have hsee := xsee_v hq e10 (by omega)
      rw [if_pos (by omega)] at hsee
      have hd : 48 ≤ tb (f + n) ∧ tb (f + n) ≤ 57 := by unfold diB at hl; simpa using hl
      show ∃ a', _ ∧ b_X10_token_163 _ (nI n) M1 = _
      unfold b_X10_token_163 f_X10_token_205
      have hin := (i8_all _ hb).2.2.2.2.2.2.2.2
      rw [hl] at hin
      rw [hsee, bn_s, hin, bn_s, if_pos (by decide), bn_s, ite_p (le_n (by omega) (by omega))]
      simp only [nm_s]
      have e10' : ∀ v, gI (sI M1 100 14 v) 100 10 = nI (f + n) := fun v => by rw [gI_sI, if_neg (by omega), e10]
      rw [e10', e10', nI_add, nI_add, e14]
      by_cases c : 2 ≤ n
      · rw [if_pos c]
        refine ⟨_, ⟨_, rfl, FTm_tr hf1 (FTm_tr (FTm_sI _ (by omega)) (FTm_sI _ (by omega))), ?_, ?_, ?_, by omega⟩, rfl⟩
        · rw [gI_sI, if_neg (by omega), gI_sI, if_neg (by omega)]; exact e12
        · rw [gI_sI, if_pos ⟨rfl, rfl⟩]; rfl
        · rw [gI_sI, if_neg (by omega), gI_sI, if_pos ⟨rfl, rfl⟩, Nat.min_eq_right c, Nat.min_eq_right (by omega)]
      · rw [if_neg c, pk_mul, nI_add, sub_n (by omega)]
        refine ⟨_, ⟨_, rfl, FTm_tr hf1 (FTm_tr (FTm_sI _ (by omega)) (FTm_sI _ (by omega))), ?_, ?_, ?_, by omega⟩, rfl⟩
        · rw [gI_sI, if_neg (by omega), gI_sI, if_neg (by omega)]; exact e12
        · rw [gI_sI, if_pos ⟨rfl, rfl⟩]; rfl
        · rw [gI_sI, if_neg (by omega), gI_sI, if_pos ⟨rfl, rfl⟩, Nat.min_eq_left (by omega), Nat.min_eq_left (by omega)]
          congr 1
          show _ = vlF tb f n * 10 + (tb (f + n) - 48)
          omega
theorem tokR_v (h : MTq tb tl M) {i : Nat} (hi : i ≤ tl) (h10 : gI M 100 10 = nI (tkF tb tl i)) : ∃ M', tokR M = some M' ∧ FTm M M' ∧ MTk tb tl i M' := by
  have h6 := h.2.2
  obtain ⟨a, b⟩ := tkF_b (tb := tb) hi
  have hT : tkT tb tl i = if tkF tb tl i = tl then tl else if leB (tb (tkF tb tl i)) = false then leT tb tl (tkF tb tl i) else if diB (tb (tkF tb tl i)) = false then deT tb tl (tkF tb tl i) else tkF tb tl i + 1 := rfl
  have hK : tkK tb tl i = if tkF tb tl i = tl then 0 else if leB (tb (tkF tb tl i)) = false then 1 else if diB (tb (tkF tb tl i)) = false then (if deT tb tl (tkF tb tl i) - tkF tb tl i ≤ 2 then 2 else 4) else if tb (tkF tb tl i) = 59 then 3 else 4 := rfl
  have hW : wdT tb tl i = if tkT tb tl i - tkF tb tl i ≤ 8 then pkF (fun j => tb (tkF tb tl i + j)) (tkT tb tl i - tkF tb tl i) else 0 := rfl
  have hL : vlT tb tl i = vlF tb (tkF tb tl i) (tkT tb tl i - tkF tb tl i) := rfl
  generalize hfe : tkF tb tl i = f at a b h10 hT hK hW hL
  have key : ∃ M', tokR M = some M' ∧ FTm M M' ∧ gI M' 100 12 = nI f ∧ gI M' 100 10 = nI (tkT tb tl i) ∧ gI M' 100 13 = nI (kM (tkK tb tl i)) ∧ (tkK tb tl i = 1 → gL M' 100 15 = lN (wdT tb tl i)) ∧ (tkK tb tl i = 2 → gI M' 100 14 = nI (vlT tb tl i)) := by
    have f1 : FTm M (sI M 100 12 (nI f)) := FTm_sI _ (by omega)
    have f2 : FTm M (sL (sI M 100 12 (nI f)) 100 15 (lN 0)) := FTm_tr f1 (FTm_sL _)
    have q1 := MTq_F h f1
    have q2 := MTq_F h f2
    have e10 : gI (sI M 100 12 (nI f)) 100 10 = nI f := by rw [gI_sI, if_neg (by omega), h10]
    have e12 : gI (sL (sI M 100 12 (nI f)) 100 15 (lN 0)) 100 12 = nI f := by rw [gI_sL, gI_sI, if_pos ⟨rfl, rfl⟩]
    have e10b : gI (sL (sI M 100 12 (nI f)) 100 15 (lN 0)) 100 10 = nI f := e10
    unfold tokR
    rw [h10, nm_s, xsee_v q1 e10 b, bn_s, nm_s]
    by_cases c : f < tl
    · have hb := see_b h c
      obtain ⟨-, -, -, -, -, -, -, i1, i2⟩ := i8_all (tb f) hb
      have cn : ¬ f = tl := by omega
      rw [if_neg cn] at hT hK
      rw [if_pos c, if_pos (nI_le (Nat.zero_le _) (by omega)), i1, bn_s, i2, bn_s]
      by_cases c1 : leB (tb f) = false
      · rw [if_pos c1] at hT hK
        obtain ⟨M', g1, g2, g3, g4, g5, g6⟩ := word_v q2 b e10b rfl
        rw [c1, if_pos (by decide), g1]
        refine ⟨M', rfl, FTm_tr f2 g2, by rw [g3, e12], by rw [g4, hT], by rw [g5, hK]; rfl, fun _ => ?_, fun z => by rw [hK] at z; omega⟩
        rw [g6, hW, hT]
      · have c1' : leB (tb f) = true := by simpa using c1
        rw [if_neg c1] at hT hK
        rw [c1', if_neg (by decide)]
        by_cases c2 : diB (tb f) = false
        · rw [if_pos c2] at hT hK
          have q3 := MTq_F q2 (FTm_sI _ (k := 14) (v := nI 0) (by omega))
          obtain ⟨M', g1, g2, g3, g4, g5, g6⟩ := numb_v q3 b (by rw [gI_sI, if_neg (by omega)]; exact e10b) (by rw [gI_sI, if_pos ⟨rfl, rfl⟩])
          rw [c2, if_pos (by decide), nm_s, g1]
          refine ⟨M', rfl, FTm_tr f2 (FTm_tr (FTm_sI _ (by omega)) g2), by rw [g3, gI_sI, if_neg (by omega), e12], by rw [g4, hT], ?_, fun z => ?_, fun z => ?_⟩
          · rw [g5, hK]
            by_cases d : deT tb tl f - f ≤ 2
            · rw [if_pos d, if_pos d]; rfl
            · rw [if_neg d, if_neg d]; rfl
          · rw [hK] at z
            split at z <;> omega
          · have d : deT tb tl f - f ≤ 2 := by
              rw [hK] at z
              by_cases d : deT tb tl f - f ≤ 2
              · exact d
              · rw [if_neg d] at z; omega
            rw [g6 d, hL, hT]
        · have c2' : diB (tb f) = true := by simpa using c2
          rw [if_neg c2] at hT hK
          rw [c2', if_neg (by decide), e10b, nI_add, nm_s, ite_p (eq_n (by omega) (by omega)), nm_s, nm_s]
          by_cases c3 : tb f = 59
          · rw [if_pos c3] at hK
            rw [if_pos c3]
            refine ⟨_, rfl, FTm_tr f2 (FTm_tr (FTm_sI _ (by omega)) (FTm_sI _ (by omega))), ?_, ?_, ?_, fun z => by rw [hK] at z; omega, fun z => by rw [hK] at z; omega⟩
            · rw [gI_sI, if_neg (by omega), gI_sI, if_neg (by omega)]; exact e12
            · rw [gI_sI, if_neg (by omega), gI_sI, if_pos ⟨rfl, rfl⟩, hT]
            · rw [gI_sI, if_pos ⟨rfl, rfl⟩, hK]; rfl
          · rw [if_neg c3] at hK
            rw [if_neg c3]
            refine ⟨_, rfl, FTm_tr f2 (FTm_tr (FTm_sI _ (by omega)) (FTm_sI _ (by omega))), ?_, ?_, ?_, fun z => by rw [hK] at z; omega, fun z => by rw [hK] at z; omega⟩
            · rw [gI_sI, if_neg (by omega), gI_sI, if_neg (by omega)]; exact e12
            · rw [gI_sI, if_neg (by omega), gI_sI, if_pos ⟨rfl, rfl⟩, hT]
            · rw [gI_sI, if_pos ⟨rfl, rfl⟩, hK]; rfl
    · have ce : f = tl := by omega
      rw [if_pos ce] at hT hK
      rw [if_neg c, if_neg (show ¬ nI 0 ≤ -1 by decide), nm_s]
      refine ⟨_, rfl, FTm_tr f2 (FTm_sI _ (by omega)), ?_, ?_, ?_, fun z => by rw [hK] at z; omega, fun z => by rw [hK] at z; omega⟩
      · rw [gI_sI, if_neg (by omega)]; exact e12
      · rw [gI_sI, if_neg (by omega), e10b, hT, ce]
      · rw [gI_sI, if_pos ⟨rfl, rfl⟩, hK]; rfl
  obtain ⟨M', g1, g2, g3, g4, g5, g6, g7⟩ := key
  exact ⟨M', g1, g2, MTq_F h g2, hi, by rw [hfe]; exact g3, g4, g5, g6, g7⟩
theorem token_v (h : MTq tb tl M) {i : Nat} (hi : i ≤ tl) (h10 : gI M 100 10 = nI i) : ∃ M', f_X10_token M = some M' ∧ FTm M M' ∧ MTk tb tl i M' := by
  have h6 := h.2.2
  obtain ⟨m1, m2, m3, m4⟩ := ff_v (fun j => blB (tb j)) (tl - i) i
  obtain ⟨a, b⟩ := tkF_b (tb := tb) hi
  have hFj : ∀ j, FTm M (sI M 100 10 (nI j)) := fun j => FTm_sI _ (by omega)
  have hqj : ∀ j, MTq tb tl (sI M 100 10 (nI j)) := fun j => MTq_F h (hFj j)
  have e10 : ∀ j, gI (sI M 100 10 (nI j)) 100 10 = nI j := fun j => by rw [gI_sI, if_pos ⟨rfl, rfl⟩]
  have rest : ∀ j, j ≤ tl → (j < tl → blB (tb j) = true) → ∀ rc, b_X10_token_0 rc (sI M 100 10 (nI j)) = tokR (sI M 100 10 (nI j)) := by
    intro j hj hbl rc
    have hsee := xsee_v (hqj j) (e10 j) hj
    have c10 : ¬ (if j < tl then nI (tb j) else -1) = nI 10 := by
      by_cases c : j < tl
      · have hb := see_b h c
        have := hbl c
        unfold blB at this
        have t : ¬ (tb j = 10 ∨ tb j = 32) := by simpa using this
        rw [if_pos c]
        exact ne_n (fun z => t (Or.inl z)) (by omega) (by omega)
      · rw [if_neg c]; decide
    have c32 : ¬ (if j < tl then nI (tb j) else -1) = nI 32 := by
      by_cases c : j < tl
      · have hb := see_b h c
        have := hbl c
        unfold blB at this
        have t : ¬ (tb j = 10 ∨ tb j = 32) := by simpa using this
        rw [if_pos c]
        exact ne_n (fun z => t (Or.inr z)) (by omega) (by omega)
      · rw [if_neg c]; decide
    unfold b_X10_token_0 tokR
    rw [hsee, bn_s, if_neg c10, bn_s, if_neg c32]
  have e : f_X10_token M = tokR (sI M 100 10 (nI (tkF tb tl i))) := by
    unfold f_X10_token f_X10_token_0
    have hM : M = sI M 100 10 (nI i) := (sI_id h10).symm
    have hl : lp (fun rc q => b_X10_token_0 (fun x0 => rc x0) q) FU (sI M 100 10 (nI i)) = tokR (sI M 100 10 (nI (tkF tb tl i))) := by
      refine lpU_fr (fun j => sI M 100 10 (nI j)) tl (fun m => tokR (sI M 100 10 (nI m))) (fun j => blB (tb j) = true) (by omega) i ?_ ?_ ?_ (tkF tb tl i) a b ?_ ?_
      · intro rc
        exact rest tl (Nat.le_refl _) (fun z => by omega) _
      · intro rc j hij hj hst
        exact rest j (by omega) (fun _ => hst) _
      · intro rc j hij hj hst
        show b_X10_token_0 (fun x0 => rc x0) (sI M 100 10 (nI j)) = rc (sI M 100 10 (nI (j + 1)))
        have hst' : blB (tb j) = false := by simpa using hst
        have hb := see_b h hj
        have t : tb j = 10 ∨ tb j = 32 := by
          unfold blB at hst'
          by_cases q : tb j = 10
          · exact Or.inl q
          · exact Or.inr ((by simpa using hst' : ¬ tb j = 10 → tb j = 32) q)
        have hsee := xsee_v (hqj j) (e10 j) (by omega)
        rw [if_pos hj] at hsee
        have e18 : f_X10_token_18 (fun x0 => rc x0) (sI M 100 10 (nI j)) = rc (sI M 100 10 (nI (j + 1))) := by
          unfold f_X10_token_18
          rw [e10, nI_add, nm_s, sI_sI]
        unfold b_X10_token_0
        rw [hsee, bn_s]
        by_cases c : tb j = 10
        · rw [if_pos (by rw [c]), e18]
        · rw [if_neg (ne_n c (by omega) (by omega)), bn_s, if_pos (by rw [show tb j = 32 by omega]), e18]
      · intro j a1 hj
        rw [m3 j a1 hj]; decide
      · intro z
        exact m4 (by unfold tkF at z; omega)
    rw [← hl, ← hM]
  obtain ⟨M', g1, g2, g3⟩ := tokR_v (hqj (tkF tb tl i)) hi (e10 _)
  rw [e]
  exact ⟨M', g1, FTm_tr (hFj _) g2, g3⟩
/-! numbers and words of the class -/
theorem number_v {i : Nat} (h : XTk tb tl i M) (hk : tkK tb tl i = 2) : f_X2_numberOfToken M = some (nI (vlT tb tl i)) ∧ vlT tb tl i ≤ 99 := by
  obtain ⟨hX, hi, h9, h10, h8⟩ := h
  have h6 := hX.2.2.2
  obtain ⟨a, b⟩ := tkF_b (tb := tb) hi
  obtain ⟨c1, c2, c3⟩ := tkT_b (tb := tb) hi
  have hdig : tkT tb tl i - tkF tb tl i ≤ 2 ∧ ∀ j, tkF tb tl i ≤ j → j < tkT tb tl i → 48 ≤ tb j ∧ tb j ≤ 57 := by
    unfold tkK at hk
    unfold tkT
    by_cases q : tkF tb tl i = tl
    · rw [if_pos q] at hk; omega
    · rw [if_neg q] at hk
      rw [if_neg q]
      by_cases q1 : leB (tb (tkF tb tl i)) = false
      · rw [if_pos q1] at hk; omega
      · rw [if_neg q1] at hk
        rw [if_neg q1]
        by_cases q2 : diB (tb (tkF tb tl i)) = false
        · rw [if_pos q2] at hk
          rw [if_pos q2]
          by_cases q3 : deT tb tl (tkF tb tl i) - tkF tb tl i ≤ 2
          · refine ⟨q3, fun j h1 h2 => ?_⟩
            have := (ff_v (fun j => diB (tb j)) (tl - tkF tb tl i) (tkF tb tl i)).2.2.1 j h1 h2
            have t : diB (tb j) = false := this
            unfold diB at t
            simpa using t
          · rw [if_neg q3] at hk; omega
        · rw [if_neg q2] at hk
          split at hk <;> omega
  obtain ⟨hd2, hdig⟩ := hdig
  have hvb : ∀ n, n ≤ tkT tb tl i - tkF tb tl i → vlF tb (tkF tb tl i) n ≤ 99 := by
    intro n hn
    have e0 : n = 0 ∨ n = 1 ∨ n = 2 := by omega
    rcases e0 with rfl | rfl | rfl
    · exact Nat.zero_le _
    · have := hdig (tkF tb tl i + 0) (by omega) (by omega)
      show 0 * 10 + (tb (tkF tb tl i + 0) - 48) ≤ 99
      omega
    · have := hdig (tkF tb tl i + 0) (by omega) (by omega)
      have := hdig (tkF tb tl i + 1) (by omega) (by omega)
      show (0 * 10 + (tb (tkF tb tl i + 0) - 48)) * 10 + (tb (tkF tb tl i + 1) - 48) ≤ 99
      omega
  refine ⟨?_, hvb _ (Nat.le_refl _)⟩
  unfold f_X2_numberOfToken
  rw [h9, nm_s]
  unfold f_X2_numberOfToken_7
  have e0 : (nI 0, nI (tkF tb tl i)) = (fun j => (nI (vlF tb (tkF tb tl i) (j - tkF tb tl i)), nI j)) (tkF tb tl i) := by
    show _ = (nI (vlF tb (tkF tb tl i) (tkF tb tl i - tkF tb tl i)), nI (tkF tb tl i))
    rw [Nat.sub_self]
    rfl
  rw [e0]
  refine lpU_for (fun j => (nI (vlF tb (tkF tb tl i) (j - tkF tb tl i)), nI j)) (tkT tb tl i) _ (by omega) (tkF tb tl i) c2 ?_ ?_
  · intro rc
    show b_X2_numberOfToken_7 M _ _ (nI (tkT tb tl i)) = _
    unfold b_X2_numberOfToken_7
    rw [h10, if_pos (nI_le (Nat.le_refl _) (by omega))]
    rfl
  · intro rc j h1 h2
    have hb := hdig j h1 h2
    have hv := hvb (j - tkF tb tl i) (by omega)
    have hx := (xb hX (show j < tl by omega)).1
    show b_X2_numberOfToken_7 M _ (nI (vlF tb (tkF tb tl i) (j - tkF tb tl i))) (nI j) = rc (nI (vlF tb (tkF tb tl i) (j + 1 - tkF tb tl i)), nI (j + 1))
    unfold b_X2_numberOfToken_7
    rw [h10, if_neg (nI_ge h2 (by omega)), hX.2.1, if_neg (nI_ge (by omega) (by omega)), if_neg (by rw [hX.1]; decide), gin_n (by omega) (by omega), ix_n (by omega), hx, (i8_all (tb j) (by omega)).2.2.2.2.2.1 (by omega), pk_mul, nI_add, sub_n (by omega), nI_add, nm_s, nm_s, show j + 1 - tkF tb tl i = (j - tkF tb tl i) + 1 by omega]
    have e : vlF tb (tkF tb tl i) (j - tkF tb tl i + 1) = vlF tb (tkF tb tl i) (j - tkF tb tl i) * 10 + tb j - 48 := by
      show vlF tb (tkF tb tl i) (j - tkF tb tl i) * 10 + (tb (tkF tb tl i + (j - tkF tb tl i)) - 48) = _
      rw [show tkF tb tl i + (j - tkF tb tl i) = j by omega]
      omega
    rw [e]
def scN (k j : Nat) : Nat := (strCh k j).toBitVec.toNat
def wC (k : Nat) : Nat := pkF (scN k) (strLn.getD k 0)
theorem ch_all : ∀ k, k < 18 → (2 ≤ strLn.getD k 0 ∧ strLn.getD k 0 ≤ 6) ∧ ∀ j, j < strLn.getD k 0 → strCh k j = nI (scN k j) ∧ 97 ≤ scN k j ∧ scN k j ≤ 122 := by decide +kernel
theorem wC_all : wC 0 = 1936023917 ∧ wC 1 = 418330731890 ∧ wC 2 = 444301539187 ∧ wC 3 = 1885430629 ∧ wC 4 = 7562615 ∧ wC 5 = 129117192807275 ∧ wC 6 = 1952801138 ∧ wC 7 = 1735552887 ∧ wC 8 = 126892433305195 ∧ wC 9 = 6578553 ∧ wC 10 = 495806932324 ∧ wC 11 = 469920146803 ∧ wC 12 = 127961729363826 ∧ wC 13 = 131277310289266 ∧ wC 14 = 1635213689 ∧ wC 15 = 108187649798757 ∧ wC 16 = 24948 ∧ wC 17 = 7237492 := by decide +kernel
theorem is_word {i : Nat} (h : XTk tb tl i M) (hk : tkK tb tl i = 1) {k : Nat} (hk8 : k < 18) : f_X2_is M k = some (decide (wdT tb tl i = wC k)) ∧ wdT tb tl i < 2 ^ 63 := by
  obtain ⟨hX, hi, h9, h10, h8⟩ := h
  have h6 := hX.2.2.2
  obtain ⟨a, b⟩ := tkF_b (tb := tb) hi
  obtain ⟨c1, c2, c3⟩ := tkT_b (tb := tb) hi
  obtain ⟨⟨s1, s2⟩, s3⟩ := ch_all k hk8
  have hlet : ∀ j, tkF tb tl i ≤ j → j < tkT tb tl i → 97 ≤ tb j ∧ tb j ≤ 122 := by
    unfold tkK at hk
    unfold tkT
    by_cases q : tkF tb tl i = tl
    · rw [if_pos q] at hk; omega
    · rw [if_neg q] at hk
      rw [if_neg q]
      by_cases q1 : leB (tb (tkF tb tl i)) = false
      · rw [if_pos q1]
        intro j h1 h2
        have t : leB (tb j) = false := (ff_v (fun j => leB (tb j)) (tl - tkF tb tl i) (tkF tb tl i)).2.2.1 j h1 h2
        unfold leB at t
        simpa using t
      · rw [if_neg q1] at hk
        split at hk
        · split at hk <;> omega
        · split at hk <;> omega
  have hgt := c3 (by omega)
  have hwd : wdT tb tl i = if tkT tb tl i - tkF tb tl i ≤ 8 then pkF (fun j => tb (tkF tb tl i + j)) (tkT tb tl i - tkF tb tl i) else 0 := rfl
  generalize tkF tb tl i = f at a b c2 h9 hlet hgt hwd
  generalize tkT tb tl i = t at c1 c2 h10 hlet hgt hwd
  have hpos : 1 ≤ wC k := by
    unfold wC
    obtain ⟨m, hm⟩ : ∃ m, strLn.getD k 0 = m + 1 := ⟨strLn.getD k 0 - 1, by omega⟩
    have := (s3 m (by omega)).2.1
    rw [hm]
    show 1 ≤ pkF (scN k) m * 256 + scN k m
    omega
  have h63 : wdT tb tl i < 2 ^ 63 := by
    rw [hwd]
    by_cases q : t - f ≤ 8
    · rw [if_pos q]
      exact pkF_63 (fun j hj => by have := hlet (f + j) (by omega) (by omega); show tb (f + j) < 128; omega) q
    · rw [if_neg q]
      exact Nat.two_pow_pos 63
  have hiff : wdT tb tl i = wC k ↔ (t - f = strLn.getD k 0 ∧ ∀ j, j < strLn.getD k 0 → tb (f + j) = scN k j) := by
    rw [hwd]
    constructor
    · intro e
      by_cases q : t - f ≤ 8
      · rw [if_pos q] at e
        obtain ⟨e1, e2⟩ := pkF_inj _ _ (fun j hj => by have := hlet (f + j) (by omega) (by omega); show 1 ≤ tb (f + j) ∧ tb (f + j) < 256; omega) (fun j hj => by have := (s3 j hj).2; omega) e
        exact ⟨e1, fun j hj => e2 j (by omega)⟩
      · rw [if_neg q] at e
        omega
    · rintro ⟨e1, e2⟩
      rw [if_pos (by omega), e1]
      exact pkF_cg _ e2
  refine ⟨?_, h63⟩
  unfold f_X2_is
  rw [h10, h9, sub_n (by omega), ite_p (eq_n (by omega) (by omega)), hX.2.1, ite_p (le_n (by omega) (by omega))]
  by_cases q : t - f = strLn.getD k 0
  · rw [if_pos q, if_pos c1]
    obtain ⟨m, q1, q2, q3⟩ := first_of (fun j => ¬ tb (f + j) = scN k j) (strLn.getD k 0)
    have em : decide (wdT tb tl i = wC k) = decide (m = strLn.getD k 0) := by
      congr 1
      apply propext
      rw [hiff]
      constructor
      · rintro ⟨-, z⟩
        by_cases e : m = strLn.getD k 0
        · exact e
        · exact absurd (z m (by omega)) (q3 (by omega))
      · intro e
        exact ⟨q, fun j hj => Classical.byContradiction (q2 j (by omega))⟩
    rw [em]
    unfold f_X2_is_31
    have hst : ∀ (rc : Int32 → Option Bool) j, j < strLn.getD k 0 → b_X2_is_31 M k (fun x0 => rc x0) (nI j) = if tb (f + j) = scN k j then rc (nI (j + 1)) else some false := by
      intro rc j hj
      have hx := (xb hX (show f + j < tl by omega)).1
      have hl := hlet (f + j) (by omega) (by omega)
      obtain ⟨d1, d2, d3⟩ := s3 j hj
      unfold b_X2_is_31
      rw [if_neg (nI_ge hj (by omega)), if_neg (by rw [hX.1]; decide), h9, nI_add, gin_n (by omega) (by omega), gin_n hj (by omega), ix_n (by omega), ix_n (by omega), hx, (i8_all (tb (f + j)) (by omega)).2.2.2.2.2.1 (by omega), d1, ite_p (eq_n (by omega) (by omega)), nI_add, nm_s]
    refine lpU_find (fun j => nI j) (strLn.getD k 0) (fun m => some (decide (m = strLn.getD k 0))) (fun j => ¬ tb (f + j) = scN k j) (by omega) ?_ ?_ ?_ m q1 q2 q3 0 (Nat.zero_le _)
    · intro rc
      show b_X2_is_31 M k _ (nI (strLn.getD k 0)) = _
      unfold b_X2_is_31
      rw [if_pos (nI_le (Nat.le_refl _) (by omega)), decide_eq_true rfl]
    · intro rc j hj hs
      show b_X2_is_31 M k (fun x0 => rc x0) (nI j) = _
      rw [hst rc j hj, if_neg hs, decide_eq_false (show ¬ j = strLn.getD k 0 by omega)]
    · intro rc j hj hs
      show b_X2_is_31 M k (fun x0 => rc x0) (nI j) = _
      rw [hst rc j hj, if_pos (Classical.byContradiction hs)]
  · rw [if_neg q, decide_eq_false (fun z => q (hiff.mp z).1)]
end Tok
