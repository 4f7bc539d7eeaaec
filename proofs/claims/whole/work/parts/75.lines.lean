/-! TEXTS: faults as they are noted; the class's lines -/
def nt (x : Nat × Nat) (g q : Nat) : Nat × Nat := if x.1 = 0 then (g, q) else x
def ntc (c : Prop) [Decidable c] (g q : Nat) (x : Nat × Nat) : Nat × Nat := if c then nt x g q else x
def PB (x : Nat × Nat) (b : Nat) : Prop := ¬ x.1 = 0 → x.2 < b
theorem ntc_0 {c : Prop} [Decidable c] {g q : Nat} {x : Nat × Nat} (hg : ¬ g = 0) (h : (ntc c g q x).1 = 0) : x.1 = 0 ∧ ¬ c := by
  unfold ntc nt at h
  by_cases p : c
  · rw [if_pos p] at h
    by_cases p2 : x.1 = 0
    · rw [if_pos p2] at h; exact absurd h hg
    · rw [if_neg p2] at h; exact absurd h p2
  · rw [if_neg p] at h; exact ⟨h, p⟩
theorem ntc_id {c : Prop} [Decidable c] {g q : Nat} {x : Nat × Nat} (h : ¬ c) : ntc c g q x = x := if_neg h
theorem ntc_p {c : Prop} [Decidable c] {g q : Nat} {x : Nat × Nat} (h : c) : ntc c g q x = nt x g q := if_pos h
theorem ntc_or {c d : Prop} [Decidable c] [Decidable d] {g q : Nat} {x : Nat × Nat} (hg : ¬ g = 0) : ntc d g q (ntc c g q x) = ntc (c ∨ d) g q x := by
  unfold ntc nt
  by_cases p : c
  · rw [if_pos p, if_pos (Or.inl p)]
    by_cases p2 : x.1 = 0
    · rw [if_pos p2, if_neg (show ¬ (g, q).1 = 0 from hg)]
      by_cases p3 : d
      · rw [if_pos p3]
      · rw [if_neg p3]
    · rw [if_neg p2, if_neg p2]
      by_cases p3 : d
      · rw [if_pos p3]
      · rw [if_neg p3]
  · rw [if_neg p]
    by_cases p3 : d
    · rw [if_pos p3, if_pos (show c ∨ d from Or.inr p3)]
    · rw [if_neg p3, if_neg (show ¬ (c ∨ d) from fun z => z.elim p p3)]
theorem ntc_PB {c : Prop} [Decidable c] {g q b : Nat} {x : Nat × Nat} (h : PB x b) (hq : q < b) : PB (ntc c g q x) b := by
  intro z
  unfold ntc nt at z ⊢
  by_cases p : c
  · rw [if_pos p] at z ⊢
    by_cases p2 : x.1 = 0
    · rw [if_pos p2]; exact hq
    · rw [if_neg p2]; exact h p2
  · rw [if_neg p] at z ⊢; exact h z
theorem PB_le {x : Nat × Nat} {a b : Nat} (h : PB x a) (q : a ≤ b) : PB x b := fun z => Nat.lt_of_lt_of_le (h z) q
theorem ntc_4 {c : Prop} [Decidable c] {g q : Nat} {x : Nat × Nat} (h : x.1 ≤ 4) (hg : g ≤ 4) : (ntc c g q x).1 ≤ 4 := by
  unfold ntc nt
  split
  · split
    · exact hg
    · exact h
  · exact h
def ps (tb : Nat → Nat) (tl e : Nat) : Nat → Nat
  | 0 => e
  | j + 1 => tkT tb tl (ps tb tl e j)
theorem ps_le {tb : Nat → Nat} {tl e : Nat} (h : e ≤ tl) : ∀ j, ps tb tl e j ≤ tl := by
  intro j
  induction j with
  | zero => exact h
  | succ j ih => exact (tkT_b ih).1
theorem ps_s (tb : Nat → Nat) (tl e j : Nat) : tkT tb tl (ps tb tl e j) = ps tb tl e (j + 1) := rfl
theorem tkK_4 (tb : Nat → Nat) (tl i : Nat) : tkK tb tl i ≤ 4 := by
  unfold tkK
  split
  · omega
  · split
    · omega
    · split
      · split <;> omega
      · split <;> omega
def OKn (tb : Nat → Nat) (tl e n : Nat) : Prop := ∀ j, j < n → tkK tb tl (ps tb tl e (j + 1)) = 2
/-- the class's fault -/
def FPx (M : Mem) (x : Nat × Nat) : Prop := (x.1 ≤ 4 ∧ ¬ x.1 = 1) ∧ gI M 10 12 = nI x.1 ∧ gI M 10 13 = if x.1 = 0 then -1 else nI x.2
def FNx (M M' : Mem) : Prop := (∀ o k, ¬ (o = 10 ∧ (k = 12 ∨ k = 13)) → gI M' o k = gI M o k) ∧ (∀ o k, gA M' o k = gA M o k) ∧ ∀ o k, gR M' o k = gR M o k
theorem FNx_rf (M : Mem) : FNx M M := ⟨fun _ _ _ => rfl, fun _ _ => rfl, fun _ _ => rfl⟩
theorem FNx_tr {A B C : Mem} (h : FNx A B) (g : FNx B C) : FNx A C := ⟨fun o k q => (g.1 o k q).trans (h.1 o k q), fun o k => (g.2.1 o k).trans (h.2.1 o k), fun o k => (g.2.2 o k).trans (h.2.2 o k)⟩
theorem FNx_sI (M : Mem) {k : Nat} {v : Int32} (h : k = 12 ∨ k = 13) : FNx M (sI M 10 k v) := ⟨fun a b q => if_neg (fun z => q (by omega)), fun _ _ => rfl, fun _ _ => rfl⟩
/-- only the class's token, fault and numbers have changed -/
def FLx (M M' : Mem) : Prop := (∀ o k, ¬ (o = 10 ∧ (8 ≤ k ∧ k ≤ 10 ∨ k = 12 ∨ k = 13)) → gI M' o k = gI M o k) ∧ (∀ o k, ¬ (o = 10 ∧ (k = 4 ∨ k = 5)) → gA M' o k = gA M o k) ∧ ∀ o k, gR M' o k = gR M o k
theorem FLx_rf (M : Mem) : FLx M M := ⟨fun _ _ _ => rfl, fun _ _ _ => rfl, fun _ _ => rfl⟩
theorem FLx_tr {A B C : Mem} (h : FLx A B) (g : FLx B C) : FLx A C := ⟨fun o k q => (g.1 o k q).trans (h.1 o k q), fun o k q => (g.2.1 o k q).trans (h.2.1 o k q), fun o k => (g.2.2 o k).trans (h.2.2 o k)⟩
theorem FLx_S {M M' : Mem} (h : FSx M M') : FLx M M' := ⟨fun o k q => h.1 o k (by omega), fun o k _ => h.2.1 o k, h.2.2⟩
theorem FLx_N {M M' : Mem} (h : FNx M M') : FLx M M' := ⟨fun o k q => h.1 o k (by omega), fun o k _ => h.2.1 o k, h.2.2⟩
theorem FLx_sA (M : Mem) {k j : Nat} {v : Int32} (h : k = 4 ∨ k = 5) : FLx M (sA M 10 k j v) := ⟨fun _ _ _ => rfl, fun a b q => if_neg (fun z => q (by omega)), fun _ _ => rfl⟩
theorem nI_m1 : ∀ n, n < 200 → ¬ nI n = -1 := by decide +kernel
section Lines
variable {tb : Nat → Nat} {tl : Nat} {M : Mem}
theorem XTk_N {i : Nat} {M' : Mem} (h : XTk tb tl i M) (f : FNx M M') : XTk tb tl i M' := by
  obtain ⟨⟨a1, a2, a3, a4⟩, h1, h2, h3, h4⟩ := h
  exact ⟨⟨by rw [f.2.2]; exact a1, by rw [f.1 10 7 (by omega)]; exact a2, fun j hj => by rw [f.2.1]; exact a3 j hj, a4⟩, h1, by rw [f.1 10 9 (by omega)]; exact h2, by rw [f.1 10 10 (by omega)]; exact h3, by rw [f.1 10 8 (by omega)]; exact h4⟩
theorem XTk_A {i k j : Nat} {v : Int32} (h : XTk tb tl i M) (hk : k = 4 ∨ k = 5) : XTk tb tl i (sA M 10 k j v) := by
  obtain ⟨⟨a1, a2, a3, a4⟩, h1, h2, h3, h4⟩ := h
  exact ⟨⟨a1, a2, fun j hj => by rw [gA_sA, if_neg (by omega)]; exact a3 j hj, a4⟩, h1, h2, h3, h4⟩
theorem step_n {i : Nat} (h : XTk tb tl i M) : ∃ M', f_X2_step M = some M' ∧ FSx M M' ∧ XTk tb tl (tkT tb tl i) M' := by
  have hi := (tkT_b (tb := tb) h.2.1).1
  exact step_v h.1 hi h.2.2.2.1
theorem note_v {x : Nat × Nat} (h : FPx M x) {g q : Nat} (h1 : ¬ g = 0) (h4 : g ≤ 4 ∧ ¬ g = 1) : ∃ M', f_X2_note M (nI g) (nI q) = some M' ∧ FPx M' (nt x g q) ∧ FNx M M' := by
  obtain ⟨a, b, c⟩ := h
  unfold f_X2_note nt
  rw [b, ite_p (eq_n (by omega) (by omega))]
  by_cases p : x.1 = 0
  · rw [if_pos p, if_pos p]
    refine ⟨_, rfl, ⟨h4, ?_, ?_⟩, FNx_tr (FNx_sI _ (by omega)) (FNx_sI _ (by omega))⟩
    · rw [gI_sI, if_neg (by omega), gI_sI, if_pos ⟨rfl, rfl⟩]
    · rw [gI_sI, if_pos ⟨rfl, rfl⟩, if_neg (show ¬ (g, q).1 = 0 from h1)]
  · rw [if_neg p, if_neg p]
    exact ⟨_, rfl, ⟨a, b, c⟩, FNx_rf _⟩
theorem room_v {x : Nat × Nat} (h : FPx M x) {n m q : Nat} (hn : n < 100) (hm : m < 100) : ∃ M', f_X2_leaveRoom M (nI n) (nI m) (nI q) = some M' ∧ FPx M' (ntc (m ≤ n) 3 q x) ∧ FNx M M' := by
  unfold f_X2_leaveRoom
  rw [ite_p (lt_n (by omega) (by omega))]
  by_cases p : n < m
  · rw [if_pos p, ntc_id (by omega)]
    exact ⟨_, rfl, h, FNx_rf _⟩
  · rw [if_neg p, ntc_p (by omega)]
    obtain ⟨M', g1, g2, g3⟩ := note_v h (g := 3) (q := q) (by omega) (by omega)
    rw [g1]
    exact ⟨M', rfl, g2, g3⟩
theorem bound_v {x : Nat × Nat} (h : FPx M x) {j v q lo hi : Nat} (hj : j < 4) (hv : gA M 10 4 j = nI v) (hq : gA M 10 5 j = nI q) (v9 : v < 100) (hlo : lo < 100) (hhi : hi < 100) : ∃ M', f_X2_bound M (nI j) (nI lo) (nI hi) = some M' ∧ FPx M' (ntc (v < lo ∨ hi < v) 2 q x) ∧ FNx M M' := by
  unfold f_X2_bound f_X2_bound_29
  rw [ite_p (lt_n (by omega) (by omega)), if_neg (by omega), ite_p (le_n (by omega) (by omega)), if_neg (by omega)]
  have hg : ∀ z : Option Mem, gin (nI j) 4 z = z := fun z => gin_n hj (by omega)
  simp only [hg]
  rw [ix_n (by omega), hv, hq, ite_p (lt_n (by omega) (by omega)), ite_p (le_n (by omega) (by omega))]
  obtain ⟨M', g1, g2, g3⟩ := note_v h (g := 2) (q := q) (by omega) (by omega)
  rw [g1]
  by_cases p : v < lo
  · rw [if_pos p, ntc_p (Or.inl p)]
    exact ⟨M', rfl, g2, g3⟩
  · rw [if_neg p]
    by_cases p2 : v ≤ hi
    · rw [if_pos p2, ntc_id (by omega)]
      exact ⟨M, rfl, h, FNx_rf _⟩
    · rw [if_neg p2, ntc_p (by omega)]
      exact ⟨M', rfl, g2, g3⟩
theorem couple_v {x : Nat × Nat} (h : FPx M x) {v0 v1 q0 q1 : Nat} (hv : gA M 10 4 0 = nI v0) (hq : gA M 10 5 0 = nI q0) (hw : gA M 10 4 1 = nI v1) (hr : gA M 10 5 1 = nI q1) (h0 : v0 < 100) (h1 : v1 < 100) : ∃ M', f_X2_boundCouple M = some M' ∧ FPx M' (ntc ((v1 < 0 ∨ 8 < v1) ∨ v0 = v1) 2 q1 (ntc (v0 < 0 ∨ 8 < v0) 2 q0 x)) ∧ FNx M M' := by
  unfold f_X2_boundCouple
  obtain ⟨M1, a1, a2, a3⟩ := bound_v h (j := 0) (lo := 0) (hi := 8) (by omega) hv hq h0 (by omega) (by omega)
  obtain ⟨M2, b1, b2, b3⟩ := bound_v a2 (j := 1) (lo := 0) (hi := 8) (by omega) (by rw [a3.2.1]; exact hw) (by rw [a3.2.1]; exact hr) h1 (by omega) (by omega)
  rw [a1, bn_s, b1, bn_s]
  have hg : ∀ (j : Nat) (z : Option Mem), j < 4 → gin (nI j) 4 z = z := fun j z hj => gin_n hj (by omega)
  have e : ∀ k, gA M2 10 k = gA M 10 k := fun k => by rw [b3.2.1, a3.2.1]
  rw [hg _ _ (by omega), hg _ _ (by omega), hg _ _ (by omega), ix_n (by omega), ix_n (by omega), e, e, hv, hw, hr, ite_p (eq_n (by omega) (by omega)), ← ntc_or (by omega)]
  by_cases p : v0 = v1
  · obtain ⟨M3, c1, c2, c3⟩ := note_v b2 (g := 2) (q := q1) (by omega) (by omega)
    rw [if_pos p, c1, ntc_p p]
    exact ⟨M3, rfl, c2, FNx_tr a3 (FNx_tr b3 c3)⟩
  · rw [if_neg p, ntc_id p]
    exact ⟨M2, rfl, b2, FNx_tr a3 b3⟩
/-- the class has broken off at place q -/
def BRx (M0 M : Mem) (q : Nat) : Prop := FLx M0 M ∧ gI M 10 12 = nI 1 ∧ gI M 10 13 = nI q
theorem break_v {i : Nat} (h : XTk tb tl i M) : ∃ M', f_X2_breakOff M = some M' ∧ BRx M M' (tkF tb tl i) := by
  refine ⟨_, rfl, FLx_N (FNx_tr (FNx_sI _ (k := 12) (by omega)) (FNx_sI _ (k := 13) (by omega))), ?_, ?_⟩
  · rw [gI_sI, if_neg (by omega), gI_sI, if_pos ⟨rfl, rfl⟩]
  · rw [gI_sI, if_pos ⟨rfl, rfl⟩, gI_sI, if_neg (by omega)]
    exact h.2.2.1
/-- the numbers of a line, n of them -/
def NMx (tb : Nat → Nat) (tl e n : Nat) (M : Mem) : Prop := ∀ j, j < n → gA M 10 4 j = nI (vlT tb tl (ps tb tl e (j + 1))) ∧ gA M 10 5 j = nI (tkF tb tl (ps tb tl e (j + 1)))
theorem loop47_v {e n : Nat} (hn : n ≤ 4) (a1 q w : Int32) : ∀ k j (M : Mem) f, k + j = n → k < f → XTk tb tl (ps tb tl e (j + 1)) M → NMx tb tl e j M → OKn tb tl e j → (OKn tb tl e n ∧ ∃ M', FLx M M' ∧ XTk tb tl (ps tb tl e (n + 1)) M' ∧ NMx tb tl e n M' ∧ (∀ o, gI M' o 12 = gI M o 12 ∧ gI M' o 13 = gI M o 13) ∧ f_X2_line_47 a1 q w (nI n) f (nI j, M) = f_X2_line_105 a1 q w M') ∨ (∃ t, t < n ∧ OKn tb tl e t ∧ ¬ tkK tb tl (ps tb tl e (t + 1)) = 2 ∧ ∃ M', f_X2_line_47 a1 q w (nI n) f (nI j, M) = some M' ∧ BRx M M' (tkF tb tl (ps tb tl e (t + 1)))) := by
  intro k
  induction k with
  | zero =>
    intro j M f h1 hf hX hN hO
    obtain ⟨f, rfl⟩ : ∃ m, f = m + 1 := ⟨f - 1, by omega⟩
    have ej : j = n := by omega
    subst ej
    refine Or.inl ⟨hO, M, FLx_rf M, hX, hN, fun _ => ⟨rfl, rfl⟩, ?_⟩
    show b_X2_line_47 _ _ _ _ _ (nI j) M = _
    unfold b_X2_line_47
    rw [if_pos (nI_le (Nat.le_refl _) (by omega))]
  | succ k ih =>
    intro j M f h1 hf hX hN hO
    obtain ⟨f, rfl⟩ : ∃ m, f = m + 1 := ⟨f - 1, by omega⟩
    have k4 := tkK_4 tb tl (ps tb tl e (j + 1))
    have e1 : f_X2_line_47 a1 q w (nI n) (f + 1) (nI j, M) = if tkK tb tl (ps tb tl e (j + 1)) = 2 then bn (f_X2_numberOfToken M) fun r21 => bn (f_X2_step (sA (sA M 10 4 j r21) 10 5 j (gI M 10 9))) fun M27 => f_X2_line_47 a1 q w (nI n) f (nI (j + 1), M27) else bn (f_X2_breakOff M) fun M30 => some M30 := by
      show b_X2_line_47 _ _ _ _ _ (nI j) M = _
      unfold b_X2_line_47
      rw [if_neg (nI_ge (by omega) (by omega)), if_neg (nI_ge (by omega) (by omega)), hX.2.2.2.2, ite_p (eq_n (by omega) (by omega))]
      by_cases p : tkK tb tl (ps tb tl e (j + 1)) = 2
      · rw [if_pos p, if_pos p]
        congr 1
        funext r
        rw [gin_n (by omega) (by omega), nm_s, gin_n (by omega) (by omega), nm_s, ix_n (by omega), nI_add]
        rfl
      · rw [if_neg p, if_neg p]
    rw [e1]
    by_cases p : tkK tb tl (ps tb tl e (j + 1)) = 2
    · rw [if_pos p]
      obtain ⟨v1, v2⟩ := number_v hX p
      rw [v1, bn_s, hX.2.2.1]
      have hX2 : XTk tb tl (ps tb tl e (j + 1)) (sA (sA M 10 4 j (nI (vlT tb tl (ps tb tl e (j + 1))))) 10 5 j (nI (tkF tb tl (ps tb tl e (j + 1))))) := XTk_A (XTk_A hX (by omega)) (by omega)
      obtain ⟨M2, s1, s2, s3⟩ := step_n hX2
      rw [s1, bn_s]
      have hN2 : NMx tb tl e (j + 1) M2 := by
        intro j' hj'
        rw [s2.2.1, s2.2.1, gA_sA, gA_sA, gA_sA, gA_sA]
        by_cases pj : j' = j
        · subst pj
          exact ⟨by rw [if_neg (by omega), if_pos ⟨rfl, rfl, rfl⟩], by rw [if_pos ⟨rfl, rfl, rfl⟩]⟩
        · have := hN j' (by omega)
          exact ⟨by rw [if_neg (by omega), if_neg (by omega)]; exact this.1, by rw [if_neg (by omega), if_neg (by omega)]; exact this.2⟩
      have hO2 : OKn tb tl e (j + 1) := by
        intro j' hj'
        by_cases pj : j' = j
        · rw [pj]; exact p
        · exact hO j' (by omega)
      have hF : FLx M M2 := FLx_tr (FLx_sA _ (by omega)) (FLx_tr (FLx_sA _ (by omega)) (FLx_S s2))
      rcases ih (j + 1) M2 f (by omega) (by omega) s3 hN2 hO2 with ⟨i1, M3, i2, i3, i4, i5, i6⟩ | ⟨t, i1, i2, i3, M3, i4, i5, i6⟩
      · exact Or.inl ⟨i1, M3, FLx_tr hF i2, i3, i4, fun o => ⟨by rw [(i5 o).1, s2.1 o 12 (by omega)]; rfl, by rw [(i5 o).2, s2.1 o 13 (by omega)]; rfl⟩, i6⟩
      · exact Or.inr ⟨t, i1, i2, i3, M3, i4, FLx_tr hF i5, i6⟩
    · rw [if_neg p]
      obtain ⟨M2, s1, s2⟩ := break_v hX
      rw [s1, bn_s]
      exact Or.inr ⟨j, by omega, hO, p, M2, rfl, s2⟩
def bodyX (a1 w q : Int32) (M : Mem) : Option Mem := if a1 = nI 0 then (bn (f_X2_lineOfCoat M w q) fun M6 => some M6) else if a1 = nI 1 then (bn (f_X2_lineOfLife M w q) fun M9 => some M9) else if a1 = nI 2 then (bn (f_X2_lineOfTown M w q) fun M12 => some M12) else (bn (f_X2_lineOfSight M w q) fun M14 => some M14)
/-- the form of a line with n numbers: as it is to be, or where it breaks off -/
def BADn (tb : Nat → Nat) (tl e n t : Nat) : Prop := t ≤ n ∧ OKn tb tl e t ∧ (t < n → ¬ tkK tb tl (ps tb tl e (t + 1)) = 2) ∧ (t = n → ¬ tkK tb tl (ps tb tl e (t + 1)) = 3)
theorem line_v {e : Nat} (h : XTk tb tl e M) (hk : tkK tb tl e = 1) {a w n : Nat} (hw : f_X2_wordOf M (nI a) = some (nI w)) (hw9 : w < 9) (hn : f_X2_numbersOf (nI a) (nI w) = some (nI n)) (hn4 : n ≤ 4) : (OKn tb tl e n ∧ tkK tb tl (ps tb tl e (n + 1)) = 3 ∧ ∃ M', FLx M M' ∧ XTk tb tl (ps tb tl e (n + 2)) M' ∧ NMx tb tl e n M' ∧ (∀ o, gI M' o 12 = gI M o 12 ∧ gI M' o 13 = gI M o 13) ∧ f_X2_line M (nI a) = bodyX (nI a) (nI w) (nI (tkF tb tl e)) M') ∨ (∃ t, BADn tb tl e n t ∧ ∃ M', f_X2_line M (nI a) = some M' ∧ BRx M M' (tkF tb tl (ps tb tl e (t + 1)))) := by
  have e1 : f_X2_line M (nI a) = f_X2_line_22 (nI a) (nI (tkF tb tl e)) (nI w) M := by
    unfold f_X2_line
    rw [h.2.2.1, nm_s, h.2.2.2.2, hk, if_pos rfl, hw, bn_s]
  have e2 : ∀ M1, f_X2_step M = some M1 → f_X2_line M (nI a) = f_X2_line_47 (nI a) (nI (tkF tb tl e)) (nI w) (nI n) FU (nI 0, M1) := by
    intro M1 hs
    rw [e1]
    unfold f_X2_line_22
    rw [if_neg (nI_m1 w (by omega)), hs, bn_s, hn, bn_s]
  obtain ⟨M1, s1, s2, s3⟩ := step_n h
  rw [e2 M1 s1]
  rcases loop47_v (tb := tb) (tl := tl) (e := e) hn4 (nI a) (nI (tkF tb tl e)) (nI w) n 0 M1 FU (by omega) (by rw [FU_v]; omega) s3 (fun j hj => by omega) (fun j hj => by omega) with ⟨i1, M3, i2, i3, i4, i5, i6⟩ | ⟨t, i1, i2, i3, M3, i4, i5, i6⟩
  · have k4 := tkK_4 tb tl (ps tb tl e (n + 1))
    rw [i6]
    unfold f_X2_line_105
    rw [i3.2.2.2.2, ite_p (eq_n (by omega) (by omega))]
    by_cases p : tkK tb tl (ps tb tl e (n + 1)) = 3
    · rw [if_pos p]
      obtain ⟨M4, t1, t2, t3⟩ := step_n i3
      rw [t1, bn_s]
      refine Or.inl ⟨i1, p, M4, FLx_tr (FLx_S s2) (FLx_tr i2 (FLx_S t2)), t3, fun j hj => by rw [t2.2.1, t2.2.1]; exact i4 j hj, fun o => ⟨by rw [t2.1 o 12 (by omega), (i5 o).1, s2.1 o 12 (by omega)], by rw [t2.1 o 13 (by omega), (i5 o).2, s2.1 o 13 (by omega)]⟩, rfl⟩
    · rw [if_neg p]
      obtain ⟨M4, t1, t2⟩ := break_v i3
      rw [t1, bn_s]
      exact Or.inr ⟨n, ⟨Nat.le_refl _, i1, fun z => by omega, fun _ => p⟩, M4, rfl, FLx_tr (FLx_S s2) (FLx_tr i2 t2.1), t2.2⟩
  · exact Or.inr ⟨t, ⟨by omega, i2, fun _ => i3, fun z => by omega⟩, M3, i4, FLx_tr (FLx_S s2) i5, i6⟩
theorem line_n {e : Nat} (h : XTk tb tl e M) {a : Nat} (hw : tkK tb tl e = 1 → f_X2_wordOf M (nI a) = some (-1)) : ∃ M', f_X2_line M (nI a) = some M' ∧ BRx M M' (tkF tb tl e) := by
  have k4 := tkK_4 tb tl e
  obtain ⟨M2, s1, s2⟩ := break_v h
  have e1 : f_X2_line M (nI a) = f_X2_line_22 (nI a) (nI (tkF tb tl e)) (-1) M := by
    unfold f_X2_line
    rw [h.2.2.1, nm_s, h.2.2.2.2, ite_p (eq_n (by omega) (by omega))]
    by_cases p : tkK tb tl e = 1
    · rw [if_pos p, hw p, bn_s]
    · rw [if_neg p]
  rw [e1]
  unfold f_X2_line_22
  rw [if_pos rfl, s1, bn_s]
  exact ⟨M2, rfl, s2⟩
end Lines
