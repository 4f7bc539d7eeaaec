/-! TEXTS: a line of both sides -/
theorem BAD_ok {tb : Nat → Nat} {tl e n t : Nat} (h : BADn tb tl e n t) (ho : OKn tb tl e n) (h3 : tkK tb tl (ps tb tl e (n + 1)) = 3) : False := by
  obtain ⟨a, b, c, d⟩ := h
  by_cases q : t < n
  · exact c q (ho t q)
  · have e : t = n := by omega
    subst e
    exact d rfl h3
theorem BAD_one {tb : Nat → Nat} {tl e n t t' : Nat} (h : BADn tb tl e n t) (h' : BADn tb tl e n t') : t = t' := by
  obtain ⟨a, b, c, d⟩ := h
  obtain ⟨a', b', c', d'⟩ := h'
  rcases Nat.lt_trichotomy t t' with q | q | q
  · exact absurd (b' t q) (c (by omega))
  · exact q
  · exact absurd (b t' q) (c' (by omega))
section Joined
variable {tb : Nat → Nat} {tl : Nat} {M : Mem}
theorem sign_all {e n : Nat} {Q : Mem → Prop} {M0 : Mem} {a : Nat} {wd : Int64} {v : Int32} (h : LR tb tl e n Q M0 (f_X10_lineOf M0 (nI a) wd v)) (hQ : ∀ M', Q M' → MTk tb tl (ps tb tl e (n + 1)) M' ∧ FM M0 M') (h1 : OKn tb tl e n) (h2 : tkK tb tl (ps tb tl e (n + 1)) = 3) : ∃ M5 M6, Q M5 ∧ FTm M5 M6 ∧ MTk tb tl (ps tb tl e (n + 2)) M6 ∧ ∀ rc, f_X10_lines_41 (nI a) rc v (nI a) wd M0 = rc true M6 := by
  rcases h with ⟨g1, M5, g2, g3⟩ | ⟨t, g1, g2, g3, -⟩
  · obtain ⟨q1, q2⟩ := hQ M5 g3
    obtain ⟨M6, t1, t2, t3⟩ := tok_n q1
    refine ⟨M5, M6, g3, t2, t3, fun rc => ?_⟩
    unfold f_X10_lines_41 f_X10_lines_63 f_X10_lines_71
    rw [g2, bp_s, if_pos rfl, q1.2.2.2.2.1, h2, if_pos (show nI (kM 3) = nI 4 by decide), if_pos rfl, t1, bn_s]
  · exact absurd (h1 t g1) g3
theorem sign_bad {e n t : Nat} {Q : Mem → Prop} {M0 : Mem} {a : Nat} {wd : Int64} {v : Int32} (h : LR tb tl e n Q M0 (f_X10_lineOf M0 (nI a) wd v)) (hQ : ∀ M', Q M' → MTk tb tl (ps tb tl e (n + 1)) M' ∧ FM M0 M') (hb : BADn tb tl e n t) : ∃ M6, (∀ rc, f_X10_lines_41 (nI a) rc v (nI a) wd M0 = rc false M6) ∧ gI M6 100 16 = nI (tkF tb tl (ps tb tl e (t + 1))) ∧ FM M0 M6 := by
  rcases h with ⟨g1, M5, g2, g3⟩ | ⟨t', g1, g2, g3, M5, g4, g5, g6⟩
  · obtain ⟨q1, q2⟩ := hQ M5 g3
    have k4 := tkK_4 tb tl (ps tb tl e (n + 1))
    have km : ∀ k, k ≤ 4 → (nI (kM k) = nI 4) = (k = 3) := by decide
    have et : t = n := by
      by_cases q : t < n
      · exact absurd (g1 t q) (hb.2.2.1 q)
      · have := hb.1; omega
    subst et
    refine ⟨sI M5 100 16 (gI M5 100 12), fun rc => ?_, by rw [gI_sI, if_pos ⟨rfl, rfl⟩]; exact q1.2.2.1, FM_tr q2 (FM_sI _)⟩
    unfold f_X10_lines_41 f_X10_lines_63 f_X10_lines_71 f_X10_fails
    rw [g2, bp_s, if_pos rfl, q1.2.2.2.2.1, ite_p (km _ k4), if_neg (hb.2.2.2 rfl), nm_s, bp_s, if_neg (by decide)]
  · have et : t = t' := BAD_one hb ⟨by omega, g2, fun _ => g3, fun z => by omega⟩
    subst et
    refine ⟨M5, fun rc => ?_, g5, g6⟩
    unfold f_X10_lines_41 f_X10_lines_63 f_X10_lines_71
    rw [g4, bp_s, if_neg (by decide), if_neg (by decide)]
theorem lcmp_n {a b : Nat} (ha : a < 2 ^ 63) (hb : b < 2 ^ 63) : (lg_cmp (lN a) (lN b) = nI 0) = (a = b) := by
  unfold lg_cmp
  by_cases h : b < a
  · rw [if_pos (show lN a > lN b from (pk_lLT hb ha).mpr h)]
    exact propext ⟨fun z => absurd z (by decide), fun z => by omega⟩
  · rw [if_neg (fun q : lN a > lN b => h ((pk_lLT hb ha).mp q))]
    by_cases h2 : a = b
    · subst h2
      rw [if_pos rfl]
      exact propext ⟨fun _ => rfl, fun _ => rfl⟩
    · have h3 : ¬ lN a = lN b := by
        intro z
        have h4 : lN a < lN b := (pk_lLT ha hb).mpr (by omega)
        rw [z] at h4
        exact absurd ((pk_lLT hb hb).mp h4) (by omega)
      rw [if_neg h3]
      exact propext ⟨fun z => absurd z (by decide), fun z => absurd z h2⟩
/-- what a line does on both sides: on to a later one, or broken off at one place -/
def StepR (tb : Nat → Nat) (tl : Nat) (K : Nat × Nat → Mem → Mem → Prop) (a e : Nat) (Mx Mm : Mem) : Prop := (∃ e' x' Mx' Mm', f_X2_line Mx (nI a) = some Mx' ∧ FX Mx Mx' ∧ (∀ rc, b_X10_lines_2 (nI a) rc true Mm = rc true Mm') ∧ FM Mm Mm' ∧ e < e' ∧ e' ≤ tl ∧ XTk tb tl e' Mx' ∧ FPx Mx' x' ∧ MTk tb tl e' Mm' ∧ FPm Mm' x' ∧ PB x' (tkF tb tl e') ∧ K x' Mx' Mm') ∨ ∃ q Mx' Mm', f_X2_line Mx (nI a) = some Mx' ∧ FX Mx Mx' ∧ gI Mx' 10 12 = nI 1 ∧ gI Mx' 10 13 = nI q ∧ (∀ rc, b_X10_lines_2 (nI a) rc true Mm = rc false Mm') ∧ gI Mm' 100 16 = nI q ∧ FM Mm Mm'
theorem FX_L {A B : Mem} (h : FLx A B) : FX A B := fun o ho => ⟨fun k => h.1 o k (by omega), fun k => h.2.1 o k (by omega)⟩
theorem FX_B {A B : Mem} (h : FBx A B) : FX A B := fun o ho => ⟨fun k => h.1 o k (by omega) (by omega), fun k => h.2.1 o k (by omega)⟩
theorem lines_w {e a : Nat} {rc : Bool → Mem → Option (Bool × Mem)} (h : MTk tb tl e M) (hk : tkK tb tl e = 1) : b_X10_lines_2 (nI a) rc true M = f_X10_lines_41 (nI a) rc (nI (tkF tb tl e)) (nI a) (lN (wdT tb tl e)) (sI M 100 22 (nI 1)) := by
  unfold b_X10_lines_2
  rw [if_pos rfl, h.2.2.2.2.1, hk, if_neg (show ¬ nI (kM 1) = nI 0 by decide), nm_s, h.2.2.1, show b2i true = nI 1 from rfl, nm_s, show gI (sI M 100 22 (nI 1)) 100 13 = nI (kM 1) by rw [gI_sI, if_neg (by omega), h.2.2.2.2.1, hk], if_pos (show nI (kM 1) = nI 2 by decide), gL_sI, h.2.2.2.2.2.1 hk]
theorem join {a w n e : Nat} {x x' : Nat × Nat} {Mx Mm : Mem} {K : Nat × Nat → Mem → Mem → Prop} (hX : XTk tb tl e Mx) (hM : MTk tb tl e Mm) (hP : PB x (tkF tb tl e)) (hFm : FPm Mm x) (hk : tkK tb tl e = 1) (hw : f_X2_wordOf Mx (nI a) = some (nI w)) (hw9 : w < 9) (hn : f_X2_numbersOf (nI a) (nI w) = some (nI n)) (hn4 : n ≤ 4) (Qx Qm : Mem → Prop) (hx : ∀ M3, FLx Mx M3 → NMx tb tl e n M3 → OKn tb tl e n → gI M3 10 12 = gI Mx 10 12 ∧ gI M3 10 13 = gI Mx 10 13 → ∃ Mx', bodyX (nI a) (nI w) (nI (tkF tb tl e)) M3 = some Mx' ∧ FPx Mx' x' ∧ FBx M3 Mx' ∧ Qx Mx') (hm : MSt tb tl e x (sI Mm 100 22 (nI 1)) → LR tb tl e n (fun M5 => MLs tb tl e n x' M5 ∧ FM (sI Mm 100 22 (nI 1)) M5 ∧ Qm M5) (sI Mm 100 22 (nI 1)) (f_X10_lineOf (sI Mm 100 22 (nI 1)) (nI a) (lN (wdT tb tl e)) (nI (tkF tb tl e)))) (hK : ∀ Mx' M5 M6, OKn tb tl e n → Qx Mx' → Qm M5 → FTm M5 M6 → K x' Mx' M6) : StepR tb tl K a e Mx Mm := by
  have hst : MSt tb tl e x (sI Mm 100 22 (nI 1)) := ⟨MTk_I hM (by omega), ⟨hFm.1, by rw [gI_sI, if_neg (by omega)]; exact hFm.2.1, fun z => by rw [gI_sI, if_neg (by omega)]; exact hFm.2.2 z⟩, hP, by rw [gI_sI, if_pos ⟨rfl, rfl⟩], hk⟩
  have h1 := hm hst
  have hQ : ∀ M', (MLs tb tl e n x' M' ∧ FM (sI Mm 100 22 (nI 1)) M' ∧ Qm M') → MTk tb tl (ps tb tl e (n + 1)) M' ∧ FM (sI Mm 100 22 (nI 1)) M' := fun M' z => ⟨z.1.1, z.2.1⟩
  rcases line_v hX hk hw hw9 hn hn4 with ⟨c1, c2, M3, c3, c4, c5, c6, c7⟩ | ⟨t, c1, M3, c2, c3⟩
  · obtain ⟨Mx', d1, d2, d3, d4⟩ := hx M3 c3 c5 c1 (c6 10)
    · left
      obtain ⟨M5, M6, e3, e4, e5, e6⟩ := sign_all h1 hQ c1 c2
      have b0 := hX.2.1
      obtain ⟨f1, f2⟩ := tkF_b (tb := tb) b0
      obtain ⟨g1, g2, g3⟩ := tkT_b (tb := tb) b0
      have g3 := g3 (by omega)
      have hps : ∀ j, ps tb tl e j ≤ ps tb tl e (j + 1) := fun j => by
        have q1 := ps_le (tb := tb) b0 j
        have q2 := (tkF_b (tb := tb) q1).1
        have q3 := (tkT_b (tb := tb) q1).2.1
        show _ ≤ tkT tb tl (ps tb tl e j)
        omega
      have hlt : ∀ j, e < ps tb tl e (j + 1) := by
        intro j
        induction j with
        | zero => show e < tkT tb tl e; omega
        | succ j ih => exact Nat.lt_of_lt_of_le ih (hps (j + 1))
      refine ⟨ps tb tl e (n + 2), x', Mx', M6, by rw [c7]; exact d1, FX_tr (FX_L c3) (FX_B d3), fun rc => by rw [lines_w hM hk]; exact e6 rc, FM_tr (FM_sI _) (FM_tr e3.2.1 (fun k _ => e4.2 100 k)), hlt _, ps_le b0 _, XTk_B c4 d3, d2, e5, ?_, ?_, hK Mx' M5 M6 c1 d4 e3.2.2 e4⟩
      · exact ⟨e3.1.2.1.1, by rw [e4.1 100 17 (by omega)]; exact e3.1.2.1.2.1, fun z => by rw [e4.1 100 18 (by omega)]; exact e3.1.2.1.2.2 z⟩
      · refine PB_le e3.1.2.2.1 ?_
        have q1 := ps_le (tb := tb) b0 (n + 1)
        have q3 := (tkT_b (tb := tb) q1).2.1
        have q4 := (tkF_b (tb := tb) (ps_le (tb := tb) b0 (n + 2))).1
        have q5 : ps tb tl e (n + 2) = tkT tb tl (ps tb tl e (n + 1)) := rfl
        omega
  · right
    obtain ⟨M6, f1, f2, f3⟩ := sign_bad h1 hQ c1
    exact ⟨_, M3, M6, c2, FX_L c3.1, c3.2.1, c3.2.2, fun rc => by rw [lines_w hM hk]; exact f1 rc, f2, FM_tr (FM_sI _) f3⟩
/-- a line that begins with no word of the sort -/
theorem join_n {a e : Nat} {Mx Mm : Mem} {K : Nat × Nat → Mem → Mem → Prop} (hX : XTk tb tl e Mx) (hM : MTk tb tl e Mm) (hk0 : ¬ tkK tb tl e = 0) (hw : tkK tb tl e = 1 → f_X2_wordOf Mx (nI a) = some (-1)) (hr : ∀ M v wd, (wd = lN 0 ∨ (tkK tb tl e = 1 ∧ wd = lN (wdT tb tl e))) → f_X10_lineOf M (nI a) wd v = some (false, sI M 100 16 (gI M 100 12))) : StepR tb tl K a e Mx Mm := by
  right
  obtain ⟨Mx', g1, g2⟩ := line_n hX hw
  have k4 := tkK_4 tb tl e
  have km0 : ∀ k, k ≤ 4 → ¬ k = 0 → ¬ nI (kM k) = nI 0 := by decide
  have km2 : ∀ k, k ≤ 4 → (nI (kM k) = nI 2) = (k = 1) := by decide
  have key : ∀ rc, b_X10_lines_2 (nI a) rc true Mm = rc false (sI (sI Mm 100 22 (nI 1)) 100 16 (nI (tkF tb tl e))) := by
    intro rc
    have e12 : gI (sI Mm 100 22 (nI 1)) 100 12 = nI (tkF tb tl e) := by rw [gI_sI, if_neg (by omega)]; exact hM.2.2.1
    have e41 : ∀ wd v, (wd = lN 0 ∨ (tkK tb tl e = 1 ∧ wd = lN (wdT tb tl e))) → f_X10_lines_41 (nI a) rc v (nI a) wd (sI Mm 100 22 (nI 1)) = rc false (sI (sI Mm 100 22 (nI 1)) 100 16 (nI (tkF tb tl e))) := by
      intro wd v hwd
      unfold f_X10_lines_41 f_X10_lines_63 f_X10_lines_71
      rw [hr _ v wd hwd, bp_s, if_neg (by decide), if_neg (by decide), e12]
    unfold b_X10_lines_2
    rw [if_pos rfl, hM.2.2.2.2.1, if_neg (km0 _ k4 hk0), nm_s, show b2i true = nI 1 from rfl, nm_s, show gI (sI Mm 100 22 (nI 1)) 100 13 = nI (kM (tkK tb tl e)) by rw [gI_sI, if_neg (by omega), hM.2.2.2.2.1], ite_p (km2 _ k4)]
    by_cases p : tkK tb tl e = 1
    · rw [if_pos p, e41 _ _ (Or.inr ⟨p, by rw [gL_sI, hM.2.2.2.2.2.1 p]⟩)]
    · rw [if_neg p, e41 _ _ (Or.inl rfl)]
  exact ⟨_, Mx', _, g1, FX_L g2.1, g2.2.1, g2.2.2, key, by rw [gI_sI, if_pos ⟨rfl, rfl⟩], FM_tr (FM_sI _) (FM_sI _)⟩
end Joined
