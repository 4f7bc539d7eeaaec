/-! TEXTS: all lines of a text, on both sides -/
section Loops
variable {tb : Nat → Nat} {tl : Nat}
/-- both sides at the beginning of a line at e -/
def JS (tb : Nat → Nat) (tl : Nat) (K : Nat × Nat → Mem → Mem → Prop) (e : Nat) (x : Nat × Nat) (Mx Mm : Mem) : Prop := XTk tb tl e Mx ∧ FPx Mx x ∧ MTk tb tl e Mm ∧ FPm Mm x ∧ PB x (tkF tb tl e) ∧ K x Mx Mm
theorem loop_j {K : Nat × Nat → Mem → Mem → Prop} {a : Nat} {a2 : Nat} {a3 : Int32} (hl : ∀ e x Mx Mm, JS tb tl K e x Mx Mm → ¬ tkK tb tl e = 0 → StepR tb tl K a e Mx Mm) : ∀ d e x Mx Mm v f g, tl - e ≤ d → d < f → d < g → v + (tl - e) ≤ 600 → JS tb tl K e x Mx Mm → (∃ e' x' Mx' Mm', f_X2_read_72 (nI a) a2 a3 f (nI v, Mx) = f_X2_read_106 (nI a) a2 a3 Mx' ∧ FX Mx Mx' ∧ f_X10_lines_2 (nI a) g (true, Mm) = some (true, Mm') ∧ FM Mm Mm' ∧ tkK tb tl e' = 0 ∧ JS tb tl K e' x' Mx' Mm') ∨ (∃ q Mx' Mm', f_X2_read_72 (nI a) a2 a3 f (nI v, Mx) = f_X2_read_106 (nI a) a2 a3 Mx' ∧ FX Mx Mx' ∧ gI Mx' 10 12 = nI 1 ∧ gI Mx' 10 13 = nI q ∧ f_X10_lines_2 (nI a) g (true, Mm) = some (false, Mm') ∧ gI Mm' 100 16 = nI q ∧ FM Mm Mm') := by
  intro d
  induction d with
  | zero =>
    intro e x Mx Mm v f g hd hf hg hv hJ
    obtain ⟨f, rfl⟩ : ∃ m, f = m + 1 := ⟨f - 1, by omega⟩
    obtain ⟨g, rfl⟩ : ∃ m, g = m + 1 := ⟨g - 1, by omega⟩
    have he := hJ.1.2.1
    obtain ⟨b1, b2⟩ := tkF_b (tb := tb) he
    have hk : tkK tb tl e = 0 := by
      unfold tkK
      rw [if_pos (by omega)]
    refine Or.inl ⟨e, x, Mx, Mm, ?_, FX_rf _, ?_, FM_rf _, hk, hJ⟩
    · show b_X2_read_72 _ _ _ _ (nI v) Mx = _
      unfold b_X2_read_72
      rw [hJ.1.2.2.2.2, hk, if_pos rfl, ite_self]
    · show b_X10_lines_2 _ _ true Mm = _
      unfold b_X10_lines_2
      rw [if_pos rfl, hJ.2.2.1.2.2.2.2.1, hk, if_pos (by decide)]
  | succ d ih =>
    intro e x Mx Mm v f g hd hf hg hv hJ
    obtain ⟨f, rfl⟩ : ∃ m, f = m + 1 := ⟨f - 1, by omega⟩
    obtain ⟨g, rfl⟩ : ∃ m, g = m + 1 := ⟨g - 1, by omega⟩
    have he := hJ.1.2.1
    obtain ⟨b1, b2⟩ := tkF_b (tb := tb) he
    have k4 := tkK_4 tb tl e
    by_cases hk : tkK tb tl e = 0
    · refine Or.inl ⟨e, x, Mx, Mm, ?_, FX_rf _, ?_, FM_rf _, hk, hJ⟩
      · show b_X2_read_72 _ _ _ _ (nI v) Mx = _
        unfold b_X2_read_72
        rw [hJ.1.2.2.2.2, hk, if_pos rfl, ite_self]
      · show b_X10_lines_2 _ _ true Mm = _
        unfold b_X10_lines_2
        rw [if_pos rfl, hJ.2.2.1.2.2.2.2.1, hk, if_pos (by decide)]
    · have hlt : e < tl := by
        by_cases q : e < tl
        · exact q
        · exfalso
          apply hk
          unfold tkK
          rw [if_pos (by omega)]
      have hx1 := hJ.2.1.1
      have e1 : ∀ M', f_X2_line Mx (nI a) = some M' → f_X2_read_72 (nI a) a2 a3 (f + 1) (nI v, Mx) = f_X2_read_72 (nI a) a2 a3 f (nI (v + 1), M') := by
        intro M' hM'
        show b_X2_read_72 _ _ _ _ (nI v) Mx = _
        unfold b_X2_read_72
        rw [if_neg (nI_ge (by omega) (by omega)), hJ.1.2.2.2.2, if_neg (ne_n hk (by omega) (by omega)), hJ.2.1.2.1, if_neg (ne_n hx1.2 (by omega) (by omega)), hM', bn_s, nI_add]
        rfl
      rcases hl e x Mx Mm hJ hk with ⟨e', x', Mx', Mm', s1, s2, s3, s4, s5, s6, s7, s8, s9, s10, s11, s12⟩ | ⟨q, Mx', Mm', s1, s2, s3, s4, s5, s6, s7⟩
      · have e2 : f_X10_lines_2 (nI a) (g + 1) (true, Mm) = f_X10_lines_2 (nI a) g (true, Mm') := s3 _
        rw [e1 Mx' s1, e2]
        rcases ih e' x' Mx' Mm' (v + 1) f g (by omega) (by omega) (by omega) (by omega) ⟨s7, s8, s9, s10, s11, s12⟩ with ⟨e'', x'', Mx'', Mm'', t1, t2, t3, t4, t5⟩ | ⟨q, Mx'', Mm'', t1, t2, t3, t4, t5, t6, t7⟩
        · exact Or.inl ⟨e'', x'', Mx'', Mm'', t1, FX_tr s2 t2, t3, FM_tr s4 t4, t5⟩
        · exact Or.inr ⟨q, Mx'', Mm'', t1, FX_tr s2 t2, t3, t4, t5, t6, FM_tr s4 t7⟩
      · have e2 : f_X10_lines_2 (nI a) (g + 1) (true, Mm) = f_X10_lines_2 (nI a) g (false, Mm') := s5 _
        obtain ⟨f, rfl⟩ : ∃ m, f = m + 1 := ⟨f - 1, by omega⟩
        obtain ⟨g, rfl⟩ : ∃ m, g = m + 1 := ⟨g - 1, by omega⟩
        rw [e1 Mx' s1, e2]
        refine Or.inr ⟨q, Mx', Mm', ?_, s2, s3, s4, ?_, s6, s7⟩
        · show b_X2_read_72 _ _ _ _ (nI (v + 1)) Mx' = _
          unfold b_X2_read_72
          rw [s3, if_pos rfl, ite_self, ite_self]
        · show b_X10_lines_2 (nI a) (fun x0 x1 => lp (fun rc q => b_X10_lines_2 (nI a) (fun x0 x1 => rc (x0, x1)) q.1 q.2) g (x0, x1)) false Mm' = _
          unfold b_X10_lines_2
          rw [if_neg (by decide)]
end Loops
