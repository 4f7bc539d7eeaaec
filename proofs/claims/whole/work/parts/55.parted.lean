/-! PARTED -/
theorem gS_swap (F : Nat → Nat → Nat) (m : Nat) : ∀ n, gSum (fun a => gSum (fun b => F a b) m) n = gSum (fun b => gSum (fun a => F a b) n) m := by
  intro n
  induction n with
  | zero => exact (gS_0 m (fun _ _ => rfl)).symm
  | succ n ih =>
    show gSum (fun a => gSum (fun b => F a b) m) n + gSum (fun b => F n b) m = gSum (fun b => gSum (fun a => F a b) n + F n b) m
    rw [ih, gS_add]
theorem gS_lt {b n : Nat} (f : Nat → Nat) (h : b ≤ n) : gSum (fun a => if a < b then f a else 0) n = gSum f b := by
  induction n with
  | zero => rw [show b = 0 by omega]; rfl
  | succ n ih =>
    show gSum (fun a => if a < b then f a else 0) n + (if n < b then f n else 0) = _
    by_cases q : b = n + 1
    · subst q
      rw [if_pos (by omega)]
      show _ = gSum f n + f n
      congr 1
      exact gS_cg n (fun i hi => if_pos (by omega))
    · rw [ih (by omega), if_neg (by omega)]
      rfl
def tie (C : CoatA) (a b : Nat) : Bool := (cAf C a).testBit b || (cAf C b).testBit a
def ctP (C : CoatA) (S a b : Nat) : Nat := if tie C a b = true ∧ ¬ S.testBit a = S.testBit b then 1 else 0
/-- couples that a side parts -/
def ctS (C : CoatA) (S : Nat) : Nat := gSum (fun s => gSum (fun o => ctP C S o s) s) (cN C)
theorem ctP_le (C : CoatA) (S a b : Nat) : ctP C S a b ≤ 1 := by unfold ctP; split <;> omega
theorem in_le (C : CoatA) (S s : Nat) (t : Nat) : gSum (fun o => ctP C S o s) t ≤ t := by
  have := gS_le (f := fun o => ctP C S o s) (g := fun _ => 1) t (fun i _ => ctP_le C S i s)
  rw [gS_const] at this
  omega
theorem ot_le {C : CoatA} (hn : cN C ≤ 9) (S : Nat) {t : Nat} (ht : t ≤ cN C) : gSum (fun s => gSum (fun o => ctP C S o s) s) t ≤ 81 := by
  have := gS_le (f := fun s => gSum (fun o => ctP C S o s) s) (g := fun _ => 9) t (fun i hi => Nat.le_trans (in_le C S i i) (by omega))
  rw [gS_const] at this
  omega
theorem bitv_n {S s : Nat} (hS : S < 2147483648) (hs : s < 32) : nI S >>> (nI s &&& 31) &&& nI 1 = nI (if S.testBit s = true then 1 else 0) := by
  rw [shr_n hS hs, and1_n, Nat.testBit_eq_decide_div_mod_eq]
  have : S / 2 ^ s % 2 = 0 ∨ S / 2 ^ s % 2 = 1 := by omega
  rcases this with h | h
  · rw [h]; rfl
  · rw [h]; rfl
theorem cut_v {M : Mem} {o : Nat} {C : CoatA} (hX : CX M o C) (hV : CV C) {S : Nat} (hS : S < 512) : f_X0_cut M o (nI S) = some (nI (ctS C S)) := by
  have hn := hV.1
  have w := (pw9 (cN C) (by omega)).2.1
  have h0 := hX.1
  have hA := Od_A hV
  have e : ctS C S = gSum (fun a => gSum (fun b => if a < b then ctP C S a b else 0) (cN C)) (cN C) := by
    unfold ctS
    rw [gS_swap]
    exact gS_cg _ (fun b hb => (gS_lt (fun a => ctP C S a b) (by omega)).symm)
  rw [e]
  unfold f_X0_cut f_X0_cut_4
  refine lpU_for (fun a => (nI (gSum (fun a => gSum (fun b => if a < b then ctP C S a b else 0) (cN C)) a), nI a)) (cN C) _ (by omega) 0 (Nat.zero_le _) ?_ ?_
  · intro rc
    show b_X0_cut_4 M o (nI S) _ _ (nI (cN C)) = _
    unfold b_X0_cut_4
    rw [h0, if_pos (nI_le (Nat.le_refl _) (by omega))]
  · intro rc a _ ha
    show b_X0_cut_4 M o (nI S) _ _ (nI a) = _
    unfold b_X0_cut_4
    rw [h0, if_neg (nI_ge ha (by omega)), nI_add, nm_s]
    generalize eB : gSum (fun a => gSum (fun b => if a < b then ctP C S a b else 0) (cN C)) a = B
    have e1 : gSum (fun a => gSum (fun b => if a < b then ctP C S a b else 0) (cN C)) (a + 1) = B + gSum (fun b => if a < b then ctP C S a b else 0) (cN C) := by rw [← eB]; rfl
    rw [e1]
    unfold f_X0_cut_17
    have e2 : nI B = nI (B + gSum (fun b => if a < b then ctP C S a b else 0) (a + 1)) := by
      rw [gS_0 (a + 1) (fun i hi => if_neg (by omega))]
      rfl
    rw [e2]
    refine lpU_for (fun b => (nI (B + gSum (fun b => if a < b then ctP C S a b else 0) b), nI b)) (cN C) _ (by omega) (a + 1) (by omega) ?_ ?_
    · intro rc2
      show b_X0_cut_17 M o (nI S) _ (nI a) _ _ (nI (cN C)) = _
      unfold b_X0_cut_17
      rw [h0, if_pos (nI_le (Nat.le_refl _) (by omega)), nI_add, nm_s]
    · intro rc2 b h1 hb
      have e3 : gSum (fun b => if a < b then ctP C S a b else 0) (b + 1) = gSum (fun b => if a < b then ctP C S a b else 0) b + ctP C S a b := by
        show _ + (if a < b then ctP C S a b else 0) = _
        rw [if_pos (by omega)]
      show b_X0_cut_17 M o (nI S) _ (nI a) _ _ (nI b) = rc2 (nI (B + gSum (fun b => if a < b then ctP C S a b else 0) (b + 1)), nI (b + 1))
      rw [e3]
      have ha2 := hA a ha
      have hb2 := hA b hb
      have end0 : ∀ x, f_X0_cut_85 M o (nI S) (nI a) (fun x0 x1 => rc2 (x0, x1)) (nI x) (nI b) = rc2 (nI x, nI (b + 1)) := by
        intro x
        unfold f_X0_cut_85
        rw [nI_add, nm_s]
      have endT : tie C a b = true → ∀ x, f_X0_cut_61 M o (nI S) (nI a) (fun x0 x1 => rc2 (x0, x1)) (nI x) (nI b) true = rc2 (nI (x + ctP C S a b), nI (b + 1)) := by
        intro ht x
        unfold f_X0_cut_61 ctP
        rw [if_pos rfl, bitv_n (by omega) (by omega), bitv_n (by omega) (by omega), end0, nI_add, nm_s, end0]
        cases q1 : S.testBit a <;> cases q2 : S.testBit b <;> simp [ht, eq_n]
      unfold b_X0_cut_17
      rw [h0, if_neg (nI_ge hb (by omega)), gin_n (by omega) (by omega), ix_n (by omega), hX.2.2.2.1 a (by omega), ite_p (bit_n (by omega) (by omega)), gin_n (by omega) (by omega), ix_n (by omega), hX.2.2.2.1 b (by omega), ite_p (bit_n (by omega) (by omega))]
      unfold f_X0_cut_56
      by_cases q1 : (cAf C a).testBit b = true
      · rw [if_pos q1]
        rw [← Nat.add_assoc]
        exact endT (by unfold tie; rw [q1]; rfl) _
      · rw [if_neg q1]
        by_cases q2 : (cAf C b).testBit a = true
        · rw [if_pos q2]
          rw [← Nat.add_assoc]
          exact endT (by unfold tie; rw [q2, Bool.or_true]) _
        · rw [if_neg q2]
          have ht : ¬ tie C a b = true := by
            unfold tie
            rw [Bool.or_eq_true]
            exact fun h => h.elim q1 q2
          unfold f_X0_cut_61
          have ez : ctP C S a b = 0 := if_neg (fun h => ht h.1)
          rw [if_neg (by decide), end0, ez]
          rfl
theorem crossing_v {M : Mem} {k : Nat} {C : CoatA} (hH : MH M k C) (hV : CV C) {S : Nat} (hS : S < 512) : f_X10_crossing M (nI S) = some (nI (ctS C S)) := by
  have hn := hV.1
  have w := (pw9 (cN C) (by omega)).2.1
  have h24 := hH.2.2.1
  have hA := Od_A hV
  obtain ⟨hk, y0, -, -, -, -, -, m3, -⟩ := hH
  unfold f_X10_crossing f_X10_crossing_4
  refine lpU_for (fun s => (nI (gSum (fun s => gSum (fun o => ctP C S o s) s) s), nI s)) (cN C) _ (by omega) 0 (Nat.zero_le _) ?_ ?_
  · intro rc
    show b_X10_crossing_4 M (nI S) _ _ (nI (cN C)) = _
    unfold b_X10_crossing_4
    rw [h24, if_pos (nI_le (Nat.le_refl _) (by omega))]
    rfl
  · intro rc s _ hs
    show b_X10_crossing_4 M (nI S) _ _ (nI s) = rc (nI (gSum (fun s => gSum (fun o => ctP C S o s) s) s + gSum (fun o => ctP C S o s) s), nI (s + 1))
    unfold b_X10_crossing_4
    rw [h24, if_neg (nI_ge hs (by omega))]
    generalize gSum (fun s => gSum (fun o => ctP C S o s) s) s = B
    unfold f_X10_crossing_15
    refine lpU_for (fun o => (nI (B + gSum (fun o => ctP C S o s) o), nI o)) s _ (by omega) 0 (Nat.zero_le _) ?_ ?_
    · intro rc2
      show b_X10_crossing_15 M (nI S) _ (nI s) _ _ (nI s) = _
      unfold b_X10_crossing_15
      rw [if_pos (nI_le (Nat.le_refl _) (by omega)), nI_add, nm_s]
    · intro rc2 o _ ho
      show b_X10_crossing_15 M (nI S) _ (nI s) _ _ (nI o) = rc2 (nI (B + (gSum (fun o => ctP C S o s) o + ctP C S o s)), nI (o + 1))
      rw [← Nat.add_assoc]
      generalize B + gSum (fun o => ctP C S o s) o = x
      have h1 := hA s hs
      have h2 := hA o (by omega)
      have end0 : ∀ (z : Bool), f_X10_crossing_85 M (nI S) (nI s) (fun x0 x1 => rc2 (x0, x1)) (nI o) (nI x) z = rc2 (nI (x + if z = true then 1 else 0), nI (o + 1)) := by
        intro z
        unfold f_X10_crossing_85
        cases z with
        | false =>
          show nm (nI x + nI 0) _ = _
          rw [nI_add, nm_s, nI_add, nm_s]
          rfl
        | true =>
          show nm (nI x + nI 1) _ = _
          rw [nI_add, nm_s, nI_add, nm_s]
          rfl
      have endT : tie C o s = true → f_X10_crossing_58 M (nI S) (nI s) (fun x0 x1 => rc2 (x0, x1)) (nI x) (nI o) true = rc2 (nI (x + ctP C S o s), nI (o + 1)) := by
        intro ht
        unfold f_X10_crossing_58 ctP f_X10_crossing_84
        rw [if_pos rfl, has_v (by omega) (by omega), has_v (by omega) (by omega), bn_s, bn_s]
        have e0 := end0 false
        have e1 := end0 true
        cases q1 : S.testBit o <;> cases q2 : S.testBit s <;> simp [ht, e0, e1, b2i]
      unfold b_X10_crossing_15
      rw [if_neg (nI_ge ho (by omega)), nI_add, of_v y0 hk (by omega), m3 s (by omega), bn_s, has_v (by omega) (by omega), bn_s, nI_add, of_v y0 hk (by omega), m3 o (by omega), bn_s, has_v (by omega) (by omega), bn_s]
      unfold f_X10_crossing_53
      by_cases q1 : (cAf C s).testBit o = true
      · rw [if_pos q1]
        exact endT (by unfold tie; rw [q1, Bool.or_true])
      · rw [if_neg q1]
        by_cases q2 : (cAf C o).testBit s = true
        · rw [if_pos q2]
          exact endT (by unfold tie; rw [q2]; rfl)
        · rw [if_neg q2]
          have ht : ¬ tie C o s = true := by
            unfold tie
            rw [Bool.or_eq_true]
            exact fun h => h.elim q2 q1
          have ez : ctP C S o s = 0 := if_neg (fun h => ht h.1)
          unfold f_X10_crossing_58 f_X10_crossing_84
          rw [if_neg (by decide), ez]
          exact end0 false
/-- the first best side so far -/
def pbS (C : CoatA) (a b : Nat) : Nat → Option Nat
  | 0 => none
  | S + 1 => if S.testBit a = true ∧ S.testBit b = false then (match pbS C a b S with | none => some S | some f => if ctS C S < ctS C f then some S else some f) else pbS C a b S
theorem pbS_lt (C : CoatA) (a b : Nat) : ∀ i f, pbS C a b i = some f → f < i := by
  intro i
  induction i with
  | zero => intro f h; exact absurd h (by simp [pbS])
  | succ i ih =>
    intro f h
    unfold pbS at h
    by_cases q : i.testBit a = true ∧ i.testBit b = false
    · rw [if_pos q] at h
      cases e : pbS C a b i with
      | none => rw [e] at h; simp at h; omega
      | some g =>
        rw [e] at h
        have := ih g e
        by_cases r : ctS C i < ctS C g
        · simp [r] at h; omega
        · simp [r] at h; omega
    · rw [if_neg q] at h
      have := ih f h
      omega
theorem pbS_ex (C : CoatA) (a b S : Nat) (h : S.testBit a = true ∧ S.testBit b = false) : ∀ i, S < i → ∃ f, pbS C a b i = some f := by
  intro i
  induction i with
  | zero => intro h; omega
  | succ i ih =>
    intro hi
    unfold pbS
    by_cases q : i.testBit a = true ∧ i.testBit b = false
    · rw [if_pos q]
      cases pbS C a b i with
      | none => exact ⟨_, rfl⟩
      | some g =>
        by_cases r : ctS C i < ctS C g
        · exact ⟨i, by simp [r]⟩
        · exact ⟨g, by simp [r]⟩
    · rw [if_neg q]
      by_cases r : S = i
      · rw [r] at h; exact absurd h q
      · exact ih (by omega)
def stX (C : CoatA) (x : Option Nat) (i : Nat) : Int32 × Int32 × Int32 := match x with
  | none => (nI 1000000, nI 0, nI i)
  | some f => (nI (ctS C f), nI f, nI i)
def stM (x : Option Nat) : Int32 := match x with
  | none => -1
  | some f => nI f
theorem ctS_le {C : CoatA} (hn : cN C ≤ 9) (S : Nat) : ctS C S ≤ 81 := ot_le hn S (Nat.le_refl _)
theorem partedX_v {M : Mem} {o : Nat} {C : CoatA} (hX : CX M o C) (hV : CV C) {a b : Nat} (ha : a < cN C) (hb : b < cN C) {f : Nat} (hf : pbS C a b (2 ^ cN C) = some f) (c : Int32) (u : Bool) : f_X9_parted_47 M c (nI a) (nI b) u o FU (nI 1000000, nI 0, nI 0) = some (if u = true then nI f else nI (ctS C f)) := by
  have hn := hV.1
  have w := (pw9 (cN C) (by omega)).2.1
  unfold f_X9_parted_47
  refine lpU_for (fun i => stX C (pbS C a b i) i) (2 ^ cN C) _ (by omega) 0 (Nat.zero_le _) ?_ ?_
  · intro rc
    rw [hf]
    show b_X9_parted_47 M c (nI a) (nI b) u o _ (nI (ctS C f)) (nI f) (nI (2 ^ cN C)) = _
    unfold b_X9_parted_47
    rw [hX.1, shl1_n (by omega), if_pos (nI_le (Nat.le_refl _) (by omega))]
    cases u <;> rfl
  · intro rc i _ hi
    have h1 := ctS_le hn i (C := C)
    have key : ∀ l g, b_X9_parted_47 M c (nI a) (nI b) u o (fun x0 x1 x2 => rc (x0, x1, x2)) (nI l) (nI g) (nI i) = if i.testBit a = true ∧ i.testBit b = false then (if nI l ≤ nI (ctS C i) then rc (nI l, nI g, nI (i + 1)) else rc (nI (ctS C i), nI i, nI (i + 1))) else rc (nI l, nI g, nI (i + 1)) := by
      intro l g
      unfold b_X9_parted_47 f_X9_parted_102
      rw [hX.1, shl1_n (by omega), if_neg (nI_ge hi (by omega)), ite_p (bit_n (by omega) (by omega)), ite_p (bit0_n (by omega) (by omega)), cut_v hX hV (by omega), bn_s, nI_add, nm_s, nm_s]
      by_cases q1 : i.testBit a = true
      · by_cases q2 : i.testBit b = false
        · have qq : i.testBit a = true ∧ i.testBit b = false := ⟨q1, q2⟩
          rw [if_pos q1, if_pos q2, if_pos qq]
        · rw [if_pos q1, if_neg q2, if_neg (fun z => q2 z.2)]
      · rw [if_neg q1, if_neg (fun z => q1 z.1)]
    have e : pbS C a b (i + 1) = if i.testBit a = true ∧ i.testBit b = false then (match pbS C a b i with | none => some i | some f => if ctS C i < ctS C f then some i else some f) else pbS C a b i := rfl
    rw [e]
    cases e2 : pbS C a b i with
    | none =>
      refine (key _ _).trans ?_
      by_cases q : i.testBit a = true ∧ i.testBit b = false
      · rw [if_pos q, if_pos q, if_neg (nI_ge (by omega) (by omega))]
        rfl
      · rw [if_neg q, if_neg q]
        rfl
    | some g =>
      refine (key _ _).trans ?_
      have h2 := ctS_le hn g (C := C)
      by_cases q : i.testBit a = true ∧ i.testBit b = false
      · rw [if_pos q, if_pos q]
        by_cases r : ctS C i < ctS C g
        · rw [if_neg (nI_ge r (by omega))]
          simp only [r, if_true]
          rfl
        · rw [if_pos (nI_le (by omega) (by omega))]
          simp only [r, if_false]
          rfl
      · rw [if_neg q, if_neg q]
        rfl
theorem partedM_v {M : Mem} {k : Nat} {C : CoatA} (hH : MH M k C) (hV : CV C) {a b : Nat} (ha : a < cN C) (hb : b < cN C) {f : Nat} (hf : pbS C a b (2 ^ cN C) = some f) (c : Int32) (u : Bool) : f_X10_parted_42 c (nI a) (nI b) u FU (-1, nI 0, M) = some (if u = true then nI f else nI (ctS C f), M) := by
  have hn := hV.1
  have w := (pw9 (cN C) (by omega)).2.1
  have h24 := hH.2.2.1
  unfold f_X10_parted_42
  refine lpU_for (fun i => (stM (pbS C a b i), nI i, M)) (2 ^ cN C) _ (by omega) 0 (Nat.zero_le _) ?_ ?_
  · intro rc
    rw [hf]
    show b_X10_parted_42 c (nI a) (nI b) u _ (nI f) (nI (2 ^ cN C)) M = _
    unfold b_X10_parted_42
    have := pbS_lt C a b _ f hf
    rw [h24, shl1_n (by omega), if_pos (nI_le (Nat.le_refl _) (by omega)), crossing_v hH hV (by omega), bn_s]
    cases u <;> rfl
  · intro rc i _ hi
    have h1 := ctS_le hn i (C := C)
    show b_X10_parted_42 c (nI a) (nI b) u _ (stM (pbS C a b i)) (nI i) M = _
    have e : pbS C a b (i + 1) = if i.testBit a = true ∧ i.testBit b = false then (match pbS C a b i with | none => some i | some f => if ctS C i < ctS C f then some i else some f) else pbS C a b i := rfl
    rw [e]
    unfold b_X10_parted_42 f_X10_parted_75 f_X10_parted_76 f_X10_parted_109 f_X10_parted_104 f_X10_parted_111
    rw [h24, shl1_n (by omega), if_neg (nI_ge hi (by omega)), has_v (by omega) (by omega), has_v (by omega) (by omega), bn_s, bn_s, crossing_v hH hV (by omega), bn_s]
    cases e2 : pbS C a b i with
    | none =>
      cases q1 : i.testBit a <;> cases q2 : i.testBit b <;> simp [stM, nI_add, nm_s]
    | some g =>
      have h2 := ctS_le hn g (C := C)
      have h3 := pbS_lt C a b i g e2
      have h4 : ¬ nI g = -1 := m1_ne (by omega)
      show (if i.testBit a = true then _ else _) = _
      have e5 : f_X10_crossing M (stM (some g)) = some (nI (ctS C g)) := crossing_v hH hV (by omega)
      rw [e5]
      have h4' : ¬ stM (some g) = -1 := h4
      simp only [h4', if_false, bn_s, ite_p (le_n (a := ctS C g) (b := ctS C i) (by omega) (by omega)), nI_add, nm_s]
      cases q1 : i.testBit a <;> cases q2 : i.testBit b
      · simp
      · simp
      · by_cases r : ctS C i < ctS C g
        · have r' : ¬ ctS C g ≤ ctS C i := by omega
          simp [r, r', stM]
        · have r' : ctS C g ≤ ctS C i := by omega
          simp [r, r', stM]
      · simp
theorem q_parted {Mx Mm : Mem} (H : Rl Mx Mm) (c a b : Int32) (u : Bool) : EqI Mx Mm (wM (f_X9_parted Mx c a b u) Mx) (f_X10_parted Mm c a b u) := by
  have h0 := FM_sI Mm (o := 100) (k := 0) (v := nI 0)
  unfold f_X9_parted f_X10_parted
  rw [nm_s]
  rcases coat_cases H c with ⟨e1, e2⟩ | ⟨k, C, hk, rfl, hV, hX, hM, e1, e2⟩
  · rw [e1, e2 _ h0]
    exact ⟨_, _, _, rfl, rfl, Rl_fr H (FX_rf Mx) h0⟩
  · have hR := Rl_fr H (FX_rf Mx) (FM_tr h0 (FM_mh _ k C))
    have hn := hV.1
    have w := (pw9 (cN C) (by omega)).2.1
    have hH := mh_MH (M := sI Mm 100 0 (nI 0)) hk (CM_cg rfl hM)
    have h24 := hH.2.2.1
    rw [e1, e2 _ h0, bn_s, bp_s, if_pos rfl, opt_some]
    have non : ∀ z, z = some (-1 : Int32) → ∀ z2, z2 = some (-1, mh (sI Mm 100 0 (nI 0)) k C) → EqI Mx Mm (wM z Mx) z2 := by
      intro z hz z2 hz2
      rw [hz, hz2]
      exact ⟨_, _, _, rfl, rfl, hR⟩
    rcases int_cases a with ha | ⟨a, ha, rfl⟩
    · rw [hasSeam_neg ha, isSeam_neg ha]
      refine non _ ?_ _ rfl
      split <;> rfl
    rw [hasSeam_v hX.1 (by omega) ha, isSeam_v h24 (by omega) ha, bn_s, bn_s]
    by_cases c1 : a < cN C
    · rw [if_pos (dT c1), if_pos (dT c1)]
      rcases int_cases b with hb | ⟨b, hb, rfl⟩
      · rw [hasSeam_neg hb, isSeam_neg hb]
        refine non _ ?_ _ rfl
        split <;> rfl
      rw [hasSeam_v hX.1 (by omega) hb, isSeam_v h24 (by omega) hb, bn_s, bn_s]
      by_cases c2 : b < cN C
      · rw [if_pos (dT c2), if_pos (dT c2)]
        by_cases c3 : a = b
        · rw [if_pos (by rw [c3]), if_pos (by rw [c3])]
          exact non _ rfl _ rfl
        · have hq : (2 ^ a).testBit a = true ∧ (2 ^ a).testBit b = false := by
            rw [Nat.testBit_two_pow, Nat.testBit_two_pow]
            simp [c3]
          obtain ⟨f, hf⟩ := pbS_ex C a b (2 ^ a) hq (2 ^ cN C) (Nat.pow_lt_pow_right (by omega) c1)
          rw [if_neg (ne_n c3 (by omega) (by omega)), if_neg (ne_n c3 (by omega) (by omega)), partedX_v hX hV c1 c2 hf, partedM_v hH hV c1 c2 hf]
          exact ⟨_, _, _, rfl, rfl, hR⟩
      · rw [if_neg (dF c2), if_neg (dF c2)]
        refine non _ ?_ _ rfl
        split <;> rfl
    · rw [if_neg (dF c1), if_neg (dF c1)]
      refine non _ ?_ _ rfl
      split <;> rfl
