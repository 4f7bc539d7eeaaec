/-! THE FEWEST BURSTS -/
theorem gS_mono (f : Nat → Nat) {i : Nat} : ∀ j, i ≤ j → gSum f i ≤ gSum f j := by
  intro j
  induction j with
  | zero => intro h; rw [show i = 0 by omega]; exact Nat.le_refl _
  | succ j ih =>
    intro h
    by_cases q : i = j + 1
    · rw [q]; exact Nat.le_refl _
    · have := ih (by omega)
      show _ ≤ gSum f j + f j
      omega
theorem mn_n {a b : Nat} (ha : a < 2147483648) (hb : b < 2147483648) : mnI (nI a) (nI b) = nI (min a b) := by
  unfold mnI
  rw [ite_p (lt_n hb ha)]
  by_cases q : b < a
  · rw [if_pos q, Nat.min_eq_right (by omega)]
  · rw [if_neg q, Nat.min_eq_left (by omega)]
theorem lesser_n {a b : Nat} (ha : a < 2147483648) (hb : b < 2147483648) : f_X10_lesser (nI a) (nI b) = some (nI (min a b)) := by
  unfold f_X10_lesser
  rw [ite_p (le_n hb ha)]
  by_cases q : b ≤ a
  · rw [if_pos q, Nat.min_eq_right (by omega)]
  · rw [if_neg q, Nat.min_eq_left (by omega)]
theorem mx_n {a b : Nat} (ha : a < 2147483648) (hb : b < 2147483648) : mxI (nI a) (nI b) = nI (max a b) := by
  unfold mxI
  rw [ite_p (lt_n ha hb)]
  by_cases q : a < b
  · rw [if_pos q, Nat.max_eq_right (by omega)]
  · rw [if_neg q, Nat.max_eq_left (by omega)]
theorem greater_n {a b : Nat} (ha : a < 2147483648) (hb : b < 2147483648) : f_X10_greater (nI a) (nI b) = some (nI (max a b)) := by
  unfold f_X10_greater
  rw [ite_p (le_n ha hb)]
  by_cases q : a ≤ b
  · rw [if_pos q, Nat.max_eq_right (by omega)]
  · rw [if_neg q, Nat.max_eq_left (by omega)]
def mnS (may : Nat → Bool) (b : Nat) (f : Nat → Nat) : Nat → Nat
  | 0 => b
  | s + 1 => if may s then min (mnS may b f s) (f s) else mnS may b f s
theorem mnS_b (may : Nat → Bool) (b : Nat) (f : Nat → Nat) : ∀ n, mnS may b f n ≤ b := by
  intro n
  induction n with
  | zero => exact Nat.le_refl _
  | succ n ih =>
    show (if may n = true then min (mnS may b f n) (f n) else mnS may b f n) ≤ b
    split
    · have := Nat.min_le_left (mnS may b f n) (f n); omega
    · exact ih
theorem mnS_le {may : Nat → Bool} {b : Nat} {f : Nat → Nat} {s : Nat} (h : may s = true) : ∀ n, s < n → mnS may b f n ≤ f s := by
  intro n
  induction n with
  | zero => intro h; omega
  | succ n ih =>
    intro hs
    show (if may n = true then min (mnS may b f n) (f n) else mnS may b f n) ≤ f s
    by_cases q : s = n
    · rw [← q, if_pos h]; exact Nat.min_le_right _ _
    · have := ih (by omega)
      split
      · have := Nat.min_le_left (mnS may b f n) (f n); omega
      · exact this
theorem mnS_at (may : Nat → Bool) (b : Nat) (f : Nat → Nat) : ∀ n, mnS may b f n = b ∨ ∃ s, s < n ∧ may s = true ∧ f s = mnS may b f n := by
  intro n
  induction n with
  | zero => exact Or.inl rfl
  | succ n ih =>
    show (if may n = true then min (mnS may b f n) (f n) else mnS may b f n) = b ∨ ∃ s, s < n + 1 ∧ may s = true ∧ f s = (if may n = true then min (mnS may b f n) (f n) else mnS may b f n)
    by_cases q : may n = true
    · rw [if_pos q]
      by_cases r : f n ≤ mnS may b f n
      · rw [Nat.min_eq_right r]
        exact Or.inr ⟨n, by omega, q, rfl⟩
      · rw [Nat.min_eq_left (by omega)]
        rcases ih with h | ⟨s, h1, h2, h3⟩
        · exact Or.inl h
        · exact Or.inr ⟨s, by omega, h2, h3⟩
    · rw [if_neg q]
      rcases ih with h | ⟨s, h1, h2, h3⟩
      · exact Or.inl h
      · exact Or.inr ⟨s, by omega, h2, h3⟩
theorem mnS_cg {may : Nat → Bool} {b : Nat} {f g : Nat → Nat} : ∀ n, (∀ s, s < n → may s = true → f s = g s) → mnS may b f n = mnS may b g n := by
  intro n
  induction n with
  | zero => intro _; rfl
  | succ n ih =>
    intro h
    show (if may n = true then min (mnS may b f n) (f n) else mnS may b f n) = if may n = true then min (mnS may b g n) (g n) else mnS may b g n
    rw [ih (fun s a b => h s (by omega) b)]
    by_cases q : may n = true
    · rw [if_pos q, if_pos q, h n (by omega) q]
    · rw [if_neg q, if_neg q]
/-- growth behind a day -/
def gb (C : CoatA) (d : Nat) : Nat := gSum (cGr C) 100 - gSum (cGr C) (d + 1)
theorem gb_le {C : CoatA} (hV : CV C) (d : Nat) : gb C d ≤ 900 := by
  have := gS_le (f := cGr C) (g := fun _ => 9) 100 (fun i _ => hV.2.2.2.2 i)
  rw [gS_const] at this
  unfold gb
  omega
def bw (C : CoatA) (S s : Nat) : Nat := if cEs C s < gb C ((stS C S (cN C) - 1) / cP C) then 1 else 0
theorem bw_le (C : CoatA) (S s : Nat) : bw C S s ≤ 1 := by unfold bw; split <;> omega
def lsF (C : CoatA) (g : Nat → Nat) (S : Nat) : Nat := mnS (mayB (cAf C) S) (if S = 2 ^ cN C - 1 then 0 else 1000000) (fun s => g (S ||| 2 ^ s) + bw C (S ||| 2 ^ s) s) (cN C)
def lsv (C : CoatA) : Nat → Nat := dvv (lsF C)
theorem lsv_eq {C : CoatA} (hn : cN C ≤ 9) {S : Nat} (hS : S ≤ 2 ^ cN C - 1) : lsv C S = lsF C (lsv C) S := by
  obtain ⟨-, p1, p2⟩ := pw9 (cN C) (by omega)
  refine dvv_eq (all := 2 ^ cN C - 1) ?_ (by omega) hS
  intro g g' S hS h
  unfold lsF
  refine mnS_cg _ (fun s hs hm => ?_)
  have := or_lt (S := S) (n := cN C) (s := s) (by omega) hs
  have := or_gt (mayB_n S s hm)
  rw [h _ (by omega) (by omega)]
theorem lsv_b {C : CoatA} (hn : cN C ≤ 9) {S : Nat} (hS : S ≤ 2 ^ cN C - 1) : lsv C S ≤ 1000000 := by
  rw [lsv_eq hn hS]
  have := mnS_b (mayB (cAf C) S) (if S = 2 ^ cN C - 1 then 0 else 1000000) (fun s => lsv C (S ||| 2 ^ s) + bw C (S ||| 2 ^ s) s) (cN C)
  have hb : (if S = 2 ^ cN C - 1 then 0 else 1000000) ≤ 1000000 := by split <;> omega
  exact Nat.le_trans this hb
/-- closed sets have a least far below -/
theorem lsv_sm {C : CoatA} {r : Nat → Nat} (hO : Od C r) : ∀ d S, Cl (cAf C) (cN C) S → cN C - pc S (cN C) ≤ d → lsv C S ≤ d := by
  have hn := hO.1.1
  obtain ⟨-, p1, p2⟩ := pw9 (cN C) (by omega)
  intro d
  induction d with
  | zero =>
    intro S hS h
    by_cases q : S < 2 ^ cN C - 1
    · obtain ⟨s, a, b⟩ := lt_all q
      have := pc_lt a b
      omega
    · have := hS.1
      rw [lsv_eq hn (by omega)]
      have := mnS_b (mayB (cAf C) S) (if S = 2 ^ cN C - 1 then 0 else 1000000) (fun s => lsv C (S ||| 2 ^ s) + bw C (S ||| 2 ^ s) s) (cN C)
      rw [if_pos (by omega)] at this
      unfold lsF
      rw [if_pos (by omega)]
      exact this
  | succ d ih =>
    intro S hS h
    have hlt := hS.1
    by_cases q : S < 2 ^ cN C - 1
    · obtain ⟨s, a, b⟩ := Od_next hO hS q
      have h1 := Cl_or (by have := Od_A hO.1 s a; omega) hS a b
      have h2 := pc_or (mayB_n S s b) (cN C)
      rw [if_pos a] at h2
      have h3 := ih _ h1 (by omega)
      have h4 := mnS_le (b := if S = 2 ^ cN C - 1 then 0 else 1000000) (f := fun s => lsv C (S ||| 2 ^ s) + bw C (S ||| 2 ^ s) s) b (cN C) a
      have h5 := bw_le C (S ||| 2 ^ s) s
      rw [lsv_eq hn (by omega)]
      unfold lsF
      omega
    · rw [lsv_eq hn (by omega)]
      have := mnS_b (mayB (cAf C) S) (if S = 2 ^ cN C - 1 then 0 else 1000000) (fun s => lsv C (S ||| 2 ^ s) + bw C (S ||| 2 ^ s) s) (cN C)
      rw [if_pos (by omega)] at this
      unfold lsF
      rw [if_pos (by omega)]
      omega
def pkL (C : CoatA) (S s : Nat) : Bool := mayB (cAf C) S s && (lsv C (S ||| 2 ^ s) + bw C (S ||| 2 ^ s) s == lsv C S)
theorem pkL_t (C : CoatA) (S s : Nat) : (pkL C S s = true) = (mayB (cAf C) S s = true ∧ lsv C (S ||| 2 ^ s) + bw C (S ||| 2 ^ s) s = lsv C S) := by
  unfold pkL
  rw [Bool.and_eq_true, beq_iff_eq]
theorem pkL_ex {C : CoatA} {r : Nat → Nat} (hO : Od C r) {S : Nat} (hS : Cl (cAf C) (cN C) S) (h : S < 2 ^ cN C - 1) : ∃ s, s < cN C ∧ pkL C S s = true := by
  have hn := hO.1.1
  have h1 := lsv_sm hO 9 S hS (by omega)
  have h2 := mnS_at (mayB (cAf C) S) (if S = 2 ^ cN C - 1 then 0 else 1000000) (fun s => lsv C (S ||| 2 ^ s) + bw C (S ||| 2 ^ s) s) (cN C)
  have h3 := lsv_eq hn (S := S) (by omega)
  unfold lsF at h3
  rw [← h3, if_neg (by omega)] at h2
  rcases h2 with h2 | ⟨s, a, b, c⟩
  · omega
  · refine ⟨s, a, ?_⟩
    rw [pkL_t]
    exact ⟨b, c⟩
def gsL (C : CoatA) : Nat → Nat := gs (pkL C) (cN C)
def rwL (C : CoatA) (i : Nat) : Nat := nx (pkL C (gsL C i)) (cN C)
theorem gsL_v {C : CoatA} {r : Nat → Nat} (hO : Od C r) {i : Nat} (hi : i ≤ cN C) : Cl (cAf C) (cN C) (gsL C i) ∧ (i < cN C → rwL C i < cN C) := by
  have h := gs_v hO.1 (pk := pkL C) (fun S s h => by rw [pkL_t] at h; exact h.1) (fun S a b => pkL_ex hO a b) i hi
  exact ⟨h.1, h.2.2⟩
theorem gsB_v {C : CoatA} {r : Nat → Nat} (hO : Od C r) {i : Nat} (hi : i ≤ cN C) : Cl (cAf C) (cN C) (gsB C i) ∧ (i < cN C → rwB C i < cN C) := by
  have h := gs_v hO.1 (pk := mayB (cAf C)) (fun S s h => h) (fun S a b => Od_next hO a b) i hi
  exact ⟨h.1, h.2.2⟩
/-! the reference's side -/
theorem growthBehind_v {M : Mem} {k : Nat} {C : CoatA} (hH : MH M k C) (hV : CV C) {d : Nat} (hd : d < 100) : f_X10_growthBehind M (nI d) = some (nI (gb C d)) := by
  obtain ⟨hk, y0, -, -, -, -, -, -, m4⟩ := hH
  unfold f_X10_growthBehind
  rw [nI_add, nm_s]
  unfold f_X10_growthBehind_6
  have e : nI 0 = nI (gSum (cGr C) (d + 1) - gSum (cGr C) (d + 1)) := by rw [Nat.sub_self]
  rw [e]
  refine lpU_for (fun j => (nI (gSum (cGr C) j - gSum (cGr C) (d + 1)), nI j)) 100 (some (nI (gb C d))) (by omega) (d + 1) (by omega) ?_ ?_
  · intro rc
    show b_X10_growthBehind_6 M _ _ (nI (gSum (cGr C) 100 - gSum (cGr C) (d + 1))) (nI 100) = _
    unfold b_X10_growthBehind_6
    rw [if_pos (nI_lt (by omega) (by omega))]
    rfl
  · intro rc j h1 h2
    show b_X10_growthBehind_6 M _ _ (nI (gSum (cGr C) j - gSum (cGr C) (d + 1))) (nI j) = rc (nI ((gSum (cGr C) j + cGr C j) - gSum (cGr C) (d + 1)), nI (j + 1))
    unfold b_X10_growthBehind_6
    have := gS_mono (cGr C) (i := d + 1) j (by omega)
    rw [if_neg (nI_nlt (by omega) (by omega)), nI_add, of_v y0 hk (by omega), m4 j (by omega), bn_s, nI_add, nm_s, nI_add, nm_s, show gSum (cGr C) j + cGr C j - gSum (cGr C) (d + 1) = gSum (cGr C) j - gSum (cGr C) (d + 1) + cGr C j by omega]
theorem dv_lt {C : CoatA} (hV : CV C) (S : Nat) : (stS C S (cN C) - 1) / cP C < 100 := by
  have h1 := st_le hV S (Nat.le_refl _)
  have h2 := Nat.div_le_self (stS C S (cN C) - 1) (cP C)
  omega
theorem wouldBurst_v {M : Mem} {k : Nat} {C : CoatA} (hH : MH M k C) (hV : CV C) {S s : Nat} (hS : S < 2 ^ cN C) (hs : s < cN C) (hb : S.testBit s = true) : f_X10_wouldBurst M (nI S) (nI s) = some (nI (bw C S s)) := by
  have hn := hV.1
  have w := (pw9 (cN C) (by omega)).2.1
  have h1 := st_pos hV hs (Nat.le_refl _) hb
  have h2 := st_le hV S (Nat.le_refl _)
  have h3 := hV.2.1
  have h4 := dv_lt hV S
  have h5 := gb_le hV ((stS C S (cN C) - 1) / cP C)
  have h6 := (hV.2.2.1 s hs).2.2.1
  unfold f_X10_wouldBurst bw
  rw [stitches_v hH hV (by omega), bn_s, hH.2.2.2.1, gnz_n (by omega) (by omega), sub_n h1, div_n (by omega) (by omega) (by omega), growthBehind_v hH hV h4, bn_s]
  obtain ⟨hk, y0, -, -, -, -, m2, -, -⟩ := hH
  rw [nI_add, of_v y0 hk (by omega), (m2 s hs).2.2, bn_s, ite_p (le_n (by omega) (by omega))]
  by_cases q : cEs C s < gb C ((stS C S (cN C) - 1) / cP C)
  · rw [if_pos q, if_neg (by omega)]
  · rw [if_neg q, if_pos (by omega)]
theorem findLeast_v {M : Mem} {k : Nat} {C : CoatA} (hM : MF M k C) (hV : CV C) : ∃ M', f_X10_findLeast M = some M' ∧ FK 100 (p1 36) M M' ∧ ∀ j, j < 2 ^ cN C → gA M' 100 36 j = nI (lsv C j) := by
  have hn := hV.1
  obtain ⟨w1, w2, w3⟩ := pw9 (cN C) (by omega)
  obtain ⟨hH, h35, -⟩ := hM
  have h24 := hH.2.2.1
  unfold f_X10_findLeast
  rw [h35, nm_s]
  generalize eA : 2 ^ cN C - 1 = all at h35
  have eA2 : 2 ^ cN C = all + 1 := by omega
  unfold f_X10_findLeast_5
  refine lpU_inv (fun i a => ∃ M', a = (dnI (all + 1 - i), M') ∧ FK 100 (p1 36) M M' ∧ ∀ j, all + 1 - i ≤ j → j ≤ all → gA M' 100 36 j = nI (lsv C j)) (all + 1) (fun x => ∃ M', x = some M' ∧ FK 100 (p1 36) M M' ∧ ∀ j, j < 2 ^ cN C → gA M' 100 36 j = nI (lsv C j)) (by omega) ?_ ?_ 0 _ (Nat.zero_le _) ?_
  · rintro rc a ⟨M', rfl, hf, ht⟩
    show ∃ M'', b_X10_findLeast_5 _ (dnI (all + 1 - (all + 1))) M' = _ ∧ _
    unfold b_X10_findLeast_5
    rw [Nat.sub_self, if_pos dnI_0]
    exact ⟨M', rfl, hf, fun j hj => ht j (by omega) (by omega)⟩
  · rintro rc i a hi ⟨M', rfl, hf, ht⟩
    refine Or.inr ?_
    show ∃ a', _ ∧ b_X10_findLeast_5 _ (dnI (all + 1 - i)) M' = _
    unfold b_X10_findLeast_5
    obtain ⟨v, hv⟩ : ∃ v, all + 1 - i = v + 1 := ⟨all + 1 - i - 1, by omega⟩
    have e35 : gI M' 100 35 = nI all := by rw [hf.1]; exact h35
    have hb0 : ∀ b : Nat, (b = if v = all then 0 else 1000000) → ∃ a', (∃ M', a' = (dnI (all + 1 - (i + 1)), M') ∧ FK 100 (p1 36) M M' ∧ ∀ j, all + 1 - (i + 1) ≤ j → j ≤ all → gA M' 100 36 j = nI (lsv C j)) ∧ f_X10_findLeast_29 (fun x0 x1 => rc (x0, x1)) (nI v) (nI v) (nI b) M' = rc a' := by
      intro b hb
      unfold f_X10_findLeast_29
      rw [gin_n (by omega) (by omega), ix_n (by omega), nm_s]
      unfold f_X10_findLeast_32
      have e0 : v < 2 ^ cN C := by omega
      refine lpU_inv (fun s a => ∃ M2, a = (nI s, M2) ∧ FK 100 (p1 36) M M2 ∧ (∀ j, v < j → j ≤ all → gA M2 100 36 j = nI (lsv C j)) ∧ gA M2 100 36 v = nI (mnS (mayB (cAf C) v) b (fun s => lsv C (v ||| 2 ^ s) + bw C (v ||| 2 ^ s) s) s)) (cN C) (fun x => ∃ a', (∃ M', a' = (dnI (all + 1 - (i + 1)), M') ∧ FK 100 (p1 36) M M' ∧ ∀ j, all + 1 - (i + 1) ≤ j → j ≤ all → gA M' 100 36 j = nI (lsv C j)) ∧ x = rc a') (by omega) ?_ ?_ 0 _ (Nat.zero_le _) ⟨_, rfl, FK_tr hf (FK_sA M' (p1_r 36)), fun j h1 h2 => ?_, ?_⟩
      · rintro rc2 a ⟨M2, rfl, hf2, ht2, hv2⟩
        show ∃ a', _ ∧ b_X10_findLeast_32 _ (nI v) _ (nI (cN C)) M2 = _
        unfold b_X10_findLeast_32
        rw [hf2.1, h24, if_pos (nI_le (Nat.le_refl _) (by omega)), dnI_n, nm_s]
        have ev : all + 1 - (i + 1) = v := by omega
        refine ⟨_, ⟨M2, by rw [ev], hf2, fun j h1 h2 => ?_⟩, rfl⟩
        by_cases q : j = v
        · rw [q, hv2, lsv_eq hn (by omega)]
          unfold lsF
          rw [eA, hb]
        · exact ht2 j (by omega) h2
      · rintro rc2 s a hs ⟨M2, rfl, hf2, ht2, hv2⟩
        refine Or.inr ?_
        show ∃ a', _ ∧ b_X10_findLeast_32 _ (nI v) _ (nI s) M2 = _
        unfold b_X10_findLeast_32
        have hH2 := MH_FK hH hf2 rfl
        rw [hf2.1, h24, if_neg (nI_ge hs (by omega)), or_nI (by omega), nm_s, mayNext_v hH2 hV (by omega) hs, bn_s]
        unfold f_X10_findLeast_91
        have hb2 := mnS_b (mayB (cAf C) v) b (fun s => lsv C (v ||| 2 ^ s) + bw C (v ||| 2 ^ s) s) s
        have hb3 : b ≤ 1000000 := by rw [hb]; split <;> omega
        have key : ∀ x, x = mnS (mayB (cAf C) v) b (fun s => lsv C (v ||| 2 ^ s) + bw C (v ||| 2 ^ s) s) (s + 1) → ∃ a', (∃ M3, a' = (nI (s + 1), M3) ∧ FK 100 (p1 36) M M3 ∧ (∀ j, v < j → j ≤ all → gA M3 100 36 j = nI (lsv C j)) ∧ gA M3 100 36 v = nI (mnS (mayB (cAf C) v) b (fun s => lsv C (v ||| 2 ^ s) + bw C (v ||| 2 ^ s) s) (s + 1))) ∧ (gin (nI v) 512 <| nm (sA M2 100 36 (ix (nI v)) (nI x)) fun M2 => nm (nI s + nI 1) fun v3 => rc2 (v3, M2)) = rc2 a' := by
          intro x hx
          rw [gin_n (by omega) (by omega), ix_n (by omega), nm_s, nI_add, nm_s]
          refine ⟨_, ⟨_, rfl, FK_tr hf2 (FK_sA M2 (p1_r 36)), fun j h1 h2 => ?_, ?_⟩, rfl⟩
          · rw [gA_sA, if_neg (by omega)]
            exact ht2 j h1 h2
          · rw [gA_sA, if_pos ⟨rfl, rfl, rfl⟩, hx]
        by_cases r : mayB (cAf C) v s = true
        · have h1 := or_lt e0 hs
          have h2 := or_gt (mayB_n v s r)
          have h3 := lsv_b hn (S := v ||| 2 ^ s) (by omega)
          have h4 := bw_le C (v ||| 2 ^ s) s
          rw [if_pos r, gin_n (by omega) (by omega), gin_n (by omega) (by omega), wouldBurst_v hH2 hV h1 hs (by rw [or_tb]; simp), bn_s, ix_n (by omega), ix_n (by omega), hv2, ht2 _ h2 (by omega), nI_add, lesser_n (by omega) (by omega), bn_s]
          have k := key (min (mnS (mayB (cAf C) v) b (fun s => lsv C (v ||| 2 ^ s) + bw C (v ||| 2 ^ s) s) s) (lsv C (v ||| 2 ^ s) + bw C (v ||| 2 ^ s) s)) (show _ = if mayB (cAf C) v s = true then _ else _ by rw [if_pos r])
          rw [ix_n (by omega)] at k
          exact k
        · rw [if_neg r, gin_n (by omega) (by omega), ix_n (by omega), hv2]
          have k := key (mnS (mayB (cAf C) v) b (fun s => lsv C (v ||| 2 ^ s) + bw C (v ||| 2 ^ s) s) s) (show _ = if mayB (cAf C) v s = true then _ else _ by rw [if_neg r])
          rw [ix_n (by omega)] at k
          exact k
      · rw [gA_sA, if_neg (by omega)]
        exact ht j (by omega) h2
      · rw [gA_sA, if_pos ⟨rfl, rfl, rfl⟩]
        rfl
    rw [hv, dnI_s, if_neg (n_nneg (by omega)), e35]
    by_cases q : v = all
    · rw [if_pos (by rw [q])]
      exact hb0 0 (by rw [if_pos q])
    · rw [if_neg (ne_n q (by omega) (by omega))]
      exact hb0 1000000 (by rw [if_neg q])
  · exact ⟨M, by rw [Nat.sub_zero, dnI_s], FK_rf M, fun j h1 h2 => by omega⟩
/-- the reference's loops over an order's places -/
theorem leastAt_v {M : Mem} {k : Nat} {C : CoatA} {r : Nat → Nat} (hH : MH M k C) (hO : Od C r) (hT : ∀ j, j < 2 ^ cN C → gA M 100 36 j = nI (lsv C j)) {p : Nat} (hp : p < cN C) : f_X10_leastAt M (nI p) = some (nI (rwL C p)) := by
  have hV := hO.1
  have hn := hV.1
  have w := (pw9 (cN C) (by omega)).2.1
  unfold f_X10_leastAt f_X10_leastAt_7
  refine lpU_for (fun i => (nI (gsL C i), (if i = 0 then (-1) else nI (rwL C (i - 1))), nI i)) (p + 1) (some (nI (rwL C p))) (by omega) 0 (Nat.zero_le _) ?_ ?_
  · intro rc
    show b_X10_leastAt_7 M (nI p) _ _ _ (nI (p + 1)) = _
    unfold b_X10_leastAt_7
    rw [if_pos (nI_lt (by omega) (by omega))]
    rfl
  · intro rc i _ hi
    show b_X10_leastAt_7 M (nI p) _ _ _ (nI i) = _
    unfold b_X10_leastAt_7
    rw [if_neg (nI_nlt (by omega) (by omega))]
    obtain ⟨g1, g2⟩ := gsL_v hO (i := i) (by omega)
    have g3 := g2 (by omega)
    have g4 := g1.1
    have g5 : pkL C (gsL C i) (rwL C i) = true := nx_hit g3
    unfold f_X10_leastAt_16
    refine lpU_for (fun s => nI s) (rwL C i) _ (by omega) 0 (Nat.zero_le _) ?_ ?_
    · intro rc2
      show b_X10_leastAt_16 M (nI p) _ (nI (gsL C i)) (nI i) _ (nI (rwL C i)) = _
      unfold b_X10_leastAt_16
      have h1 := or_lt g4 g3
      have g6 := g5
      rw [pkL_t] at g6
      have g7 : lsv C (gsL C i ||| 2 ^ rwL C i) + bw C (gsL C i ||| 2 ^ rwL C i) (rwL C i) = lsv C (gsL C i) := g6.2
      rw [mayNext_v hH hV (by omega) g3, bn_s, if_pos g6.1, or_nI (by omega), gin_n (by omega) (by omega), wouldBurst_v hH hV h1 g3 (by rw [or_tb]; simp), bn_s, gin_n (by omega) (by omega), ix_n (by omega), ix_n (by omega), hT _ h1, hT _ g4, nI_add, if_pos (by rw [g7]), nm_s, nI_add, nm_s]
      rfl
    · intro rc2 s _ hs
      show b_X10_leastAt_16 M (nI p) _ (nI (gsL C i)) (nI i) _ (nI s) = _
      unfold b_X10_leastAt_16
      have hsn : s < cN C := by omega
      have h1 := or_lt g4 hsn
      have g6 := nx_min (p := pkL C (gsL C i)) hs
      rw [mayNext_v hH hV (by omega) hsn, bn_s]
      unfold f_X10_leastAt_59
      by_cases q : mayB (cAf C) (gsL C i) s = true
      · have b1 := lsv_b hn (S := gsL C i ||| 2 ^ s) (by omega)
        have b2 := bw_le C (gsL C i ||| 2 ^ s) s
        have b3 := lsv_b hn (S := gsL C i) (by omega)
        have g7 : ¬ lsv C (gsL C i ||| 2 ^ s) + bw C (gsL C i ||| 2 ^ s) s = lsv C (gsL C i) := fun e => by
          have : pkL C (gsL C i) s = true := by rw [pkL_t]; exact ⟨q, e⟩
          rw [this] at g6
          exact absurd g6 (by decide)
        rw [if_pos q, or_nI (by omega), gin_n (by omega) (by omega), wouldBurst_v hH hV h1 hsn (by rw [or_tb]; simp), bn_s, gin_n (by omega) (by omega), ix_n (by omega), ix_n (by omega), hT _ h1, hT _ g4, nI_add, if_neg (ne_n g7 (by omega) (by omega)), nI_add, nm_s]
      · rw [if_neg q, nI_add, nm_s]
theorem firstAt_v {M : Mem} {k : Nat} {C : CoatA} {r : Nat → Nat} (hM : MF M k C) (hO : Od C r) {p : Nat} (hp : p < cN C) : f_X10_firstAt M (nI p) = some (nI (rwB C p)) := by
  have hV := hO.1
  have hn := hV.1
  obtain ⟨hH, -, hT⟩ := hM
  have w := (pw9 (cN C) (by omega)).2.1
  unfold f_X10_firstAt f_X10_firstAt_7
  refine lpU_for (fun i => (nI (gsB C i), (if i = 0 then (-1) else nI (rwB C (i - 1))), nI i)) (p + 1) (some (nI (rwB C p))) (by omega) 0 (Nat.zero_le _) ?_ ?_
  · intro rc
    show b_X10_firstAt_7 M (nI p) _ _ _ (nI (p + 1)) = _
    unfold b_X10_firstAt_7
    rw [if_pos (nI_lt (by omega) (by omega))]
    rfl
  · intro rc i _ hi
    show b_X10_firstAt_7 M (nI p) _ _ _ (nI i) = _
    unfold b_X10_firstAt_7
    rw [if_neg (nI_nlt (by omega) (by omega))]
    obtain ⟨g1, g2⟩ := gsB_v hO (i := i) (by omega)
    have g3 := g2 (by omega)
    have g4 := g1.1
    have g5 : mayB (cAf C) (gsB C i) (rwB C i) = true := nx_hit g3
    unfold f_X10_firstAt_16
    refine lpU_for (fun s => nI s) (rwB C i) _ (by omega) 0 (Nat.zero_le _) ?_ ?_
    · intro rc2
      show b_X10_firstAt_16 M (nI p) _ (nI (gsB C i)) (nI i) _ (nI (rwB C i)) = _
      unfold b_X10_firstAt_16
      have h1 := or_lt g4 g3
      have h2 := Od_pos hO (Cl_or (by have := Od_A hV _ g3; omega) g1 g3 g5)
      have h3 := gw_b (may := mayB (cAf C)) mayB_n hn (S := gsB C i ||| 2 ^ rwB C i) (by omega)
      have h4 : ¬ lg_cmp (lN (gw (mayB (cAf C)) (cN C) (gsB C i ||| 2 ^ rwB C i))) (lN 0) = nI 0 := by
        rw [lcmp_z (by omega)]
        have h2' : 0 < gw (mayB (cAf C)) (cN C) (gsB C i ||| 2 ^ rwB C i) := h2
        omega
      rw [mayNext_v hH hV (by omega) g3, bn_s, if_pos g5, or_nI (by omega), gin_n (by omega) (by omega), ix_n (by omega), hT _ h1, if_neg h4, nm_s, nI_add, nm_s]
      rfl
    · intro rc2 s _ hs
      show b_X10_firstAt_16 M (nI p) _ (nI (gsB C i)) (nI i) _ (nI s) = _
      unfold b_X10_firstAt_16
      have hsn : s < cN C := by omega
      have g6 := nx_min (p := mayB (cAf C) (gsB C i)) hs
      rw [mayNext_v hH hV (by omega) hsn, bn_s, g6]
      unfold f_X10_firstAt_42
      rw [if_neg (by decide), nI_add, nm_s]
