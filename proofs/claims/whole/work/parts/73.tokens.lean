/-! TEXTS: bytes and tokens -/
def blB (n : Nat) : Bool := !decide (n = 10 ∨ n = 32)
def leB (n : Nat) : Bool := !decide (97 ≤ n ∧ n ≤ 122)
def diB (n : Nat) : Bool := !decide (48 ≤ n ∧ n ≤ 57)
theorem i8_all : ∀ n, n < 256 → ((Int8.ofNat n).toInt32 &&& nI 255 = nI n) ∧ f_X2_isLetter ((Int8.ofNat n).toInt32) = some (!leB n) ∧ f_X2_isDigit ((Int8.ofNat n).toInt32) = some (!diB n) ∧ f_X2_isBlank ((Int8.ofNat n).toInt32) = some (!blB n) ∧ ((Int8.ofNat n).toInt32 = nI 59 ↔ n = 59) ∧ (n < 128 → (Int8.ofNat n).toInt32 = nI n) ∧ (128 ≤ n → (Int8.ofNat n).toInt32 < nI 0) ∧ f_X10_in (nI n) (nI 97) (nI 122) = some (!leB n) ∧ f_X10_in (nI n) (nI 48) (nI 57) = some (!diB n) := by decide +kernel
theorem lpU_fr {α β : Type} {F : (α → Option β) → α → Option β} (g : Nat → α) (n : Nat) (K : Nat → Option β) (stop : Nat → Prop) (hn : n < 5000) (i0 : Nat) (hend : ∀ rc, F rc (g n) = K n) (hstop : ∀ rc i, i0 ≤ i → i < n → stop i → F rc (g i) = K i) (hstep : ∀ rc i, i0 ≤ i → i < n → ¬ stop i → F rc (g i) = rc (g (i + 1))) (m : Nat) (h0 : i0 ≤ m) (hm : m ≤ n) (hmin : ∀ i, i0 ≤ i → i < m → ¬ stop i) (hst : m < n → stop m) : lp F FU (g i0) = K m := by
  have key : ∀ f i, m - i < f → i0 ≤ i → i ≤ m → lp F f (g i) = K m := by
    intro f
    induction f with
    | zero => intro i h; omega
    | succ f ih =>
      intro i h1 hi h2
      rw [lp_s]
      by_cases h : i = m
      · subst h
        by_cases h3 : i = n
        · subst h3; exact hend _
        · exact hstop _ i hi (by omega) (hst (by omega))
      · rw [hstep _ i hi (by omega) (hmin i hi (by omega))]
        exact ih (i + 1) (by omega) (by omega) (by omega)
  exact key FU i0 (by rw [FU_v]; omega) (Nat.le_refl _) h0
def byN (x : Int32) : Nat := x.toInt8.toBitVec.toNat
theorem byN_lt (x : Int32) : byN x < 256 := x.toInt8.toBitVec.isLt
theorem byN_e (x : Int32) : Int32.toInt8 x = Int8.ofNat (byN x) := by
  apply Int8.toBitVec_inj.mp
  show _ = BitVec.ofNat 8 _
  unfold byN
  rw [BitVec.ofNat_toNat, BitVec.setWidth_eq]
theorem byN_c {x y : Int32} (h : x.toInt8 = y.toInt8) : byN x = byN y := by unfold byN; rw [h]
theorem by_v {x : Int32} {n : Nat} (h : byN x = n) : Int8.toInt32 (Int32.toInt8 x) = (Int8.ofNat n).toInt32 := by rw [byN_e, h]
/-! where a row of such bytes ends -/
theorem ff_eq {p : Nat → Bool} {i f m : Nat} (h1 : i ≤ m) (h2 : m ≤ i + f) (h3 : ∀ j, i ≤ j → j < m → p j = false) (h4 : m < i + f → p m = true) : ff p i f = m := by
  obtain ⟨a, b, c, d⟩ := ff_v p f i
  by_cases q : ff p i f < m
  · have := h3 _ a q
    rw [d (by omega)] at this
    exact absurd this (by decide)
  · by_cases r : m < ff p i f
    · have := c m h1 r
      rw [h4 (by omega)] at this
      exact absurd this (by decide)
    · omega
def tkF (tb : Nat → Nat) (tl i : Nat) : Nat := ff (fun j => blB (tb j)) i (tl - i)
def leT (tb : Nat → Nat) (tl i : Nat) : Nat := ff (fun j => leB (tb j)) i (tl - i)
def deT (tb : Nat → Nat) (tl i : Nat) : Nat := ff (fun j => diB (tb j)) i (tl - i)
def tkK (tb : Nat → Nat) (tl i : Nat) : Nat := if tkF tb tl i = tl then 0 else if leB (tb (tkF tb tl i)) = false then 1 else if diB (tb (tkF tb tl i)) = false then (if deT tb tl (tkF tb tl i) - tkF tb tl i ≤ 2 then 2 else 4) else if tb (tkF tb tl i) = 59 then 3 else 4
def tkT (tb : Nat → Nat) (tl i : Nat) : Nat := if tkF tb tl i = tl then tl else if leB (tb (tkF tb tl i)) = false then leT tb tl (tkF tb tl i) else if diB (tb (tkF tb tl i)) = false then deT tb tl (tkF tb tl i) else tkF tb tl i + 1
theorem tkF_b {tb : Nat → Nat} {tl i : Nat} (h : i ≤ tl) : i ≤ tkF tb tl i ∧ tkF tb tl i ≤ tl := by
  obtain ⟨a, b, -⟩ := ff_v (fun j => blB (tb j)) (tl - i) i
  unfold tkF
  exact ⟨a, by omega⟩
theorem ff_gt {p : Nat → Bool} {i f : Nat} (hf : 0 < f) (h : p i = false) : i + 1 ≤ ff p i f := by
  obtain ⟨a, b, c, d⟩ := ff_v p f i
  by_cases q : ff p i f = i
  · have := d (by omega)
    rw [q, h] at this
    exact absurd this (by decide)
  · omega
theorem ff_le (p : Nat → Bool) (i f : Nat) : ff p i f ≤ i + f := (ff_v p f i).2.1
theorem tkT_b {tb : Nat → Nat} {tl i : Nat} (h : i ≤ tl) : tkT tb tl i ≤ tl ∧ tkF tb tl i ≤ tkT tb tl i ∧ (¬ tkK tb tl i = 0 → tkF tb tl i < tkT tb tl i) := by
  obtain ⟨a, b⟩ := tkF_b (tb := tb) h
  unfold tkT tkK
  by_cases q : tkF tb tl i = tl
  · rw [if_pos q, if_pos q]
    exact ⟨Nat.le_refl _, by omega, fun z => absurd rfl z⟩
  · rw [if_neg q, if_neg q]
    have hf : 0 < tl - tkF tb tl i := by omega
    by_cases q1 : leB (tb (tkF tb tl i)) = false
    · rw [if_pos q1]
      have h1 := ff_gt (p := fun j => leB (tb j)) hf q1
      have h2 := ff_le (fun j => leB (tb j)) (tkF tb tl i) (tl - tkF tb tl i)
      unfold leT
      exact ⟨by omega, by omega, fun _ => by omega⟩
    · rw [if_neg q1]
      by_cases q2 : diB (tb (tkF tb tl i)) = false
      · rw [if_pos q2]
        have h1 := ff_gt (p := fun j => diB (tb j)) hf q2
        have h2 := ff_le (fun j => diB (tb j)) (tkF tb tl i) (tl - tkF tb tl i)
        unfold deT
        exact ⟨by omega, by omega, fun _ => by omega⟩
      · rw [if_neg q2]
        exact ⟨by omega, by omega, fun _ => by omega⟩
/-- bytes as a word, the last eight at most -/
def pkF (f : Nat → Nat) : Nat → Nat
  | 0 => 0
  | n + 1 => pkF f n * 256 + f n
theorem pkF_b {f : Nat → Nat} : ∀ n, (∀ i, i < n → f i < 128) → n ≤ 8 → pkF f n * 2 < 256 ^ n ∧ (n = 0 → pkF f n = 0) ∨ n = 0 := by
  intro n
  induction n with
  | zero => intro _ _; exact Or.inr rfl
  | succ n ih =>
    intro h h8
    left
    refine ⟨?_, fun z => by omega⟩
    show (pkF f n * 256 + f n) * 2 < 256 ^ (n + 1)
    have h1 := h n (by omega)
    rw [Nat.pow_succ]
    rcases ih (fun i hi => h i (by omega)) (by omega) with ⟨a, -⟩ | a
    · omega
    · subst a
      show (0 * 256 + f 0) * 2 < 256 ^ 0 * 256
      omega
theorem pkF_63 {f : Nat → Nat} {n : Nat} (h : ∀ i, i < n → f i < 128) (h8 : n ≤ 8) : pkF f n < 2 ^ 63 := by
  rcases pkF_b n h h8 with ⟨a, -⟩ | a
  · have : (256 : Nat) ^ n ≤ 256 ^ 8 := Nat.pow_le_pow_right (by omega) h8
    have e : (256 : Nat) ^ 8 = 2 * 2 ^ 63 := by decide
    omega
  · subst a
    show 0 < _
    exact Nat.two_pow_pos 63
theorem pkF_inj {f g : Nat → Nat} : ∀ n m, (∀ i, i < n → 1 ≤ f i ∧ f i < 256) → (∀ i, i < m → 1 ≤ g i ∧ g i < 256) → pkF f n = pkF g m → n = m ∧ ∀ i, i < n → f i = g i := by
  intro n
  induction n with
  | zero =>
    intro m _ hg h
    cases m with
    | zero => exact ⟨rfl, fun i hi => by omega⟩
    | succ m =>
      have h2 : (0 : Nat) = pkF g m * 256 + g m := h
      have := (hg m (by omega)).1
      omega
  | succ n ih =>
    intro m hf hg h
    cases m with
    | zero =>
      have h2 : pkF f n * 256 + f n = 0 := h
      have := (hf n (by omega)).1
      omega
    | succ m =>
      have h2 : pkF f n * 256 + f n = pkF g m * 256 + g m := h
      have h3 := hf n (by omega)
      have h4 := hg m (by omega)
      obtain ⟨a, b⟩ := ih m (fun i hi => hf i (by omega)) (fun i hi => hg i (by omega)) (by omega)
      subst a
      refine ⟨rfl, fun i hi => ?_⟩
      by_cases q : i = n
      · subst q; omega
      · exact b i (by omega)
theorem pkF_cg {f g : Nat → Nat} : ∀ n, (∀ i, i < n → f i = g i) → pkF f n = pkF g n := by
  intro n
  induction n with
  | zero => intro _; rfl
  | succ n ih =>
    intro h
    show pkF f n * 256 + f n = pkF g n * 256 + g n
    rw [ih (fun i hi => h i (by omega)), h n (by omega)]
theorem wd_sh {a c : Nat} (hc : c < 256) (h : a * 256 + c < 2 ^ 64) : lN a <<< (Int32.toInt64 (nI 8) &&& 63) ||| lN c = lN (a * 256 + c) := by
  obtain ⟨k, hk⟩ : ∃ k, k = 8 := ⟨8, rfl⟩
  have e8 : (Int32.toInt64 (nI 8) &&& 63) = lN k := by rw [hk]; decide +kernel
  have s8 : (BitVec.ofNat 64 k).smod 64 = BitVec.ofNat 64 k := by rw [hk]; decide
  have t : ∀ n, (lN n).toBitVec = BitVec.ofNat 64 n := fun _ => rfl
  have p8 : a * 2 ^ k = a * 256 := by rw [hk]
  have ha : a < 2 ^ 64 := by omega
  have hc2 : c < 2 ^ 64 := by omega
  have hk2 : k < 2 ^ 64 := by omega
  have hp3 : a * 2 ^ k ≤ a * 256 + c := by rw [p8]; exact Nat.le_add_right _ _
  have hp2 : a * 2 ^ k < 2 ^ 64 := Nat.lt_of_le_of_lt hp3 h
  have hck : c < 2 ^ k := by rw [hk]; exact hc
  rw [e8]
  apply Int64.toBitVec_inj.mp
  rw [Int64.toBitVec_or, Int64.toBitVec_shiftLeft, t, t, t, t, s8]
  apply BitVec.eq_of_toNat_eq
  rw [BitVec.toNat_or, BitVec.shiftLeft_eq', BitVec.toNat_shiftLeft, BitVec.toNat_ofNat, BitVec.toNat_ofNat, BitVec.toNat_ofNat, BitVec.toNat_ofNat, Nat.mod_eq_of_lt hk2, Nat.mod_eq_of_lt ha, Nat.mod_eq_of_lt hc2, Nat.mod_eq_of_lt h, Nat.shiftLeft_eq, Nat.mod_eq_of_lt hp2]
  rw [← Nat.shiftLeft_eq, ← Nat.shiftLeft_add_eq_or_of_lt hck, Nat.shiftLeft_eq, p8]
/-- numbers as they go -/
def vlF (tb : Nat → Nat) (f : Nat) : Nat → Nat
  | 0 => 0
  | n + 1 => vlF tb f n * 10 + (tb (f + n) - 48)
theorem vlF_b {tb : Nat → Nat} {f : Nat} (h : ∀ i, i < 2 → tb (f + i) ≤ 57) : ∀ n, n ≤ 2 → vlF tb f n ≤ 99 ∧ (n ≤ 1 → vlF tb f n ≤ 9) := by
  intro n hn
  have h0 := h 0 (by omega)
  have h1 := h 1 (by omega)
  have e1 : vlF tb f 1 = 0 * 10 + (tb (f + 0) - 48) := rfl
  have e2 : vlF tb f 2 = vlF tb f 1 * 10 + (tb (f + 1) - 48) := rfl
  have c : n = 0 ∨ n = 1 ∨ n = 2 := by omega
  rcases c with rfl | rfl | rfl
  · exact ⟨Nat.zero_le _, fun _ => Nat.zero_le _⟩
  · exact ⟨by omega, fun _ => by omega⟩
  · exact ⟨by omega, fun z => by omega⟩
/-! memory: one field written again -/
theorem sI_sI (M : Mem) (o k : Nat) (v w : Int32) : sI (sI M o k v) o k w = sI M o k w := by
  unfold sI
  refine Prod.ext ?_ rfl
  funext a b
  show (if a = o ∧ b = k then w else if a = o ∧ b = k then v else M.1 a b) = if a = o ∧ b = k then w else M.1 a b
  by_cases q : a = o ∧ b = k
  · rw [if_pos q, if_pos q]
  · rw [if_neg q, if_neg q, if_neg q]
theorem sI_id {M : Mem} {o k : Nat} {v : Int32} (h : gI M o k = v) : sI M o k v = M := by
  unfold sI
  refine Prod.ext ?_ rfl
  funext a b
  show (if a = o ∧ b = k then v else M.1 a b) = M.1 a b
  by_cases q : a = o ∧ b = k
  · rw [if_pos q, ← h, q.1, q.2]
    rfl
  · rw [if_neg q]
/-- the class holds the tape of its Told, bytes tb, tl of them -/
def XTp (tb : Nat → Nat) (tl : Nat) (M : Mem) : Prop := gR M 10 6 = 1 ∧ gI M 10 7 = nI tl ∧ (∀ j, j < tl → byN (gA M 1 0 j) = tb j) ∧ tl ≤ 600
def MTq (tb : Nat → Nat) (tl : Nat) (M : Mem) : Prop := gI M 100 11 = nI tl ∧ (∀ j, j < tl → byN (gA M 100 1 j) = tb j) ∧ tl ≤ 600
/-- only the class's token fields have changed -/
def FSx (M M' : Mem) : Prop := (∀ o k, ¬ (o = 10 ∧ 8 ≤ k ∧ k ≤ 10) → gI M' o k = gI M o k) ∧ (∀ o k, gA M' o k = gA M o k) ∧ ∀ o k, gR M' o k = gR M o k
theorem FSx_rf (M : Mem) : FSx M M := ⟨fun _ _ _ => rfl, fun _ _ => rfl, fun _ _ => rfl⟩
theorem FSx_tr {A B C : Mem} (h : FSx A B) (g : FSx B C) : FSx A C := ⟨fun o k q => (g.1 o k q).trans (h.1 o k q), fun o k => (g.2.1 o k).trans (h.2.1 o k), fun o k => (g.2.2 o k).trans (h.2.2 o k)⟩
theorem FSx_sI (M : Mem) {k : Nat} {v : Int32} (h : 8 ≤ k ∧ k ≤ 10) : FSx M (sI M 10 k v) := ⟨fun a b q => if_neg (fun z => q (by omega)), fun _ _ => rfl, fun _ _ => rfl⟩
theorem XTp_F {tb : Nat → Nat} {tl : Nat} {M M' : Mem} (h : XTp tb tl M) (f : FSx M M') : XTp tb tl M' := ⟨by rw [f.2.2]; exact h.1, by rw [f.1 10 7 (by omega)]; exact h.2.1, fun j hj => by rw [f.2.1]; exact h.2.2.1 j hj, h.2.2.2⟩
/-- the class's token is that at i -/
def XTk (tb : Nat → Nat) (tl i : Nat) (M : Mem) : Prop := XTp tb tl M ∧ i ≤ tl ∧ gI M 10 9 = nI (tkF tb tl i) ∧ gI M 10 10 = nI (tkT tb tl i) ∧ gI M 10 8 = nI (tkK tb tl i)
section Tok
variable {tb : Nat → Nat} {tl : Nat} {M : Mem}
theorem xb {j : Nat} (h : XTp tb tl M) (hj : j < tl) : Int8.toInt32 (Int32.toInt8 (gA M (gR M 10 6) 0 j)) = (Int8.ofNat (tb j)).toInt32 ∧ tb j < 256 := by
  rw [h.1]
  have e := h.2.2.1 j hj
  exact ⟨by_v e, by rw [← e]; exact byN_lt _⟩
theorem step31_v (h : XTp tb tl M) {f : Nat} (hf : f ≤ tl) : ∃ M', f_X2_step_31 (nI f) M = some M' ∧ FSx M M' ∧ gI M' 10 9 = nI f ∧ gI M' 10 10 = nI (if f = tl then tl else if leB (tb f) = false then leT tb tl f else if diB (tb f) = false then deT tb tl f else f + 1) ∧ gI M' 10 8 = nI (if f = tl then 0 else if leB (tb f) = false then 1 else if diB (tb f) = false then (if deT tb tl f - f ≤ 2 then 2 else 4) else if tb f = 59 then 3 else 4) := by
  have h6 := h.2.2.2
  have hFj : ∀ j, FSx M (sI (sI M 10 9 (nI f)) 10 10 (nI j)) := fun j => FSx_tr (FSx_sI _ (by omega)) (FSx_sI _ (by omega))
  have hXj : ∀ j, XTp tb tl (sI (sI M 10 9 (nI f)) 10 10 (nI j)) := fun j => XTp_F h (hFj j)
  have e10 : ∀ j, gI (sI (sI M 10 9 (nI f)) 10 10 (nI j)) 10 10 = nI j := fun j => by rw [gI_sI, if_pos ⟨rfl, rfl⟩]
  have e9 : ∀ j, gI (sI (sI M 10 9 (nI f)) 10 10 (nI j)) 10 9 = nI f := fun j => by rw [gI_sI, if_neg (by omega), gI_sI, if_pos ⟨rfl, rfl⟩]
  have h2 := hXj f
  have fin : ∀ (t v : Nat), ∃ M', some (sI (sI (sI M 10 9 (nI f)) 10 10 (nI t)) 10 8 (nI v)) = some M' ∧ FSx M M' ∧ gI M' 10 9 = nI f ∧ gI M' 10 10 = nI t ∧ gI M' 10 8 = nI v := fun t v => ⟨_, rfl, FSx_tr (hFj t) (FSx_sI _ (by omega)), by rw [gI_sI, if_neg (by omega), e9], by rw [gI_sI, if_neg (by omega), e10], by rw [gI_sI, if_pos ⟨rfl, rfl⟩]⟩
  unfold f_X2_step_31
  simp only [nm_s]
  have er : ∀ z : Option Mem, (if gR (sI (sI M 10 9 (nI f)) 10 10 (nI f)) 10 6 = 0 then none else z) = z := fun z => if_neg (by rw [h2.1]; decide)
  rw [h2.2.1, ite_p (lt_n (by omega) (by omega))]
  by_cases c : f < tl
  · have cn : ¬ f = tl := by omega
    obtain ⟨b1, b2⟩ := xb h2 c
    obtain ⟨-, i1, i2, -, i4, -⟩ := i8_all (tb f) b2
    simp only [er]
    have hg : ∀ z : Option Mem, gin (nI f) 600 z = z := fun z => gin_n (by omega) (by omega)
    simp only [hg]
    rw [if_pos c, ix_n (by omega), b1, i1, bn_s, i2, bn_s, if_neg cn, if_neg cn]
    by_cases c1 : leB (tb f) = false
    · rw [c1, if_pos (by decide), if_pos rfl, if_pos rfl]
      obtain ⟨m1, m2, m3, m4⟩ := ff_v (fun j => leB (tb j)) (tl - f) f
      have e : f_X2_step_69 FU (sI (sI M 10 9 (nI f)) 10 10 (nI f)) = some (sI (sI (sI M 10 9 (nI f)) 10 10 (nI (leT tb tl f))) 10 8 (nI 1)) := by
        unfold f_X2_step_69
        refine lpU_fr (fun j => sI (sI M 10 9 (nI f)) 10 10 (nI j)) tl (fun m => some (sI (sI (sI M 10 9 (nI f)) 10 10 (nI m)) 10 8 (nI 1))) (fun j => leB (tb j) = true) (by omega) f ?_ ?_ ?_ (leT tb tl f) m1 (by unfold leT; omega) ?_ ?_
        · intro rc
          show b_X2_step_69 _ (sI (sI M 10 9 (nI f)) 10 10 (nI tl)) = _
          unfold b_X2_step_69
          rw [(hXj tl).2.1, e10, if_pos (nI_le (Nat.le_refl _) (by omega)), nm_s]
        · intro rc j hfj hj hst
          show b_X2_step_69 _ (sI (sI M 10 9 (nI f)) 10 10 (nI j)) = _
          obtain ⟨b3, b4⟩ := xb (hXj j) hj
          unfold b_X2_step_69
          rw [(hXj j).2.1, e10, if_neg (nI_ge hj (by omega)), if_neg (by rw [(hXj j).1]; decide), gin_n (by omega) (by omega), ix_n (by omega), b3, (i8_all (tb j) b4).2.1, bn_s, hst, if_neg (by decide), nm_s]
        · intro rc j hfj hj hst
          show b_X2_step_69 _ (sI (sI M 10 9 (nI f)) 10 10 (nI j)) = rc (sI (sI M 10 9 (nI f)) 10 10 (nI (j + 1)))
          have hst' : leB (tb j) = false := by simpa using hst
          obtain ⟨b3, b4⟩ := xb (hXj j) hj
          unfold b_X2_step_69
          rw [(hXj j).2.1, e10, if_neg (nI_ge hj (by omega)), if_neg (by rw [(hXj j).1]; decide), gin_n (by omega) (by omega), ix_n (by omega), b3, (i8_all (tb j) b4).2.1, bn_s, hst', if_pos (by decide), nm_s, nI_add, sI_sI]
        · intro j a1 hj
          rw [m3 j a1 hj]; decide
        · intro z
          exact m4 (by unfold leT at z; omega)
      rw [e]
      exact fin _ _
    · rw [if_neg c1, if_neg c1]
      have c1' : leB (tb f) = true := by simpa using c1
      rw [c1', if_neg (by decide)]
      by_cases c2 : diB (tb f) = false
      · rw [c2, if_pos (by decide), if_pos rfl, if_pos rfl]
        obtain ⟨m1, m2, m3, m4⟩ := ff_v (fun j => diB (tb j)) (tl - f) f
        have e167 : ∀ m, f ≤ m → m ≤ 600 → f_X2_step_167 (sI (sI M 10 9 (nI f)) 10 10 (nI m)) = some (sI (sI (sI M 10 9 (nI f)) 10 10 (nI m)) 10 8 (nI (if m - f ≤ 2 then 2 else 4))) := by
          intro m hm hm2
          unfold f_X2_step_167
          rw [e10, e9, sub_n hm, ite_p (lt_n (by omega) (by omega)), nm_s, nm_s]
          by_cases q : m - f ≤ 2
          · rw [if_neg (by omega), if_pos q]
          · rw [if_pos (by omega), if_neg q]
        have e : f_X2_step_128 FU (sI (sI M 10 9 (nI f)) 10 10 (nI f)) = some (sI (sI (sI M 10 9 (nI f)) 10 10 (nI (deT tb tl f))) 10 8 (nI (if deT tb tl f - f ≤ 2 then 2 else 4))) := by
          unfold f_X2_step_128
          refine lpU_fr (fun j => sI (sI M 10 9 (nI f)) 10 10 (nI j)) tl (fun m => some (sI (sI (sI M 10 9 (nI f)) 10 10 (nI m)) 10 8 (nI (if m - f ≤ 2 then 2 else 4)))) (fun j => diB (tb j) = true) (by omega) f ?_ ?_ ?_ (deT tb tl f) m1 (by unfold deT; omega) ?_ ?_
          · intro rc
            show b_X2_step_128 _ (sI (sI M 10 9 (nI f)) 10 10 (nI tl)) = _
            unfold b_X2_step_128
            rw [(hXj tl).2.1, e10, if_pos (nI_le (Nat.le_refl _) (by omega)), e167 tl hf h6]
          · intro rc j hfj hj hst
            show b_X2_step_128 _ (sI (sI M 10 9 (nI f)) 10 10 (nI j)) = _
            obtain ⟨b3, b4⟩ := xb (hXj j) hj
            unfold b_X2_step_128
            rw [(hXj j).2.1, e10, if_neg (nI_ge hj (by omega)), if_neg (by rw [(hXj j).1]; decide), gin_n (by omega) (by omega), ix_n (by omega), b3, (i8_all (tb j) b4).2.2.1, bn_s, hst, if_neg (by decide), e167 j hfj (by omega)]
          · intro rc j hfj hj hst
            show b_X2_step_128 _ (sI (sI M 10 9 (nI f)) 10 10 (nI j)) = rc (sI (sI M 10 9 (nI f)) 10 10 (nI (j + 1)))
            have hst' : diB (tb j) = false := by simpa using hst
            obtain ⟨b3, b4⟩ := xb (hXj j) hj
            unfold b_X2_step_128
            rw [(hXj j).2.1, e10, if_neg (nI_ge hj (by omega)), if_neg (by rw [(hXj j).1]; decide), gin_n (by omega) (by omega), ix_n (by omega), b3, (i8_all (tb j) b4).2.2.1, bn_s, hst', if_pos (by decide), nm_s, nI_add, sI_sI]
          · intro j a1 hj
            rw [m3 j a1 hj]; decide
          · intro z
            exact m4 (by unfold deT at z; omega)
        rw [e]
        exact fin _ _
      · have c2' : diB (tb f) = true := by simpa using c2
        have e209 : ∀ v, f_X2_step_209 (nI v) (sI (sI M 10 9 (nI f)) 10 10 (nI f)) = some (sI (sI (sI (sI M 10 9 (nI f)) 10 10 (nI f)) 10 8 (nI v)) 10 10 (nI (f + 1))) := by
          intro v
          unfold f_X2_step_209
          rw [nm_s, gI_sI, if_neg (by omega), e10, nI_add, nm_s]
        have fin2 : ∀ v : Nat, ∃ M', some (sI (sI (sI (sI M 10 9 (nI f)) 10 10 (nI f)) 10 8 (nI v)) 10 10 (nI (f + 1))) = some M' ∧ FSx M M' ∧ gI M' 10 9 = nI f ∧ gI M' 10 10 = nI (f + 1) ∧ gI M' 10 8 = nI v := fun v => ⟨_, rfl, FSx_tr (hFj f) (FSx_tr (FSx_sI _ (by omega)) (FSx_sI _ (by omega))), by rw [gI_sI, if_neg (by omega), gI_sI, if_neg (by omega), e9], by rw [gI_sI, if_pos ⟨rfl, rfl⟩], by rw [gI_sI, if_neg (by omega), gI_sI, if_pos ⟨rfl, rfl⟩]⟩
        rw [if_neg c2, if_neg c2, c2', if_neg (by decide), e209, e209]
        by_cases c3 : tb f = 59
        · rw [if_pos (i4.mpr c3), if_pos c3]
          exact fin2 3
        · rw [if_neg (fun z => c3 (i4.mp z)), if_neg c3]
          exact fin2 4
  · have cn : f = tl := by omega
    rw [if_neg c, if_pos cn, if_pos cn, ← cn]
    exact fin f 0
theorem step_v {i : Nat} (h : XTp tb tl M) (hi : i ≤ tl) (h10 : gI M 10 10 = nI i) : ∃ M', f_X2_step M = some M' ∧ FSx M M' ∧ XTk tb tl i M' := by
  have h6 := h.2.2.2
  obtain ⟨m1, m2, m3, m4⟩ := ff_v (fun j => blB (tb j)) (tl - i) i
  obtain ⟨a, b⟩ := tkF_b (tb := tb) hi
  have e : f_X2_step M = f_X2_step_31 (nI (tkF tb tl i)) M := by
    unfold f_X2_step
    rw [h10, nm_s]
    unfold f_X2_step_5
    refine lpU_fr (fun j => (nI j, M)) tl (fun m => f_X2_step_31 (nI m) M) (fun j => blB (tb j) = true) (by omega) i ?_ ?_ ?_ (tkF tb tl i) a b ?_ ?_
    · intro rc
      show b_X2_step_5 _ (nI tl) M = _
      unfold b_X2_step_5
      rw [h.2.1, if_pos (nI_le (Nat.le_refl _) (by omega))]
    · intro rc j hij hj hst
      show b_X2_step_5 _ (nI j) M = _
      obtain ⟨b3, b4⟩ := xb h hj
      unfold b_X2_step_5
      rw [h.2.1, if_neg (nI_ge hj (by omega)), if_neg (by rw [h.1]; decide), gin_n (by omega) (by omega), ix_n (by omega), b3, (i8_all (tb j) b4).2.2.2.1, bn_s, hst, if_neg (by decide)]
    · intro rc j hij hj hst
      show b_X2_step_5 _ (nI j) M = _
      have hst' : blB (tb j) = false := by simpa using hst
      obtain ⟨b3, b4⟩ := xb h hj
      unfold b_X2_step_5
      rw [h.2.1, if_neg (nI_ge hj (by omega)), if_neg (by rw [h.1]; decide), gin_n (by omega) (by omega), ix_n (by omega), b3, (i8_all (tb j) b4).2.2.2.1, bn_s, hst', if_pos (by decide), nI_add, nm_s]
    · intro j a1 hj
      rw [m3 j a1 hj]; decide
    · intro z
      exact m4 (by unfold tkF at z; omega)
  obtain ⟨M', g1, g2, g3, g4, g5⟩ := step31_v h b
  rw [e]
  exact ⟨M', g1, g2, XTp_F h g2, hi, g3, g4, g5⟩
end Tok
