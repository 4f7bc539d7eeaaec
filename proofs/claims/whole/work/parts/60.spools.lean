/-! SPOOLS: sets bit by bit on one side, sets by subsets on the other -/
def wnd (x st L : Nat) : Nat := if x % 100 + st ≤ L then x + st else x - x % 100 + 100 + st
def rmv (S x : Nat) : Nat := S &&& (x ^^^ 4294967295)
theorem rmv_tb {S x : Nat} (hS : S < 512) (o : Nat) : (rmv S x).testBit o = (S.testBit o && !x.testBit o) := by
  unfold rmv
  rw [Nat.testBit_and, Nat.testBit_xor]
  have e : (4294967295 : Nat).testBit o = decide (o < 32) := Nat.testBit_two_pow_sub_one 32 o
  rw [e]
  by_cases h : o < 32
  · rw [decide_eq_true h, Bool.xor_true]
  · have : S.testBit o = false := Nat.testBit_lt_two_pow (Nat.lt_of_lt_of_le hS (by
      have : 2 ^ 9 ≤ 2 ^ o := Nat.pow_le_pow_right (by omega) (by omega)
      omega))
    rw [this, Bool.false_and, Bool.false_and]
theorem rmv_le (S x : Nat) : rmv S x ≤ S := Nat.and_le_left
theorem rmv_lt {S x o : Nat} (hS : S < 512) (h1 : S.testBit o = true) (h2 : x.testBit o = true) : rmv S x < S := by
  have h := rmv_le S x
  have : rmv S x ≠ S := fun e => by
    have := rmv_tb (x := x) hS o
    rw [e, h1, h2] at this
    exact absurd this (by decide)
  omega
theorem rmv_0 {S w : Nat} (hS : S < 512) : (rmv S w = 0) = (∀ o, S.testBit o = true → w.testBit o = true) := sub_iff S w (by omega)
theorem not_r (a b : Nat) : nI a &&& (nI b ^^^ (-1)) = nI (rmv a b) := not_n a b
theorem tb_pw (s o : Nat) : (2 ^ s).testBit o = decide (s = o) := Nat.testBit_two_pow
theorem rmv_or {S s : Nat} (hS : S < 512) (h : S.testBit s = true) : rmv S (2 ^ s) ||| 2 ^ s = S := by
  apply Nat.eq_of_testBit_eq
  intro o
  rw [or_tb, rmv_tb hS, tb_pw]
  by_cases q : s = o
  · subst q; simp [h]
  · simp [q]
theorem rmv_s {S s : Nat} (hS : S < 512) : (rmv S (2 ^ s)).testBit s = false := by
  rw [rmv_tb hS, tb_pw]
  simp
theorem sb_iff (y S : Nat) : (y &&& S = y) = (∀ o, y.testBit o = true → S.testBit o = true) := by
  apply propext
  constructor
  · intro h o ho
    have : (y &&& S).testBit o = y.testBit o := by rw [h]
    rw [Nat.testBit_and, ho] at this
    simpa using this
  · intro h
    apply Nat.eq_of_testBit_eq
    intro o
    rw [Nat.testBit_and]
    cases q : y.testBit o with
    | false => rfl
    | true => rw [h o q]; rfl
theorem sb_dn : ∀ k x S y : Nat, x < 2 ^ k → x &&& S = x → y &&& S = y → y < x → y ≤ (x - 1) &&& S := by
  intro k
  induction k with
  | zero => intro x S y h1 h2 h3 h4; omega
  | succ k ih =>
    intro x S y h1 h2 h3 h4
    have e1 : x / 2 &&& S / 2 = x / 2 := by rw [← Nat.and_div_two, h2]
    have e2 : y / 2 &&& S / 2 = y / 2 := by rw [← Nat.and_div_two, h3]
    have e3 : ((x - 1) &&& S) / 2 = (x - 1) / 2 &&& S / 2 := Nat.and_div_two
    have p : 2 ^ (k + 1) = 2 * 2 ^ k := by rw [Nat.pow_succ, Nat.mul_comm]
    have m1 : ((x - 1) &&& S) % 2 = 1 ↔ (x - 1) % 2 = 1 ∧ S % 2 = 1 := Nat.and_mod_two_eq_one
    have m3 : (y &&& S) % 2 = 1 ↔ y % 2 = 1 ∧ S % 2 = 1 := Nat.and_mod_two_eq_one
    rw [h3] at m3
    by_cases c : x % 2 = 1
    · have e4 : (x - 1) / 2 = x / 2 := by omega
      rw [e4, e1] at e3
      omega
    · have e4 : (x - 1) / 2 = x / 2 - 1 := by omega
      rw [e4] at e3
      have i := ih (x / 2) (S / 2) (y / 2) (by omega) e1 e2 (by omega)
      rw [← e3] at i
      by_cases b : y % 2 = 1
      · have := m1.mpr ⟨by omega, (m3.mp b).2⟩
        omega
      · omega
theorem has_bit {S n : Nat} (h0 : 0 < S) (h : S < 2 ^ n) : ∃ s, s < n ∧ S.testBit s = true := by
  obtain ⟨s, hs⟩ := Nat.exists_testBit_of_ne_zero (x := S) (by omega)
  exact ⟨s, tb_lt h hs, hs⟩
theorem st_ins {C : CoatA} {S s : Nat} (h : S.testBit s = false) (n : Nat) : stS C (S ||| 2 ^ s) n = stS C S n + (if s < n then cSt C s else 0) := by
  have e := gS_add (fun t => if S.testBit t then cSt C t else 0) (fun t => if t = s then cSt C s else 0) n
  rw [gS_pick] at e
  unfold stS
  rw [← e]
  refine gS_cg n (fun i hi => ?_)
  rw [or_tb]
  by_cases q : i = s
  · subst q
    simp [h]
  · have : ¬ s = i := fun e => q e.symm
    simp [q, this]
theorem st_rmv {C : CoatA} {S s : Nat} (hS : S < 512) (h : S.testBit s = true) (hs : s < cN C) : stS C S (cN C) = stS C (rmv S (2 ^ s)) (cN C) + cSt C s := by
  have e := st_ins (C := C) (rmv_s (s := s) hS) (cN C)
  rw [rmv_or hS h, if_pos hs] at e
  exact e
theorem st_0 (C : CoatA) (n : Nat) : stS C 0 n = 0 := gS_0 n (fun i _ => by show (if (0 : Nat).testBit i = true then _ else 0) = 0; rw [Nat.zero_testBit]; rfl)
theorem wnd_le (x st L : Nat) : wnd x st L ≤ x + 100 + st := by
  unfold wnd
  split <;> omega
def CSp (C : CoatA) (L w : Nat) (t : Nat → Nat) (i : Nat) : Prop := t 0 = L ∧ ∀ S, 0 < S → S < i → rmv S w = 0 → t S ≤ 60 + 110 * S ∧ (∀ s, s < cN C → S.testBit s = true → t S ≤ wnd (t (rmv S (2 ^ s))) (cSt C s) L) ∧ ∃ s, s < cN C ∧ S.testBit s = true ∧ t S = wnd (t (rmv S (2 ^ s))) (cSt C s) L
theorem CSp_b {C : CoatA} {L w : Nat} {t : Nat → Nat} {i : Nat} (h : CSp C L w t i) (hL : L ≤ 60) {S : Nat} (hS : S < i) (h0 : rmv S w = 0) : t S ≤ 60 + 110 * S := by
  by_cases q : S = 0
  · subst q; rw [h.1]; omega
  · exact (h.2 S (by omega) hS h0).1
theorem sub_rm {S x w : Nat} (hS : S < 512) (h : rmv S w = 0) : rmv (rmv S x) w = 0 := by
  have := rmv_le S x
  rw [rmv_0 (by omega)]
  rw [rmv_0 hS] at h
  intro o ho
  rw [rmv_tb hS, Bool.and_eq_true] at ho
  exact h o ho.1
theorem CSp_up {C : CoatA} (hV : CV C) {L w : Nat} {t : Nat → Nat} {i v : Nat} (h : CSp C L w t i) (hL : L ≤ 60) (h1 : 1 ≤ i) (hi : i < 2 ^ cN C) (hr : rmv i w = 0 → (∀ s, s < cN C → i.testBit s = true → v ≤ wnd (t (rmv i (2 ^ s))) (cSt C s) L) ∧ (v = 1000000 ∨ ∃ s, s < cN C ∧ i.testBit s = true ∧ v = wnd (t (rmv i (2 ^ s))) (cSt C s) L)) : CSp C L w (fun j => if j = i then v else t j) (i + 1) := by
  have w2 := (pw9 (cN C) (by have := hV.1; omega)).2.1
  refine ⟨by show (if 0 = i then v else t 0) = L; rw [if_neg (by omega)]; exact h.1, fun S g1 g2 g3 => ?_⟩
  have e : ∀ s, S.testBit s = true → (if rmv S (2 ^ s) = i then v else t (rmv S (2 ^ s))) = t (rmv S (2 ^ s)) := fun s hs => if_neg (by
    have := rmv_lt (x := 2 ^ s) (by omega) hs (by rw [tb_pw]; simp)
    omega)
  show (if S = i then v else t S) ≤ _ ∧ (∀ s, s < cN C → S.testBit s = true → (if S = i then v else t S) ≤ wnd (if rmv S (2 ^ s) = i then v else t (rmv S (2 ^ s))) (cSt C s) L) ∧ ∃ s, s < cN C ∧ S.testBit s = true ∧ (if S = i then v else t S) = wnd (if rmv S (2 ^ s) = i then v else t (rmv S (2 ^ s))) (cSt C s) L
  by_cases q : S = i
  · subst q
    rw [if_pos rfl]
    obtain ⟨r1, r2⟩ := hr g3
    obtain ⟨s0, b1, b2⟩ := has_bit (by omega) hi
    have hv : v ≤ 60 + 110 * S := by
      have a1 := r1 s0 b1 b2
      have a2 := wnd_le (t (rmv S (2 ^ s0))) (cSt C s0) L
      have a3 := rmv_lt (x := 2 ^ s0) (by omega) b2 (by rw [tb_pw]; simp)
      have a4 := CSp_b h hL (S := rmv S (2 ^ s0)) a3 (sub_rm (by omega) g3)
      have a5 := (hV.2.2.1 s0 b1).1
      omega
    refine ⟨hv, fun s a b => by rw [e s b]; exact r1 s a b, ?_⟩
    rcases r2 with r2 | ⟨s, a, b, c⟩
    · omega
    · exact ⟨s, a, b, by rw [e s b]; exact c⟩
  · rw [if_neg q]
    obtain ⟨k1, k2, s, a, b, c⟩ := h.2 S g1 (by omega) g3
    exact ⟨k1, fun s a b => by rw [e s b]; exact k2 s a b, s, a, b, by rw [e s b]; exact c⟩
theorem wound_v {x st L : Nat} (hx : x < 2147480000) (hs : st < 100) (hL : L < 100) : f_X3_wound (nI x) (nI st) (nI L) = some (nI (wnd x st L)) := by
  have h1 := Nat.mod_lt x (show 0 < 100 by omega)
  have h2 := Nat.mod_le x 100
  unfold f_X3_wound wnd
  rw [gnz_n (by omega) (by omega), rem_n (by omega) (by omega) (by omega), nm_s, sub_n h2]
  simp only [nI_add]
  rw [ite_p (lt_n (by omega) (by omega))]
  by_cases c : x % 100 + st ≤ L
  · rw [if_neg (by omega), if_pos c]
  · rw [if_pos (by omega), if_neg c]
theorem fewestSpools_v {M : Mem} {o : Nat} {C : CoatA} {A P : Nat → Nat} (h : SQ M o C A P) {w L : Nat} (hw : w < 2 ^ cN C) (hL : L ≤ 60) : ∃ M' t, f_X3_fewestSpools M (nI w) (nI L) = some (nI (t w / 100), M') ∧ FK 17 (p1 8) M M' ∧ CSp C L w t (2 ^ cN C) := by
  have hV := h.2.2.2.1
  have hn := hV.1
  have h17 : gI M 17 1 = nI (cN C) := h.2.2.2.2.1
  obtain ⟨-, w2, w3⟩ := pw9 (cN C) (by omega)
  unfold f_X3_fewestSpools
  rw [gin_n (by omega) (by omega), ix0, nm_s]
  unfold f_X3_fewestSpools_9
  refine lpU_inv (fun i a => ∃ M' t, a = (nI i, M') ∧ 1 ≤ i ∧ FK 17 (p1 8) M M' ∧ (∀ j, j < i → gA M' 17 8 j = nI (t j)) ∧ CSp C L w t i) (2 ^ cN C) (fun x => ∃ M' t, x = some (nI (t w / 100), M') ∧ FK 17 (p1 8) M M' ∧ CSp C L w t (2 ^ cN C)) (by omega) ?_ ?_ 1 _ (by omega) ⟨_, fun _ => L, rfl, Nat.le_refl _, FK_sA M (p1_r 8), fun j hj => ?_, rfl, fun S h1 h2 => by omega⟩
  · rintro rc a ⟨M1, t, rfl, h1, hf, ht, hc⟩
    show ∃ M' t, b_X3_fewestSpools_9 (nI w) (nI L) _ (nI (2 ^ cN C)) M1 = _ ∧ _
    unfold b_X3_fewestSpools_9
    have hb := CSp_b hc hL hw (by rw [rmv_0 (by omega)]; exact fun o h => h)
    rw [hf.1, h17, shl1_n (by omega), if_pos (nI_le (Nat.le_refl _) (by omega)), if_neg (n_nneg (by omega)), if_pos (nI_lt (by omega) (by omega)), gin_n (by omega) (by omega), gnz_n (by omega) (by omega), ix_n (by omega), ht w hw, div_n (by omega) (by omega) (by omega)]
    exact ⟨M1, t, rfl, hf, hc⟩
  · rintro rc i a hi ⟨M1, t, rfl, h1, hf, ht, hc⟩
    refine Or.inr ?_
    show ∃ a', _ ∧ b_X3_fewestSpools_9 (nI w) (nI L) _ (nI i) M1 = _
    unfold b_X3_fewestSpools_9
    rw [hf.1, h17, shl1_n (by omega), if_neg (nI_ge hi (by omega)), gin_n (by omega) (by omega), ix_n (by omega), nm_s]
    unfold f_X3_fewestSpools_30
    refine lpU_inv (fun s a => ∃ M2 v, a = (nI s, M2) ∧ FK 17 (p1 8) M M2 ∧ (∀ j, j < i → gA M2 17 8 j = nI (t j)) ∧ gA M2 17 8 i = nI v ∧ v ≤ 1000000 ∧ (rmv i w = 0 → (∀ s', s' < s → i.testBit s' = true → v ≤ wnd (t (rmv i (2 ^ s'))) (cSt C s') L) ∧ (v = 1000000 ∨ ∃ s', s' < s ∧ i.testBit s' = true ∧ v = wnd (t (rmv i (2 ^ s'))) (cSt C s') L))) (cN C) (fun x => ∃ a', (∃ M' t, a' = (nI (i + 1), M') ∧ 1 ≤ i + 1 ∧ FK 17 (p1 8) M M' ∧ (∀ j, j < i + 1 → gA M' 17 8 j = nI (t j)) ∧ CSp C L w t (i + 1)) ∧ x = rc a') (by omega) ?_ ?_ 0 _ (Nat.zero_le _) ⟨_, 1000000, rfl, FK_tr hf (FK_sA _ (p1_r 8)), fun j hj => ?_, ?_, Nat.le_refl _, fun _ => ⟨fun s' hs' => by omega, Or.inl rfl⟩⟩
    · rintro rc2 a ⟨M2, v, rfl, hf2, ht2, hv, hv1, hr⟩
      show ∃ a', _ ∧ b_X3_fewestSpools_30 (nI w) (nI L) _ (nI i) _ (nI (cN C)) M2 = _
      unfold b_X3_fewestSpools_30
      rw [hf2.1, h17, if_pos (nI_le (Nat.le_refl _) (by omega)), nI_add, nm_s]
      refine ⟨_, ⟨M2, fun j => if j = i then v else t j, rfl, by omega, hf2, fun j hj => ?_, CSp_up hV hc hL h1 hi hr⟩, rfl⟩
      show gA M2 17 8 j = nI (if j = i then v else t j)
      by_cases q : j = i
      · rw [if_pos q, q]; exact hv
      · rw [if_neg q]; exact ht2 j (by omega)
    · rintro rc2 s a hs ⟨M2, v, rfl, hf2, ht2, hv, hv1, hr⟩
      refine Or.inr ?_
      show ∃ a', _ ∧ b_X3_fewestSpools_30 (nI w) (nI L) _ (nI i) _ (nI s) M2 = _
      unfold b_X3_fewestSpools_30 f_X3_fewestSpools_99
      have hX := (SQ_cg h hf2 rfl rfl).2.2.1
      have hst := (hV.2.2.1 s hs).1
      have hrl := rmv_le i w
      rw [hf2.1, h17, if_neg (nI_ge hs (by omega)), not_r, ite_p (eq_n (a := rmv i w) (b := 0) (by omega) (by omega)), ite_p (bit_n (by omega) (by omega)), nI_add, nm_s]
      by_cases c1 : rmv i w = 0
      · rw [if_pos c1]
        obtain ⟨r1, r2⟩ := hr c1
        by_cases c2 : i.testBit s = true
        · have b1 := rmv_lt (x := 2 ^ s) (by omega) c2 (by rw [tb_pw]; simp)
          have b2 := CSp_b hc hL (S := rmv i (2 ^ s)) b1 (sub_rm (by omega) c1)
          have b3 := wnd_le (t (rmv i (2 ^ s))) (cSt C s) L
          have hgR : gR M2 17 0 = o := by rw [hf2.2.1]; exact h.1
          rw [if_pos c2, shl1_n (by omega), not_r, gin_n (by omega) (by omega), gin_n (by omega) (by omega), gin_n (by omega) (by omega), ix_n (by omega), ix_n (by omega), ix_n (by omega), ht2 _ b1, hgR, (hX.2.2.1 s hs).1, wound_v (by omega) (by omega) (by omega), bn_s, hv, mn_n (by omega) (by omega), nm_s, gin_n (by omega) (by omega), nm_s]
          refine ⟨_, ⟨_, min v (wnd (t (rmv i (2 ^ s))) (cSt C s) L), rfl, FK_tr hf2 (FK_sA _ (p1_r 8)), fun j hj => ?_, ?_, Nat.le_trans (Nat.min_le_left _ _) hv1, fun _ => ⟨fun s' k1 k2 => ?_, ?_⟩⟩, rfl⟩
          · rw [gA_sA, if_neg (by omega)]; exact ht2 j hj
          · rw [gA_sA, if_pos ⟨rfl, rfl, rfl⟩]
          · by_cases q : s' = s
            · rw [q]; exact Nat.min_le_right _ _
            · exact Nat.le_trans (Nat.min_le_left _ _) (r1 s' (by omega) k2)
          · by_cases q : v ≤ wnd (t (rmv i (2 ^ s))) (cSt C s) L
            · rw [Nat.min_eq_left q]
              rcases r2 with r2 | ⟨s', k1, k2, k3⟩
              · exact Or.inl r2
              · exact Or.inr ⟨s', by omega, k2, k3⟩
            · rw [Nat.min_eq_right (by omega)]
              exact Or.inr ⟨s, by omega, c2, rfl⟩
        · rw [if_neg c2]
          refine ⟨_, ⟨M2, v, rfl, hf2, ht2, hv, hv1, fun _ => ⟨fun s' k1 k2 => ?_, ?_⟩⟩, rfl⟩
          · by_cases q : s' = s
            · rw [q] at k2; exact absurd k2 c2
            · exact r1 s' (by omega) k2
          · rcases r2 with r2 | ⟨s', k1, k2, k3⟩
            · exact Or.inl r2
            · exact Or.inr ⟨s', by omega, k2, k3⟩
      · rw [if_neg c1]
        exact ⟨_, ⟨M2, v, rfl, hf2, ht2, hv, hv1, fun z => absurd z c1⟩, rfl⟩
    · rw [gA_sA, if_neg (by omega)]; exact ht j hj
    · rw [gA_sA, if_pos ⟨rfl, rfl, rfl⟩]
  · rw [gA_sA, if_pos ⟨rfl, rfl, by omega⟩]
/-! the reference's table -/
def RSp (C : CoatA) (L : Nat) (f : Nat → Nat) (i : Nat) : Prop := f 0 = 0 ∧ ∀ S, 0 < S → S < i → f S ≤ 1000000 ∧ (∀ y, 0 < y → y &&& S = y → stS C y (cN C) ≤ L → f S ≤ 1 + f (rmv S y)) ∧ (f S = 1000000 ∨ ∃ y, 0 < y ∧ y &&& S = y ∧ stS C y (cN C) ≤ L ∧ f S = 1 + f (rmv S y))
theorem sb_lt {S y : Nat} (hS : S < 512) (h0 : 0 < y) (h : y &&& S = y) : rmv S y < S := by
  obtain ⟨o, ho⟩ := Nat.exists_testBit_of_ne_zero (x := y) (by omega)
  rw [sb_iff] at h
  exact rmv_lt hS (h o ho) ho
theorem RSp_up {C : CoatA} {L : Nat} {f : Nat → Nat} {i v : Nat} (h : RSp C L f i) (h1 : 1 ≤ i) (hi : i < 512) (hv : v ≤ 1000000) (r1 : ∀ y, 0 < y → y &&& i = y → stS C y (cN C) ≤ L → v ≤ 1 + f (rmv i y)) (r2 : v = 1000000 ∨ ∃ y, 0 < y ∧ y &&& i = y ∧ stS C y (cN C) ≤ L ∧ v = 1 + f (rmv i y)) : RSp C L (fun j => if j = i then v else f j) (i + 1) := by
  refine ⟨by show (if 0 = i then v else f 0) = 0; rw [if_neg (by omega)]; exact h.1, fun S g1 g2 => ?_⟩
  have e : ∀ y, 0 < y → y &&& S = y → (if rmv S y = i then v else f (rmv S y)) = f (rmv S y) := fun y a b => if_neg (by
    have := sb_lt (by omega) a b
    omega)
  show (if S = i then v else f S) ≤ _ ∧ (∀ y, 0 < y → y &&& S = y → stS C y (cN C) ≤ L → (if S = i then v else f S) ≤ 1 + (if rmv S y = i then v else f (rmv S y))) ∧ ((if S = i then v else f S) = 1000000 ∨ ∃ y, 0 < y ∧ y &&& S = y ∧ stS C y (cN C) ≤ L ∧ (if S = i then v else f S) = 1 + (if rmv S y = i then v else f (rmv S y)))
  by_cases q : S = i
  · subst q
    rw [if_pos rfl]
    refine ⟨hv, fun y a b c => by rw [e y a b]; exact r1 y a b c, ?_⟩
    rcases r2 with r2 | ⟨y, a, b, c, d⟩
    · exact Or.inl r2
    · exact Or.inr ⟨y, a, b, c, by rw [e y a b]; exact d⟩
  · rw [if_neg q]
    obtain ⟨k1, k2, k3⟩ := h.2 S g1 (by omega)
    refine ⟨k1, fun y a b c => by rw [e y a b]; exact k2 y a b c, ?_⟩
    rcases k3 with k3 | ⟨y, a, b, c, d⟩
    · exact Or.inl k3
    · exact Or.inr ⟨y, a, b, c, by rw [e y a b]; exact d⟩
theorem RSp_b {C : CoatA} {L : Nat} {f : Nat → Nat} {i : Nat} (h : RSp C L f i) {S : Nat} (hS : S < i) : f S ≤ 1000000 := by
  by_cases q : S = 0
  · subst q; rw [h.1]; omega
  · exact (h.2 S (by omega) hS).1
theorem spoolsT_v {M : Mem} {k : Nat} {C : CoatA} (hH : MH M k C) (hV : CV C) {L : Nat} (hL : L ≤ 60) (c : Int32) : ∃ M' f, FK 100 (p1 56) M M' ∧ RSp C L f (2 ^ cN C) ∧ (∀ j, j < 2 ^ cN C → gA M' 100 56 j = nI (f j)) ∧ f_X10_spools_34 c (nI L) FU (nI 1, sA M 100 56 0 (nI 0)) = f_X10_spools_130 c (nI L) FU (nI 0, nI 0, M') := by
  have hn := hV.1
  have h24 : gI M 100 24 = nI (cN C) := hH.2.2.1
  obtain ⟨-, w2, w3⟩ := pw9 (cN C) (by omega)
  unfold f_X10_spools_34
  refine lpU_inv (fun i a => ∃ M' f, a = (nI i, M') ∧ 1 ≤ i ∧ FK 100 (p1 56) M M' ∧ (∀ j, j < i → gA M' 100 56 j = nI (f j)) ∧ RSp C L f i) (2 ^ cN C) (fun x => ∃ M' f, FK 100 (p1 56) M M' ∧ RSp C L f (2 ^ cN C) ∧ (∀ j, j < 2 ^ cN C → gA M' 100 56 j = nI (f j)) ∧ x = f_X10_spools_130 c (nI L) FU (nI 0, nI 0, M')) (by omega) ?_ ?_ 1 _ (by omega) ⟨_, fun _ => 0, rfl, Nat.le_refl _, FK_sA M (p1_r 56), fun j hj => ?_, rfl, fun S h1 h2 => by omega⟩
  · rintro rc a ⟨M1, f, rfl, h1, hf, ht, hc⟩
    show ∃ M' f, _ ∧ _ ∧ _ ∧ b_X10_spools_34 c (nI L) _ (nI (2 ^ cN C)) M1 = _
    unfold b_X10_spools_34
    rw [hf.1, h24, shl1_n (by omega), if_pos (nI_le (Nat.le_refl _) (by omega))]
    exact ⟨M1, f, hf, hc, ht, rfl⟩
  · rintro rc i a hi ⟨M1, f, rfl, h1, hf, ht, hc⟩
    refine Or.inr ?_
    show ∃ a', _ ∧ b_X10_spools_34 c (nI L) _ (nI i) M1 = _
    unfold b_X10_spools_34
    rw [hf.1, h24, shl1_n (by omega), if_neg (nI_ge hi (by omega)), gin_n (by omega) (by omega), ix_n (by omega), nm_s]
    unfold f_X10_spools_56
    refine lpU_inv (fun st a => ∃ x M2 v, a = (nI x, M2) ∧ x + st ≤ 511 ∧ x &&& i = x ∧ FK 100 (p1 56) M M2 ∧ (∀ j, j < i → gA M2 100 56 j = nI (f j)) ∧ gA M2 100 56 i = nI v ∧ v ≤ 1000000 ∧ (∀ y, x < y → y &&& i = y → stS C y (cN C) ≤ L → v ≤ 1 + f (rmv i y)) ∧ (v = 1000000 ∨ ∃ y, 0 < y ∧ y &&& i = y ∧ stS C y (cN C) ≤ L ∧ v = 1 + f (rmv i y))) 511 (fun x => ∃ a', (∃ M' f, a' = (nI (i + 1), M') ∧ 1 ≤ i + 1 ∧ FK 100 (p1 56) M M' ∧ (∀ j, j < i + 1 → gA M' 100 56 j = nI (f j)) ∧ RSp C L f (i + 1)) ∧ x = rc a') (by omega) ?_ ?_ 0 _ (Nat.zero_le _) ⟨i, _, 1000000, rfl, by omega, Nat.and_self i, FK_tr hf (FK_sA _ (p1_r 56)), fun j hj => ?_, ?_, Nat.le_refl _, fun y k1 k2 => ?_, Or.inl rfl⟩
    · rintro rc2 a ⟨x, M2, v, rfl, hx, hxi, hf2, ht2, hv, hv1, hr1, hr2⟩
      have x0 : x = 0 := by omega
      subst x0
      show ∃ a', _ ∧ b_X10_spools_56 c (nI L) _ (nI i) _ (nI 0) M2 = _
      unfold b_X10_spools_56
      rw [if_pos (nI_le (Nat.le_refl _) (by omega)), nI_add, nm_s]
      refine ⟨_, ⟨M2, fun j => if j = i then v else f j, rfl, by omega, hf2, fun j hj => ?_, RSp_up hc h1 (by omega) hv1 hr1 hr2⟩, rfl⟩
      show gA M2 100 56 j = nI (if j = i then v else f j)
      by_cases q : j = i
      · rw [if_pos q, q]; exact hv
      · rw [if_neg q]; exact ht2 j (by omega)
    · rintro rc2 st a hs ⟨x, M2, v, rfl, hx, hxi, hf2, ht2, hv, hv1, hr1, hr2⟩
      show (∃ a', _ ∧ b_X10_spools_56 c (nI L) _ (nI i) _ (nI x) M2 = _) ∨ ∃ a', _ ∧ b_X10_spools_56 c (nI L) _ (nI i) _ (nI x) M2 = _
      by_cases x0 : x = 0
      · left
        subst x0
        unfold b_X10_spools_56
        rw [if_pos (nI_le (Nat.le_refl _) (by omega)), nI_add, nm_s]
        refine ⟨_, ⟨M2, fun j => if j = i then v else f j, rfl, by omega, hf2, fun j hj => ?_, RSp_up hc h1 (by omega) hv1 hr1 hr2⟩, rfl⟩
        show gA M2 100 56 j = nI (if j = i then v else f j)
        by_cases q : j = i
        · rw [if_pos q, q]; exact hv
        · rw [if_neg q]; exact ht2 j (by omega)
      · right
        have hH2 := MH_FK hH hf2 rfl
        have hxl : x ≤ i := by rw [← hxi]; exact Nat.and_le_right
        have hst := st_le hV x (Nat.le_refl _)
        have hz : (x - 1) &&& i ≤ x - 1 := Nat.and_le_left
        have hdn : ∀ y, (x - 1) &&& i < y → y &&& i = y → y = x ∨ x < y := fun y a b => by
          by_cases q : y < x
          · have := sb_dn 9 x i y (by omega) hxi b q
            omega
          · omega
        have hzs : ((x - 1) &&& i) &&& i = (x - 1) &&& i := by rw [Nat.and_assoc, Nat.and_self]
        unfold b_X10_spools_56 f_X10_spools_107
        rw [if_neg (nI_ge (by omega) (by omega)), stitches_v hH2 hV (by omega), bn_s, ite_p (lt_n (by omega) (by omega)), gin_n (by omega) (by omega), gin_n (by omega) (by omega), sub_n (show 1 ≤ x by omega), and_n]
        by_cases c1 : L < stS C x (cN C)
        · rw [if_pos c1, nm_s, nm_s, ix_n (by omega)]
          refine ⟨_, ⟨(x - 1) &&& i, _, v, rfl, by omega, hzs, FK_tr hf2 (FK_sA _ (p1_r 56)), fun j hj => ?_, ?_, hv1, fun y k1 k2 k3 => ?_, hr2⟩, rfl⟩
          · rw [gA_sA, if_neg (by omega)]; exact ht2 j hj
          · rw [gA_sA, if_pos ⟨rfl, rfl, rfl⟩]; exact hv
          · rcases hdn y k1 k2 with q | q
            · rw [q] at k3; omega
            · exact hr1 y q k2 k3
        · have b1 := sb_lt (S := i) (y := x) (by omega) (by omega) hxi
          have b2 := RSp_b hc b1
          rw [if_neg c1, not_r, gin_n (by omega) (by omega), gin_n (by omega) (by omega), ix_n (by omega), ix_n (by omega), ht2 _ b1, hv, nI_add, lesser_n (by omega) (by omega), bn_s, gin_n (by omega) (by omega), nm_s, nm_s]
          refine ⟨_, ⟨(x - 1) &&& i, _, min v (1 + f (rmv i x)), rfl, by omega, hzs, FK_tr hf2 (FK_sA _ (p1_r 56)), fun j hj => ?_, ?_, Nat.le_trans (Nat.min_le_left _ _) hv1, fun y k1 k2 k3 => ?_, ?_⟩, rfl⟩
          · rw [gA_sA, if_neg (by omega)]; exact ht2 j hj
          · rw [gA_sA, if_pos ⟨rfl, rfl, rfl⟩]
          · rcases hdn y k1 k2 with q | q
            · rw [q]; exact Nat.min_le_right _ _
            · exact Nat.le_trans (Nat.min_le_left _ _) (hr1 y q k2 k3)
          · by_cases q : v ≤ 1 + f (rmv i x)
            · rw [Nat.min_eq_left q]; exact hr2
            · rw [Nat.min_eq_right (by omega)]
              exact Or.inr ⟨x, by omega, hxi, by omega, rfl⟩
    · rw [gA_sA, if_neg (by omega)]; exact ht j hj
    · rw [gA_sA, if_pos ⟨rfl, rfl, rfl⟩]
    · have : y ≤ i := by rw [← k2]; exact Nat.and_le_right
      omega
  · rw [gA_sA, if_pos ⟨rfl, rfl, by omega⟩]
/-! both tables tell the same -/
theorem sp_A {C : CoatA} (hV : CV C) {L w : Nat} {t f : Nat → Nat} (hL : L ≤ 60) (hc : CSp C L w t (2 ^ cN C)) (hf : RSp C L f (2 ^ cN C)) : ∀ S, 0 < S → S < 2 ^ cN C → rmv S w = 0 → (∀ s, s < cN C → S.testBit s = true → cSt C s ≤ L) → ∃ y, 0 < y ∧ y &&& S = y ∧ stS C y (cN C) = t S % 100 ∧ stS C y (cN C) ≤ L ∧ 1 + f (rmv S y) ≤ t S / 100 := by
  have w2 := (pw9 (cN C) (by have := hV.1; omega)).2.1
  intro S
  induction S using Nat.strongRecOn with
  | _ S ih =>
    intro h0 h1 h2 h3
    obtain ⟨k1, k2, s, a, b, c⟩ := hc.2 S h0 h1 h2
    have hst := (hV.2.2.1 s a).1
    have hsl := h3 s a b
    have hb : (2 ^ s).testBit s = true := by rw [tb_pw]; simp
    have hlt := rmv_lt (S := S) (x := 2 ^ s) (by omega) b hb
    have hsub := sub_rm (x := 2 ^ s) (show S < 512 by omega) h2
    have hp := pow9_lt (n := cN C) (s := s) hV.1 a
    have hone : (2 ^ s) &&& S = 2 ^ s := by
      rw [sb_iff]
      intro o ho
      rw [tb_pw, decide_eq_true_eq] at ho
      rw [← ho]; exact b
    have hw1 : stS C (2 ^ s) (cN C) = cSt C s := by
      have e := st_ins (C := C) (S := 0) (s := s) (Nat.zero_testBit s) (cN C)
      rw [Nat.zero_or, st_0, if_pos a, Nat.zero_add] at e
      exact e
    by_cases z : rmv S (2 ^ s) = 0
    · refine ⟨2 ^ s, hp.2, hone, ?_, by omega, ?_⟩
      · rw [hw1, c, z, hc.1]
        unfold wnd
        rw [if_neg (by omega)]
        omega
      · rw [c, z, hf.1, hc.1]
        unfold wnd
        rw [if_neg (by omega)]
        omega
    · obtain ⟨y, g1, g2, g3, g4, g5⟩ := ih (rmv S (2 ^ s)) hlt (by omega) (by omega) hsub (fun s' a' b' => by
        rw [rmv_tb (by omega), Bool.and_eq_true] at b'
        exact h3 s' a' b'.1)
      rw [sb_iff] at g2
      have ys : y.testBit s = false := by
        cases q : y.testBit s with
        | false => rfl
        | true => have := g2 s q; rw [rmv_s (by omega)] at this; exact absurd this (by decide)
      by_cases d : t (rmv S (2 ^ s)) % 100 + cSt C s ≤ L
      · have e : t S = t (rmv S (2 ^ s)) + cSt C s := by rw [c]; unfold wnd; rw [if_pos d]
        refine ⟨y ||| 2 ^ s, ?_, ?_, ?_, ?_, ?_⟩
        · have : 2 ^ s ≤ y ||| 2 ^ s := Nat.right_le_or
          omega
        · rw [sb_iff]
          intro o ho
          rw [or_tb, Bool.or_eq_true, decide_eq_true_eq] at ho
          rcases ho with ho | ho
          · have := g2 o ho
            rw [rmv_tb (by omega), Bool.and_eq_true] at this
            exact this.1
          · rw [← ho]; exact b
        · rw [st_ins ys, if_pos a, g3, e]; omega
        · rw [st_ins ys, if_pos a, g3]; exact d
        · have er : rmv S (y ||| 2 ^ s) = rmv (rmv S (2 ^ s)) y := by
            apply Nat.eq_of_testBit_eq
            intro o
            rw [rmv_tb (by omega), rmv_tb (by omega), rmv_tb (by omega), or_tb, tb_pw]
            cases S.testBit o <;> cases y.testBit o <;> cases decide (s = o) <;> rfl
          rw [er, e]
          omega
      · have e : t S = t (rmv S (2 ^ s)) - t (rmv S (2 ^ s)) % 100 + 100 + cSt C s := by rw [c]; unfold wnd; rw [if_neg d]
        have g6 := (hf.2 (rmv S (2 ^ s)) (by omega) (by omega)).2.1 y g1 (by rw [sb_iff]; exact g2) g4
        refine ⟨2 ^ s, hp.2, hone, ?_, by omega, ?_⟩
        · rw [hw1, e]; omega
        · rw [e]; omega
theorem sp_md {C : CoatA} (hV : CV C) {L w : Nat} {t f : Nat → Nat} (hL : L ≤ 60) (hc : CSp C L w t (2 ^ cN C)) (hf : RSp C L f (2 ^ cN C)) {S : Nat} (h1 : S < 2 ^ cN C) (h2 : rmv S w = 0) (h3 : ∀ s, s < cN C → S.testBit s = true → cSt C s ≤ L) : t S % 100 ≤ L := by
  by_cases q : S = 0
  · subst q; rw [hc.1]; exact Nat.mod_le _ _
  · obtain ⟨y, -, -, a, b, -⟩ := sp_A hV hL hc hf S (by omega) h1 h2 h3
    omega
theorem sp_B1 {C : CoatA} (hV : CV C) {L w : Nat} {t f : Nat → Nat} (hL : L ≤ 60) (hc : CSp C L w t (2 ^ cN C)) (hf : RSp C L f (2 ^ cN C)) (h3 : ∀ s, s < cN C → w.testBit s = true → cSt C s ≤ L) (hw : w < 512) {R K : Nat} (hR : R < 2 ^ cN C) (hRw : rmv R w = 0) (hK : t R ≤ 100 * K + L) : ∀ y, 0 < y → y < 2 ^ cN C → rmv y w = 0 → (∀ o, y.testBit o = true → R.testBit o = false) → stS C y (cN C) ≤ L → t (R ||| y) ≤ 100 * (K + 1) + stS C y (cN C) := by
  have w2 := (pw9 (cN C) (by have := hV.1; omega)).2.1
  intro y
  induction y using Nat.strongRecOn with
  | _ y ih =>
    intro h0 h1 h2 h4 h5
    obtain ⟨s, a, b⟩ := has_bit h0 h1
    have hst := (hV.2.2.1 s a).1
    have hb : (2 ^ s).testBit s = true := by rw [tb_pw]; simp
    have hlt := rmv_lt (S := y) (x := 2 ^ s) (by omega) b hb
    have hsub := sub_rm (x := 2 ^ s) (show y < 512 by omega) h2
    have hor : ∀ z, z < 2 ^ cN C → R ||| z < 2 ^ cN C := fun z hz => Nat.or_lt_two_pow hR hz
    have hos := hor y h1
    have hRw2 := hRw
    have hyw2 := h2
    rw [rmv_0 (by omega)] at hRw2 hyw2
    have hsw : rmv (R ||| y) w = 0 := by
      rw [rmv_0 (by omega)]
      intro o ho
      rw [Nat.testBit_or, Bool.or_eq_true] at ho
      exact ho.elim (hRw2 o) (hyw2 o)
    have hbo : (R ||| y).testBit s = true := by rw [Nat.testBit_or, b, Bool.or_true]
    have k2 := (hc.2 (R ||| y) (by have : y ≤ R ||| y := Nat.right_le_or; omega) hos hsw).2.1 s a hbo
    have er : rmv (R ||| y) (2 ^ s) = R ||| rmv y (2 ^ s) := by
      apply Nat.eq_of_testBit_eq
      intro o
      rw [rmv_tb (by omega), Nat.testBit_or, Nat.testBit_or, rmv_tb (by omega), tb_pw]
      by_cases q : s = o
      · subst q
        rw [h4 s b]
        simp
      · simp [q]
    rw [er] at k2
    have e := st_rmv (C := C) (S := y) (s := s) (by omega) b a
    have hsl : ∀ S, rmv S w = 0 → S < 2 ^ cN C → ∀ s, s < cN C → S.testBit s = true → cSt C s ≤ L := fun S q q2 s a b => by
      rw [rmv_0 (by omega)] at q
      exact h3 s a (q s b)
    by_cases z : rmv y (2 ^ s) = 0
    · rw [z, Nat.or_zero] at k2
      rw [z, st_0] at e
      have hm := sp_md hV hL hc hf hR hRw (hsl R hRw hR)
      unfold wnd at k2
      split at k2 <;> omega
    · have hz := rmv_le y (2 ^ s)
      have i := ih (rmv y (2 ^ s)) hlt (by omega) (by omega) hsub (fun o ho => by
        rw [rmv_tb (by omega), Bool.and_eq_true] at ho
        exact h4 o ho.1) (by omega)
      have hzs : rmv (R ||| rmv y (2 ^ s)) w = 0 := by
        have := hor (rmv y (2 ^ s)) (by omega)
        rw [rmv_0 (by omega)]
        intro o ho
        rw [Nat.testBit_or, Bool.or_eq_true, rmv_tb (by omega), Bool.and_eq_true] at ho
        exact ho.elim (hRw2 o) (fun q => hyw2 o q.1)
      have hm := sp_md hV hL hc hf (hor (rmv y (2 ^ s)) (by omega)) hzs (hsl _ hzs (hor (rmv y (2 ^ s)) (by omega)))
      unfold wnd at k2
      split at k2 <;> omega
theorem sp_eq {C : CoatA} (hV : CV C) {L w : Nat} {t f : Nat → Nat} (hL : L ≤ 60) (hc : CSp C L w t (2 ^ cN C)) (hf : RSp C L f (2 ^ cN C)) (h3 : ∀ s, s < cN C → w.testBit s = true → cSt C s ≤ L) (hw : w < 2 ^ cN C) : t w / 100 = f w := by
  have w2 := (pw9 (cN C) (by have := hV.1; omega)).2.1
  have key : ∀ S, S < 2 ^ cN C → rmv S w = 0 → t S ≤ 100 * f S + L ∧ f S ≤ t S / 100 := by
    intro S
    induction S using Nat.strongRecOn with
    | _ S ih =>
      intro h1 h2
      by_cases q : S = 0
      · subst q
        rw [hc.1, hf.1]
        exact ⟨by omega, Nat.zero_le _⟩
      · have h2' := h2
        rw [rmv_0 (by omega)] at h2'
        have h4 : ∀ s, s < cN C → S.testBit s = true → cSt C s ≤ L := fun s a b => h3 s a (h2' s b)
        obtain ⟨y, g1, g2, g3, g4, g5⟩ := sp_A hV hL hc hf S (by omega) h1 h2 h4
        obtain ⟨k1, k2, k3⟩ := hf.2 S (by omega) h1
        have k4 := k2 y g1 g2 g4
        have k5 := (hc.2 S (by omega) h1 h2).1
        refine ⟨?_, by omega⟩
        rcases k3 with k3 | ⟨x, a, b, c, d⟩
        · omega
        · have hlt := sb_lt (S := S) (by omega) a b
          have hx : x ≤ S := by rw [← b]; exact Nat.and_le_right
          have b2 := b
          rw [sb_iff] at b2
          have hxw : rmv x w = 0 := by
            rw [rmv_0 (by omega)]
            exact fun o ho => h2' o (b2 o ho)
          have i := (ih (rmv S x) hlt (by omega) (sub_rm (by omega) h2)).1
          have j := sp_B1 hV hL hc hf h3 (by omega) (R := rmv S x) (K := f (rmv S x)) (by omega) (sub_rm (by omega) h2) i x a (by omega) hxw (fun o ho => by rw [rmv_tb (by omega), ho]; simp) c
          have e : rmv S x ||| x = S := by
            apply Nat.eq_of_testBit_eq
            intro o
            rw [Nat.testBit_or, rmv_tb (by omega)]
            cases q : x.testBit o with
            | false => simp
            | true => rw [b2 o q]; rfl
          rw [e] at j
          omega
  have := key w hw (by rw [rmv_0 (by omega)]; exact fun o h => h)
  omega
theorem sp_far {C : CoatA} (hV : CV C) {L : Nat} {f : Nat → Nat} (hf : RSp C L f (2 ^ cN C)) {s : Nat} (hs : s < cN C) (hl : L < cSt C s) : ∀ S, S < 2 ^ cN C → S.testBit s = true → f S = 1000000 := by
  have w2 := (pw9 (cN C) (by have := hV.1; omega)).2.1
  intro S
  induction S using Nat.strongRecOn with
  | _ S ih =>
    intro h1 h2
    have h0 : 0 < S := by
      by_cases q : S = 0
      · subst q; rw [Nat.zero_testBit] at h2; exact absurd h2 (by decide)
      · omega
    obtain ⟨k1, -, k3⟩ := hf.2 S h0 h1
    rcases k3 with k3 | ⟨x, a, b, c, d⟩
    · exact k3
    · have hlt := sb_lt (S := S) (by omega) a b
      have hx : x ≤ S := by rw [← b]; exact Nat.and_le_right
      have : x.testBit s = false := by
        cases q : x.testBit s with
        | false => rfl
        | true => have := st_rmv (C := C) (S := x) (s := s) (by omega) q hs; omega
      have i := ih (rmv S x) hlt (by omega) (by rw [rmv_tb (by omega), h2, this]; rfl)
      omega
/-! by colours -/
def coS (C : CoatA) (c : Nat) : Nat → Nat := dS (fun s => if cCo C s = c then 1 else 0) 1
theorem coS_s (C : CoatA) (c s : Nat) : coS C c (s + 1) = if cCo C s = c then coS C c s ||| 2 ^ s else coS C c s := by
  unfold coS
  show (if 0 < (if cCo C s = c then 1 else 0) ∧ (if cCo C s = c then 1 else 0) ≤ 1 then _ else _) = _
  by_cases q : cCo C s = c
  · simp [q]
  · simp [q]
theorem coS_lt (C : CoatA) (c n : Nat) : coS C c n < 2 ^ n := dS_lt _ _ n n (Nat.le_refl _)
theorem coS_tb (C : CoatA) (c n o : Nat) : (coS C c n).testBit o = true ↔ o < n ∧ cCo C o = c := by
  unfold coS
  rw [dS_tb]
  by_cases q : cCo C o = c
  · simp [q]
  · simp [q]
theorem seamsOf_v {M : Mem} {o : Nat} {C : CoatA} (hX : CX M o C) (hV : CV C) {c : Nat} (hc : c < 4) : f_X0_seamsOf M o (nI c) = some (nI (coS C c (cN C))) := by
  have hn := hV.1
  unfold f_X0_seamsOf f_X0_seamsOf_4
  refine lpU_for (fun s => (nI (coS C c s), nI s)) (cN C) _ (by omega) 0 (Nat.zero_le _) ?_ ?_
  · intro rc
    show b_X0_seamsOf_4 M o (nI c) _ _ (nI (cN C)) = _
    unfold b_X0_seamsOf_4
    rw [hX.1, if_pos (nI_le (Nat.le_refl _) (by omega))]
  · intro rc s _ hs
    have h3 := (hV.2.2.1 s hs).2.1
    rw [coS_s]
    show b_X0_seamsOf_4 M o (nI c) _ _ (nI s) = _
    unfold b_X0_seamsOf_4 f_X0_seamsOf_28
    rw [hX.1, if_neg (nI_ge hs (by omega)), gin_n (by omega) (by omega), ix_n (by omega), (hX.2.2.1 s hs).2.1, ite_p (eq_n (by omega) (by omega)), or_nI (by omega), nI_add, nm_s, nm_s, nm_s]
    by_cases q : cCo C s = c
    · rw [if_pos q, if_pos q]
    · rw [if_neg q, if_neg q]
theorem ofColour_v {M : Mem} {k : Nat} {C : CoatA} (hH : MH M k C) (hV : CV C) {c : Nat} (hc : c < 4) : f_X10_ofColour M (nI c) = some (nI (coS C c (cN C))) := by
  have hn := hV.1
  have h24 := hH.2.2.1
  obtain ⟨hk, y0, -, -, -, -, m2, -⟩ := hH
  unfold f_X10_ofColour f_X10_ofColour_4
  refine lpU_for (fun s => (nI (coS C c s), nI s)) (cN C) _ (by omega) 0 (Nat.zero_le _) ?_ ?_
  · intro rc
    show b_X10_ofColour_4 M (nI c) _ _ (nI (cN C)) = _
    unfold b_X10_ofColour_4
    rw [h24, if_pos (nI_le (Nat.le_refl _) (by omega))]
  · intro rc s _ hs
    have h3 := (hV.2.2.1 s hs).2.1
    rw [coS_s]
    show b_X10_ofColour_4 M (nI c) _ _ (nI s) = _
    unfold b_X10_ofColour_4 f_X10_ofColour_32
    rw [h24, if_neg (nI_ge hs (by omega)), nI_add, of_v y0 hk (by omega), (m2 s hs).2.1, bn_s, ite_p (eq_n (by omega) (by omega)), or_nI (by omega), nI_add, nm_s, nm_s, or_n, Nat.or_zero, nm_s, nm_s]
    by_cases q : cCo C s = c
    · rw [if_pos q, if_pos q]
    · rw [if_neg q, if_neg q]
theorem longestSeam_v {M : Mem} {o : Nat} {C : CoatA} (hX : CX M o C) (hV : CV C) : f_X0_longestSeam M o = some (nI (mxS (fun _ => true) (cSt C) (cN C))) := by
  have hn := hV.1
  have hb : ∀ s, s ≤ cN C → mxS (fun _ => true) (cSt C) s ≤ 9 := fun s hs => mxS_le s (fun i hi _ => by have := (hV.2.2.1 i (by omega)).1; omega)
  unfold f_X0_longestSeam f_X0_longestSeam_4
  refine lpU_for (fun s => (nI (mxS (fun _ => true) (cSt C) s), nI s)) (cN C) _ (by omega) 0 (Nat.zero_le _) ?_ ?_
  · intro rc
    show b_X0_longestSeam_4 M o _ _ (nI (cN C)) = _
    unfold b_X0_longestSeam_4
    rw [hX.1, if_pos (nI_le (Nat.le_refl _) (by omega))]
  · intro rc s _ hs
    have h3 := (hV.2.2.1 s hs).1
    have h4 := hb s (by omega)
    show b_X0_longestSeam_4 M o _ (nI (mxS (fun _ => true) (cSt C) s)) (nI s) = rc (nI (if true = true then max (mxS (fun _ => true) (cSt C) s) (cSt C s) else _), nI (s + 1))
    unfold b_X0_longestSeam_4
    rw [hX.1, if_neg (nI_ge hs (by omega)), gin_n (by omega) (by omega), ix_n (by omega), (hX.2.2.1 s hs).1, mx_n (by omega) (by omega), nI_add, nm_s, nm_s, if_pos rfl]
theorem spoolsX_v {M : Mem} {o : Nat} {C : CoatA} {A P : Nat → Nat} (h : SQ M o C A P) {L : Nat} (hL : L ≤ 60) {f : Nat → Nat} (hf : RSp C L f (2 ^ cN C)) (h3 : ∀ s, s < cN C → cSt C s ≤ L) (c : Int32) : ∃ M', f_X9_spools_45 c (nI L) o FU (nI 0, nI 0, M) = some (nI (gSum (fun c => f (coS C c (cN C))) 4), M') ∧ FK 17 (p1 8) M M' := by
  unfold f_X9_spools_45
  have hV := h.2.2.2.1
  refine lpU_inv (fun i a => ∃ M', a = (nI (gSum (fun c => f (coS C c (cN C))) i), nI i, M') ∧ FK 17 (p1 8) M M') 4 (fun x => ∃ M', x = some (nI (gSum (fun c => f (coS C c (cN C))) 4), M') ∧ FK 17 (p1 8) M M') (by omega) ?_ ?_ 0 _ (Nat.zero_le _) ⟨M, rfl, FK_rf M⟩
  · rintro rc a ⟨M1, rfl, hf1⟩
    show ∃ M', b_X9_spools_45 c (nI L) o _ _ (nI 4) M1 = _ ∧ _
    unfold b_X9_spools_45
    rw [if_pos (nI_le (Nat.le_refl _) (by omega))]
    exact ⟨M1, rfl, hf1⟩
  · rintro rc i a hi ⟨M1, rfl, hf1⟩
    refine Or.inr ?_
    show ∃ a', _ ∧ b_X9_spools_45 c (nI L) o _ _ (nI i) M1 = _
    unfold b_X9_spools_45
    have hS := SQ_cg h hf1 rfl rfl
    have hcl := coS_lt C i (cN C)
    obtain ⟨M2, t, g1, g2, g3⟩ := fewestSpools_v hS hcl hL
    have e := sp_eq hV hL g3 hf (fun s a _ => h3 s a) hcl
    rw [if_neg (nI_ge hi (by omega)), seamsOf_v hS.2.2.1 hV hi, bn_s, g1, bp_s, e, nI_add, nI_add, nm_s, nm_s]
    exact ⟨_, ⟨M2, rfl, FK_tr hf1 g2⟩, rfl⟩
theorem spools130_v {M : Mem} {k : Nat} {C : CoatA} (hH : MH M k C) (hV : CV C) {f : Nat → Nat} (hb : ∀ S, S < 2 ^ cN C → f S ≤ 1000000) (hT : ∀ j, j < 2 ^ cN C → gA M 100 56 j = nI (f j)) (c d : Int32) : f_X10_spools_130 c d FU (nI 0, nI 0, M) = some (if gSum (fun c => f (coS C c (cN C))) 4 < 1000000 then nI (gSum (fun c => f (coS C c (cN C))) 4) else -1, M) := by
  have w2 := (pw9 (cN C) (by have := hV.1; omega)).2.1
  have hs : ∀ i, i ≤ 4 → gSum (fun c => f (coS C c (cN C))) i ≤ i * 1000000 := by
    intro i _
    have := gS_le (f := fun c => f (coS C c (cN C))) (g := fun _ => 1000000) i (fun j _ => hb _ (coS_lt C j (cN C)))
    rw [gS_const] at this
    exact this
  unfold f_X10_spools_130
  refine lpU_for (fun i => (nI (gSum (fun c => f (coS C c (cN C))) i), nI i, M)) 4 _ (by omega) 0 (Nat.zero_le _) ?_ ?_
  · intro rc
    have := hs 4 (by omega)
    show b_X10_spools_130 c d _ _ (nI 4) M = _
    unfold b_X10_spools_130
    rw [if_pos (nI_le (Nat.le_refl _) (by omega)), ite_p (lt_n (by omega) (by omega))]
    split <;> rfl
  · intro rc i _ hi
    have hcl := coS_lt C i (cN C)
    show b_X10_spools_130 c d _ _ (nI i) M = _
    unfold b_X10_spools_130
    rw [if_neg (nI_ge hi (by omega)), ofColour_v hH hV hi, bn_s, gin_n (by omega) (by omega), ix_n (by omega), hT _ hcl, nI_add, nI_add, nm_s, nm_s]
    rfl
theorem q_spools {Mx Mm : Mem} (H : Rl Mx Mm) (a w : Int32) : EqI Mx Mm (f_X9_spools Mx a w) (f_X10_spools Mm a w) := by
  have h0 := FM_sI Mm (o := 100) (k := 0) (v := nI 0)
  unfold f_X9_spools f_X10_spools
  rw [nm_s]
  rcases coat_cases H a with ⟨e1, e2⟩ | ⟨k, C, hk, rfl, hV, hX, hM, e1, e2⟩
  · rw [e1, bn_s, opt_none]
    rcases int_cases w with hw | ⟨L, hw, rfl⟩
    · rw [in_neg hw 1 (by omega)]
      exact ⟨_, _, _, rfl, rfl, Rl_fr H (FX_rf Mx) h0⟩
    · rw [in_n hw (by omega) (by omega), bn_s]
      by_cases c : 1 ≤ L ∧ L ≤ 60
      · rw [if_pos (dT c), e2 _ h0]
        exact ⟨_, _, _, rfl, rfl, Rl_fr H (FX_rf Mx) h0⟩
      · rw [if_neg (dF c)]
        exact ⟨_, _, _, rfl, rfl, Rl_fr H (FX_rf Mx) h0⟩
  · rw [e1, bn_s, opt_some]
    rcases int_cases w with hw | ⟨L, hw, rfl⟩
    · rw [in_neg hw 1 (by omega), if_pos (neg_lt hw 1 (by omega))]
      exact ⟨_, _, _, rfl, rfl, Rl_fr H (FX_rf Mx) h0⟩
    rw [in_n hw (by omega) (by omega), bn_s, ite_p (lt_n hw (by omega)), ite_p (lt_n (by omega) hw)]
    by_cases c : 1 ≤ L ∧ L ≤ 60
    · have hH := mh_MH (M := sI Mm 100 0 (nI 0)) hk (CM_cg rfl hM)
      have hF := FM_tr h0 (FM_mh (sI Mm 100 0 (nI 0)) k C)
      have hn := hV.1
      have w2 := (pw9 (cN C) (by omega)).2.1
      obtain ⟨M2, f, g1, g2, g3, g4⟩ := spoolsT_v hH hV (L := L) (by omega) (nI k)
      have hF2 := FM_tr hF (FM_p g1 (by omega))
      have hm9 : mxS (fun _ => true) (cSt C) (cN C) ≤ 9 := mxS_le _ (fun i hi _ => by have := (hV.2.2.1 i (by omega)).1; omega)
      rw [if_pos (dT c), if_neg (by omega), if_neg (by omega), e2 _ h0, bp_s, if_pos rfl, gin_n (by omega) (by omega), ix0, nm_s, longestSeam_v hX hV, bn_s, ite_p (le_n (by omega) (by omega)), g4, spools130_v (MH_FK hH g1 rfl) hV (fun S hS => RSp_b g2 hS) g3]
      by_cases d : mxS (fun _ => true) (cSt C) (cN C) ≤ L
      · have h3 : ∀ s, s < cN C → cSt C s ≤ L := fun s hs => Nat.le_trans (mxS_ge (p := fun _ => true) rfl (cN C) hs) d
        obtain ⟨M3, k1, k2⟩ := spoolsX_v (tk_SQ hX hV (by omega)) (L := L) (by omega) g2 h3 (nI k)
        have hlt : gSum (fun c => f (coS C c (cN C))) 4 < 1000000 := by
          have hfb : ∀ S, S < 2 ^ cN C → f S ≤ 563 := by
            intro S hS
            obtain ⟨M4, t, -, -, g⟩ := fewestSpools_v (tk_SQ (M := Mx) hX hV (by omega)) hS (L := L) (by omega)
            have e := sp_eq hV (by omega) g g2 (fun s a _ => h3 s a) hS
            have b := CSp_b g (by omega) hS (by rw [rmv_0 (by omega)]; exact fun o h => h)
            omega
          have := gS_le (f := fun c => f (coS C c (cN C))) (g := fun _ => 563) 4 (fun j _ => hfb _ (coS_lt C j (cN C)))
          rw [gS_const] at this
          omega
        rw [if_pos d, take_v hX, bn_s, k1, if_pos hlt]
        exact ⟨_, _, _, rfl, rfl, Rl_fr H (FX_tr (FX_tk Mx (2 + k) C) (FKX k2)) hF2⟩
      · have hlt : ¬ gSum (fun c => f (coS C c (cN C))) 4 < 1000000 := by
          have hex : ∃ s, s < cN C ∧ L < cSt C s := by
            apply Classical.byContradiction
            intro q
            exact d (mxS_le _ (fun s hs _ => by
              by_cases z : cSt C s ≤ L
              · exact z
              · exact absurd ⟨s, hs, by omega⟩ q))
          obtain ⟨s, hs, hl⟩ := hex
          have hc3 := (hV.2.2.1 s hs).2.1
          have e := sp_far hV g2 hs hl (coS C (cCo C s) (cN C)) (coS_lt C _ _) ((coS_tb C _ _ _).mpr ⟨hs, rfl⟩)
          have p := gS_pick (cCo C s) 1000000 4
          rw [if_pos (by omega)] at p
          have := gS_le (f := fun i => if i = cCo C s then 1000000 else 0) (g := fun c => f (coS C c (cN C))) 4 (fun i hi => by
            by_cases q : i = cCo C s
            · rw [if_pos q, q, e]; exact Nat.le_refl _
            · rw [if_neg q]; exact Nat.zero_le _)
          omega
        rw [if_neg d, if_neg hlt]
        exact ⟨_, _, _, rfl, rfl, Rl_fr H (FX_rf Mx) hF2⟩
    · rw [if_neg (dF c)]
      by_cases d : L < 1
      · rw [if_pos d]
        exact ⟨_, _, _, rfl, rfl, Rl_fr H (FX_rf Mx) h0⟩
      · rw [if_neg d, if_pos (by omega)]
        exact ⟨_, _, _, rfl, rfl, Rl_fr H (FX_rf Mx) h0⟩
