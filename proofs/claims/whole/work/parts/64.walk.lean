/-! WALKS: days of a round, the class's walk forth and back -/
def tFa (T : TownA) (w : Nat) : Nat := ix (tFr T w)
def tTa (T : TownA) (w : Nat) : Nat := ix (tTo T w)
def ldN (T : TownA) (w c : Nat) : Nat := if tFr T w = -1 then c + tSew T w - 1 else if c + tSew T w - 1 < tFa T w ∨ tTa T w < c then c + tSew T w - 1 else tTa T w + tSew T w
theorem away_c {T : TownA} (hV : TV T) {w : Nat} (hw : w < tW T) : tFr T w = -1 ∨ (¬ tFr T w = -1 ∧ tFr T w = nI (tFa T w) ∧ tTo T w = nI (tTa T w) ∧ tFa T w ≤ 99 ∧ tTa T w ≤ 99) := by
  have h6 := hV.1.2.2.2.2
  rcases hV.2.2 w (by omega) with ⟨a, -⟩ | ⟨a, b, h1, h2, h3, h4⟩
  · exact Or.inl a
  · right
    have e1 : tFa T w = a := by unfold tFa; rw [h3, ix_n (by omega)]
    have e2 : tTa T w = b := by unfold tTa; rw [h4, ix_n (by omega)]
    exact ⟨by rw [h3]; exact m1_ne (by omega), by rw [e1, h3], by rw [e2, h4], by omega, by omega⟩
theorem tSew_b {T : TownA} (hV : TV T) {w : Nat} (hw : w < tW T) : 1 ≤ tSew T w ∧ tSew T w ≤ 38 := by
  obtain ⟨-, -, ⟨s1, s2⟩, -⟩ := hV.1
  obtain ⟨-, -, ⟨a, b⟩, -⟩ := hV.2.1 w hw
  unfold tSew
  refine ⟨?_, ?_⟩
  · rw [upd_div a s1]; exact Nat.le_add_left 1 _
  · exact Nat.le_trans (Nat.div_le_self _ _) (by omega)
theorem tWay_b {T : TownA} (hV : TV T) {x y w : Nat} (hx : x < 100) (hy : y < 100) (hw : w < tW T) : tWay T x y w ≤ 220 := by
  obtain ⟨-, -, -, ⟨s1, s2⟩, -⟩ := hV.1
  obtain ⟨a, b, -⟩ := hV.2.1 w hw
  unfold tWay dN
  exact Nat.le_trans (Nat.div_le_self _ _) (by omega)
theorem ldN_b {T : TownA} (hV : TV T) {w c : Nat} (hw : w < tW T) : c + tSew T w ≤ ldN T w c + 1 ∧ ldN T w c ≤ c + 140 := by
  obtain ⟨s1, s2⟩ := tSew_b hV hw
  unfold ldN
  rcases away_c hV hw with h | ⟨h, -, -, -, h2⟩
  · rw [if_pos h]; omega
  · rw [if_neg h]
    split <;> omega
theorem daysOfSewing_v {M : Mem} {o : Nat} {T : TownA} (hX : TX M o T) (hV : TV T) {w : Nat} (hw : w < tW T) : f_X6_daysOfSewing M o (nI w) = some (nI (tSew T w)) := by
  obtain ⟨-, -, ⟨s1, s2⟩, -, h6⟩ := hV.1
  obtain ⟨-, -, ⟨a, b⟩, -⟩ := hV.2.1 w hw
  obtain ⟨g1, g2, g3, g4⟩ := hX.2.1 w hw
  unfold f_X6_daysOfSewing
  rw [hasWearer_v hX.1.2.2.2.2 (by omega) (by omega), bn_s, if_pos (dT hw), gin_n (by omega) (by omega), ix_n (by omega), g3, hX.1.2.2.1, begun_v (by omega) (by omega) (by omega)]
  rfl
theorem lastDay_v {M : Mem} {o : Nat} {T : TownA} (hX : TX M o T) (hV : TV T) {w c : Nat} (hw : w < tW T) (hc : c < 10000) : f_X6_lastDay M o (nI w) (nI c) = some (nI (ldN T w c)) := by
  have h6 := hV.1.2.2.2.2
  obtain ⟨s1, s2⟩ := tSew_b hV hw
  obtain ⟨a1, a2⟩ := hX.2.2 w (by omega)
  unfold f_X6_lastDay ldN
  have hg : ∀ x : Option Int32, gin (nI w) 6 x = x := fun x => gin_n (by omega) (by omega)
  simp only [hg]
  rw [daysOfSewing_v hX hV hw, bn_s, nI_add, sub_n (show 1 ≤ c + tSew T w by omega), nm_s, hasWearer_v hX.1.2.2.2.2 (by omega) (by omega), bn_s, if_pos (dT hw), ix_n (by omega), a1, a2, bn_s]
  rcases away_c hV hw with h | ⟨h, e1, e2, b1, b2⟩
  · rw [if_pos h, if_pos h]
  · rw [if_neg h, if_neg h, e1, e2, ite_p (lt_n (by omega) (by omega)), ite_p (le_n (by omega) (by omega)), nI_add]
    by_cases q1 : c + tSew T w - 1 < tFa T w
    · rw [if_pos q1, if_pos (Or.inl q1)]
    · rw [if_neg q1]
      by_cases q2 : c ≤ tTa T w
      · rw [if_pos q2, if_neg (by omega)]
      · rw [if_neg q2, if_pos (by omega)]
theorem doneAt_v {M : Mem} {k : Nat} {T : TownA} (hH : MT M k T) (hV : TV T) {w c : Nat} (hw : w < tW T) (hc : c < 10000) : f_X10_doneAt M (nI w) (nI c) = some (nI (ldN T w c)) := by
  obtain ⟨hk, y0, -, ⟨⟨-, m1, -, -, -⟩, m5, m6⟩⟩ := hH
  obtain ⟨-, -, ⟨v1, v2⟩, -, h6⟩ := hV.1
  obtain ⟨-, -, ⟨u1, u2⟩, -⟩ := hV.2.1 w hw
  obtain ⟨-, -, g3, -⟩ := m5 w hw
  obtain ⟨a1, a2⟩ := m6 w (by omega)
  obtain ⟨s1, s2⟩ := tSew_b hV hw
  have eo : ∀ j, j < 100 → f_X10_townOf M (nI j) = some (gA M 100 8 (41 * k + j)) := fun j hj => townOf_v y0 hk hj
  have es : f_X10_upwards (nI (tSt T w)) (nI (tSp T)) = some (nI (tSew T w)) := by
    rw [upwards_v (by omega) (by omega) (by omega)]
    rfl
  unfold f_X10_doneAt f_X10_doneAt_61 f_X10_doneAt_62 ldN
  simp only [nI_add]
  rw [eo (17 + w) (by omega), g3, bn_s, eo 1 (by omega), m1, bn_s, es, bn_s, eo (29 + w) (by omega), a1, bn_s, bn_s, eo (35 + w) (by omega), a2, bn_s, bn_s]
  simp only [nI_add, if_true, Bool.false_eq_true, if_false]
  rw [sub_n (show 1 ≤ c + tSew T w by omega)]
  rcases away_c hV hw with h | ⟨h, e1, e2, b1, b2⟩
  · rw [if_pos h, if_pos h]
  · rw [if_neg h, if_neg h, e1, e2, ite_p (lt_n (by omega) (by omega)), ite_p (lt_n (by omega) (by omega))]
    simp only [nI_add]
    rw [sub_n (show 1 ≤ tTa T w + 1 + tSew T w by omega)]
    by_cases q2 : tTa T w < c
    · rw [if_pos q2, if_pos (Or.inr q2)]
    · rw [if_neg q2]
      by_cases q1 : c + tSew T w - 1 < tFa T w
      · rw [if_pos q1, if_pos (Or.inl q1)]
      · rw [if_neg q1, if_neg (by omega)]
        congr 2
        omega
/-- the day on which the k-th of a row is done, and how much is late ahead of it -/
def dyF (T : TownA) (x y : Nat) (r : Nat → Nat) : Nat → Nat
  | 0 => ldN T (r 0) (tWay T x y (r 0))
  | k + 1 => ldN T (r (k + 1)) (dyF T x y r k + 1 + tWay T (tXs T (r k)) (tYs T (r k)) (r (k + 1)))
def ltF (T : TownA) (x y : Nat) (r : Nat → Nat) : Nat → Nat
  | 0 => 0
  | k + 1 => ltF T x y r k + (dyF T x y r k - tDu T (r k))
theorem dyF_cg {T : TownA} {x y : Nat} {r r' : Nat → Nat} : ∀ k, (∀ j, j ≤ k → r j = r' j) → dyF T x y r k = dyF T x y r' k := by
  intro k
  induction k with
  | zero =>
    intro h
    show ldN T (r 0) (tWay T x y (r 0)) = ldN T (r' 0) (tWay T x y (r' 0))
    rw [h 0 (Nat.le_refl _)]
  | succ k ih =>
    intro h
    show ldN T (r (k + 1)) (dyF T x y r k + 1 + tWay T (tXs T (r k)) (tYs T (r k)) (r (k + 1))) = ldN T (r' (k + 1)) (dyF T x y r' k + 1 + tWay T (tXs T (r' k)) (tYs T (r' k)) (r' (k + 1)))
    rw [ih (fun j hj => h j (by omega)), h k (by omega), h (k + 1) (Nat.le_refl _)]
theorem ltF_cg {T : TownA} {x y : Nat} {r r' : Nat → Nat} : ∀ k, (∀ j, j < k → r j = r' j) → ltF T x y r k = ltF T x y r' k := by
  intro k
  induction k with
  | zero => intro _; rfl
  | succ k ih =>
    intro h
    show ltF T x y r k + (dyF T x y r k - tDu T (r k)) = ltF T x y r' k + (dyF T x y r' k - tDu T (r' k))
    rw [ih (fun j hj => h j (by omega)), dyF_cg k (fun j hj => h j (by omega)), h k (by omega)]
theorem dyF_b {T : TownA} (hV : TV T) {x y : Nat} (hx : x < 100) (hy : y < 100) {r : Nat → Nat} {L : Nat} (hr : ∀ j, j < L → r j < tW T) : ∀ k, k < L → dyF T x y r k ≤ 400 * (k + 1) := by
  intro k
  induction k with
  | zero =>
    intro h
    have h1 := (ldN_b hV (c := tWay T x y (r 0)) (hr 0 h)).2
    have h2 := tWay_b hV hx hy (hr 0 h)
    show ldN T (r 0) (tWay T x y (r 0)) ≤ _
    omega
  | succ k ih =>
    intro h
    have i := ih (by omega)
    obtain ⟨a, b, -⟩ := hV.2.1 (r k) (hr k (by omega))
    have h1 := (ldN_b hV (c := dyF T x y r k + 1 + tWay T (tXs T (r k)) (tYs T (r k)) (r (k + 1))) (hr (k + 1) h)).2
    have h2 := tWay_b hV (x := tXs T (r k)) (y := tYs T (r k)) (by omega) (by omega) (hr (k + 1) h)
    show ldN T (r (k + 1)) (dyF T x y r k + 1 + tWay T (tXs T (r k)) (tYs T (r k)) (r (k + 1))) ≤ _
    omega
theorem ltF_b {T : TownA} (hV : TV T) {x y : Nat} (hx : x < 100) (hy : y < 100) {r : Nat → Nat} {L : Nat} (hr : ∀ j, j < L → r j < tW T) (hL : L ≤ 6) : ∀ k, k ≤ L → ltF T x y r k ≤ 2400 * k := by
  intro k
  induction k with
  | zero => intro _; exact Nat.le_refl _
  | succ k ih =>
    intro h
    have i := ih (by omega)
    have j := dyF_b hV hx hy hr k (by omega)
    show ltF T x y r k + (dyF T x y r k - tDu T (r k)) ≤ _
    omega
/-! rows as piles: the last one on top -/
def rowF : List Nat → Nat → Nat
  | [] => fun _ => 0
  | w :: p => fun j => if j = p.length then w else rowF p j
def usB : List Nat → Nat
  | [] => 0
  | w :: p => usB p ||| 2 ^ w
def VS (n : Nat) : List Nat → Prop
  | [] => True
  | w :: p => w < n ∧ (usB p).testBit w = false ∧ VS n p
theorem rowF_lo {w : Nat} {p : List Nat} {j : Nat} (h : j < p.length) : rowF (w :: p) j = rowF p j := if_neg (by omega)
theorem rowF_top (w : Nat) (p : List Nat) : rowF (w :: p) p.length = w := if_pos rfl
theorem usB_lt {n : Nat} : ∀ {p : List Nat}, VS n p → usB p < 2 ^ n
  | [], _ => Nat.two_pow_pos n
  | w :: p, h => or_lt (usB_lt h.2.2) h.1
theorem VS_row {n : Nat} : ∀ {p : List Nat}, VS n p → ∀ j, j < p.length → rowF p j < n
  | [], _, j, hj => by exact absurd hj (Nat.not_lt_zero j)
  | w :: p, h, j, hj => by
    show (if j = p.length then w else rowF p j) < n
    by_cases q : j = p.length
    · rw [if_pos q]; exact h.1
    · rw [if_neg q]
      exact VS_row h.2.2 j (by have : j < p.length + 1 := hj; omega)
theorem VS_len {n : Nat} : ∀ {p : List Nat}, VS n p → p.length = pc (usB p) n
  | [], _ => (pc_0 n).symm
  | w :: p, h => by
    show p.length + 1 = pc (usB p ||| 2 ^ w) n
    rw [pc_or h.2.1, if_pos h.1, VS_len h.2.2]
theorem VS_le {n : Nat} {p : List Nat} (h : VS n p) : p.length ≤ n := by
  rw [VS_len h]
  exact pc_le _ _
def unS (T : TownA) (p : List Nat) : Nat := gSum (fun v => if (usB p).testBit v = true then 0 else tSew T v) (tW T)
theorem unS_c {T : TownA} {w : Nat} {p : List Nat} (hw : w < tW T) (h : (usB p).testBit w = false) : unS T p = unS T (w :: p) + tSew T w := by
  have e := gS_add (fun v => if (usB (w :: p)).testBit v = true then 0 else tSew T v) (fun v => if v = w then tSew T w else 0) (tW T)
  rw [gS_pick, if_pos hw] at e
  unfold unS
  rw [← e]
  refine gS_cg _ (fun v _ => ?_)
  show (if (usB p).testBit v = true then 0 else tSew T v) = (if (usB p ||| 2 ^ w).testBit v = true then 0 else tSew T v) + if v = w then tSew T w else 0
  rw [or_tb]
  by_cases q : v = w
  · subst q
    rw [h, decide_eq_true rfl, if_neg (by decide), if_pos (by decide), if_pos rfl, Nat.zero_add]
  · have q2 : ¬ w = v := fun z => q z.symm
    rw [decide_eq_false q2, Bool.or_false, if_neg q, Nat.add_zero]
theorem unS_b {T : TownA} (hV : TV T) (p : List Nat) : unS T p ≤ 300 := by
  have := gS_le (f := fun v => if (usB p).testBit v = true then 0 else tSew T v) (g := fun _ => 38) (tW T) (fun v hv => by
    have := (tSew_b hV hv).2
    show (if (usB p).testBit v = true then 0 else tSew T v) ≤ 38
    split <;> omega)
  rw [gS_const] at this
  have := hV.1.2.2.2.2
  unfold unS
  omega
/-- the class's walk holds a pile -/
def WK (B : Mem) (T : TownA) (o x y : Nat) (p : List Nat) (M : Mem) : Prop := VS (tW T) p ∧ (FX B M ∧ gR M 19 0 = o) ∧ (gI M 19 1 = nI x ∧ gI M 19 2 = nI y) ∧ gI M 19 3 = nI p.length ∧ gI M 19 4 = nI (usB p) ∧ gI M 19 5 = nI (unS T p) ∧ ∀ j, j < p.length → gA M 19 6 j = nI (rowF p j) ∧ gA M 19 7 j = nI (dyF T x y (rowF p) j) ∧ gA M 19 8 j = nI (ltF T x y (rowF p) (j + 1))
section Walk
variable {B : Mem} {T : TownA} {o x y : Nat} {p : List Nat} {M : Mem}
theorem wk_X (hB : TX B o T) (ho : o < 10) (h : WK B T o x y p M) : TX M o T := TX_cg (h.2.1.1 o (Or.inl ho)) hB
theorem wk_len (hV : TV T) (h : WK B T o x y p M) : p.length ≤ 6 ∧ p.length ≤ tW T := by
  have := VS_le h.1
  have := hV.1.2.2.2.2
  omega
theorem lastDone_v (hV : TV T) (h : WK B T o x y p M) : f_X7_lastDone M = some (if p.length = 0 then -1 else nI (dyF T x y (rowF p) (p.length - 1))) := by
  have hl := wk_len hV h
  unfold f_X7_lastDone
  rw [h.2.2.2.1, ite_p (le_n (by omega) (by omega))]
  by_cases q : p.length = 0
  · rw [if_pos (by omega), if_pos q]
  · rw [if_neg (by omega), if_neg q, sub_n (by omega), gin_n (by omega) (by omega), ix_n (by omega), (h.2.2.2.2.2.2 (p.length - 1) (by omega)).2.1]
theorem lateSum_v (hV : TV T) (h : WK B T o x y p M) : f_X7_lateSum M = some (nI (ltF T x y (rowF p) p.length)) := by
  have hl := wk_len hV h
  unfold f_X7_lateSum
  rw [h.2.2.2.1, ite_p (le_n (by omega) (by omega))]
  by_cases q : p.length = 0
  · rw [if_pos (by omega), q]
    rfl
  · rw [if_neg (by omega), sub_n (by omega), gin_n (by omega) (by omega), ix_n (by omega), (h.2.2.2.2.2.2 (p.length - 1) (by omega)).2.2, show p.length - 1 + 1 = p.length by omega]
theorem mx0_sub {a b : Nat} (ha : a < 100000) (hb : b < 100000) : mxI (nI 0) (nI a - nI b) = nI (a - b) := by
  unfold mxI
  by_cases h : b ≤ a
  · rw [sub_n h, ite_p (lt_n (by omega) (by omega))]
    split
    · rfl
    · congr 1; omega
  · have e := pk_sub_toInt (a := a) (b := b) (by omega) (by omega)
    rw [if_neg, show a - b = 0 by omega]
    rw [Int32.lt_iff_toInt_lt, e, nI_toInt (by omega)]
    omega
theorem gr0_sub {a b : Nat} (ha : a < 100000) (hb : b < 100000) : f_X10_greater (nI 0) (nI a - nI b) = some (nI (a - b)) := by
  unfold f_X10_greater
  by_cases h : b ≤ a
  · rw [sub_n h, ite_p (le_n (by omega) (by omega)), if_pos (Nat.zero_le _)]
  · have e := pk_sub_toInt (a := a) (b := b) (by omega) (by omega)
    rw [if_neg, show a - b = 0 by omega]
    rw [Int32.le_iff_toInt_le, e, nI_toInt (by omega)]
    omega
/-- when he comes to one more -/
def cmN (T : TownA) (x y : Nat) (p : List Nat) (w : Nat) : Nat := if p.length = 0 then tWay T x y w else dyF T x y (rowF p) (p.length - 1) + 1 + tWay T (tXs T (rowF p (p.length - 1))) (tYs T (rowF p (p.length - 1))) w
theorem dyF_top (T : TownA) (x y w : Nat) (p : List Nat) : dyF T x y (rowF (w :: p)) p.length = ldN T w (cmN T x y p w) := by
  unfold cmN
  by_cases q : p.length = 0
  · rw [if_pos q, q]
    show ldN T (rowF (w :: p) 0) (tWay T x y (rowF (w :: p) 0)) = _
    have e : rowF (w :: p) 0 = w := if_pos q.symm
    rw [e]
  · rw [if_neg q]
    obtain ⟨k, hk⟩ : ∃ k, p.length = k + 1 := ⟨p.length - 1, by omega⟩
    have e1 : rowF (w :: p) (k + 1) = w := if_pos hk.symm
    have e2 : rowF (w :: p) k = rowF p k := if_neg (by omega)
    rw [hk]
    show ldN T (rowF (w :: p) (k + 1)) (dyF T x y (rowF (w :: p)) k + 1 + tWay T (tXs T (rowF (w :: p) k)) (tYs T (rowF (w :: p) k)) (rowF (w :: p) (k + 1))) = _
    rw [e1, e2, dyF_cg (r := rowF (w :: p)) (r' := rowF p) k (fun j hj => if_neg (by omega))]
    rfl
theorem ltF_top (T : TownA) (x y w : Nat) (p : List Nat) : ltF T x y (rowF (w :: p)) (p.length + 1) = ltF T x y (rowF p) p.length + (ldN T w (cmN T x y p w) - tDu T w) := by
  show ltF T x y (rowF (w :: p)) p.length + (dyF T x y (rowF (w :: p)) p.length - tDu T (rowF (w :: p) p.length)) = _
  rw [dyF_top, rowF_top, ltF_cg (r := rowF (w :: p)) (r' := rowF p) p.length (fun j hj => if_neg (by omega))]
theorem go_112 (hV : TV T) (hx : x < 100) (hy : y < 100) (hB : TX B o T) (ho : o < 10) (h : WK B T o x y p M) {w : Nat} (hw : w < tW T) (hb : (usB p).testBit w = false) {a b : Nat} (ha : a < 100) (hb2 : b < 100) (hab : cmN T x y p w = (if p.length = 0 then 0 else dyF T x y (rowF p) (p.length - 1) + 1) + tWay T a b w) : ∃ M', f_X7_go_112 (nI w) (nI a) (nI b) M = some (true, M') ∧ WK B T o x y (w :: p) M' ∧ gA M' 19 9 = gA M 19 9 := by
  have hX := wk_X hB ho h
  have h6 := hV.1.2.2.2.2
  have hVS2 : VS (tW T) (w :: p) := ⟨hw, hb, h.1⟩
  have hl2 : p.length + 1 ≤ tW T := VS_le hVS2
  obtain ⟨-, -, -, hdue⟩ := hV.2.1 w hw
  have hrow := VS_row h.1
  have hdb : ∀ j, j < p.length → dyF T x y (rowF p) j ≤ 400 * (j + 1) := dyF_b hV hx hy hrow
  have hlb := ltF_b hV hx hy hrow (by omega) p.length (Nat.le_refl _)
  have hwb := tWay_b hV ha hb2 hw
  have hsb := tSew_b hV hw
  have hun := unS_c hw hb
  have hub := unS_b hV p
  have hus := usB_lt h.1
  have w2 := (pw9 (tW T) (by omega)).2.1
  have hcm : cmN T x y p w < 10000 := by
    rw [hab]
    by_cases q : p.length = 0
    · rw [if_pos q]; omega
    · rw [if_neg q]
      have := hdb (p.length - 1) (by omega)
      omega
  have e3 : (if p.length = 0 then (-1 : Int32) else nI (dyF T x y (rowF p) (p.length - 1))) + nI 1 + nI (tWay T a b w) = nI (cmN T x y p w) := by
    rw [hab]
    by_cases q : p.length = 0
    · rw [if_pos q, if_pos q, show (-1 : Int32) + nI 1 = nI 0 by decide +kernel, nI_add]
    · rw [if_neg q, if_neg q, nI_add, nI_add]
  have hld := (ldN_b hV (c := cmN T x y p w) hw).2
  unfold f_X7_go_112
  have hgw : ∀ z : Option (Bool × Mem), gin (nI w) 6 z = z := fun z => gin_n (by omega) (by omega)
  rw [lastDone_v hV h, bn_s, h.2.1.2, daysTo_v hX hV ha hb2 hw, bn_s, e3, lastDay_v hX hV hw hcm, bn_s, lateSum_v hV h, bn_s, hgw, ix_n (by omega), (hX.2.1 w hw).2.2.2, mx0_sub (by omega) (by omega)]
  simp only [nm_s, gI_sA, gI_sI]
  rw [h.2.2.2.1, h.2.2.2.2.1, h.2.2.2.2.2.1, ix_n (by omega), gin_n (by omega) (by omega), gin_n (by omega) (by omega), gin_n (by omega) (by omega), or_nI (by omega)]
  simp only [nI_add]
  have eR : ∀ (M0 : Mem) (a b c d e f g h' : Int32), gR (sI (sA (sA (sA M0 19 8 p.length a) 19 6 p.length b) 19 7 p.length c) 19 4 d) 19 0 = gR M0 19 0 := fun _ _ _ _ _ _ _ _ _ => rfl
  rw [eR _ _ _ _ _ 0 0 0 0, h.2.1.2]
  have hX2 : TX (sI (sA (sA (sA M 19 8 p.length (nI (ltF T x y (rowF p) p.length + (ldN T w (cmN T x y p w) - tDu T w)))) 19 6 p.length (nI w)) 19 7 p.length (nI (ldN T w (cmN T x y p w)))) 19 4 (nI (usB p ||| 2 ^ w))) o T := TX_cg ((FX_tr (FX_sA _ (by omega)) (FX_tr (FX_sA _ (by omega)) (FX_tr (FX_sA _ (by omega)) (FX_sI _ (by omega)))) : FX M _) o (Or.inl ho)) hX
  rw [daysOfSewing_v hX2 hV hw, bn_s, if_neg (by omega), if_neg (by omega), sub_n (by omega)]
  refine ⟨_, rfl, ⟨hVS2, ⟨?_, h.2.1.2⟩, ⟨?_, ?_⟩, ?_, ?_, ?_, fun j hj => ?_⟩, ?_⟩
  · exact FX_tr h.2.1.1 (FX_tr (FX_sA _ (by omega)) (FX_tr (FX_sA _ (by omega)) (FX_tr (FX_sA _ (by omega)) (FX_tr (FX_sI _ (by omega)) (FX_tr (FX_sI _ (by omega)) (FX_sI _ (by omega)))))))
  · rw [gI_sI, if_neg (by omega), gI_sI, if_neg (by omega), gI_sI, if_neg (by omega), gI_sA, gI_sA, gI_sA]; exact h.2.2.1.1
  · rw [gI_sI, if_neg (by omega), gI_sI, if_neg (by omega), gI_sI, if_neg (by omega), gI_sA, gI_sA, gI_sA]; exact h.2.2.1.2
  · rw [gI_sI, if_pos ⟨rfl, rfl⟩, if_neg (by simp), nI_add]
    rfl
  · rw [gI_sI, if_neg (by omega), gI_sI, if_neg (by omega), gI_sI, if_pos ⟨rfl, rfl⟩]
    rfl
  · rw [gI_sI, if_neg (by omega), gI_sI, if_pos ⟨rfl, rfl⟩, hun, Nat.add_sub_cancel]
  · have hj2 : j < p.length + 1 := hj
    simp only [gA_sI, gA_sA]
    by_cases q : j = p.length
    · subst q
      rw [rowF_top, dyF_top, ltF_top]
      simp
    · obtain ⟨k1, k2, k3⟩ := h.2.2.2.2.2.2 j (by omega)
      have e1 : dyF T x y (rowF (w :: p)) j = dyF T x y (rowF p) j := dyF_cg j (fun i hi => if_neg (by omega))
      have e2 : ltF T x y (rowF (w :: p)) (j + 1) = ltF T x y (rowF p) (j + 1) := ltF_cg (j + 1) (fun i hi => if_neg (by omega))
      rw [rowF_lo (show j < p.length by omega), e1, e2]
      simp [q]
      exact ⟨k1, k2, k3⟩
  · funext j
    rw [gA_sI, gA_sI, gA_sI, gA_sA, if_neg (by omega), gA_sA, if_neg (by omega), gA_sA, if_neg (by omega)]
theorem go_v (hV : TV T) (hx : x < 100) (hy : y < 100) (hB : TX B o T) (ho : o < 10) (h : WK B T o x y p M) {w : Nat} (hw : w < tW T) (hb : (usB p).testBit w = false) : ∃ M', f_X7_go M (nI w) = some (true, M') ∧ WK B T o x y (w :: p) M' ∧ gA M' 19 9 = gA M 19 9 := by
  have hX := wk_X hB ho h
  have h6 := hV.1.2.2.2.2
  have hVS2 : VS (tW T) (w :: p) := ⟨hw, hb, h.1⟩
  have hl2 : p.length + 1 ≤ tW T := VS_le hVS2
  have hus := usB_lt h.1
  have w2 := (pw9 (tW T) (by omega)).2.1
  unfold f_X7_go f_X7_go_56 f_X7_go_84
  rw [h.2.1.2, hasWearer_v hX.1.2.2.2.2 (by omega) (by omega), bn_s, if_pos (dT hw), h.2.2.2.2.1, ite_p (bit_n (by omega) (by omega)), if_neg (by rw [hb]; decide), h.2.2.2.1, ite_p (lt_n (by omega) (by omega)), if_pos (by omega), ite_p (le_n (by omega) (by omega))]
  by_cases q : p.length = 0
  · rw [if_pos (by omega), hasWearer_neg (show (-1 : Int32) < 0 by decide), bn_s, if_neg (by decide), bn_s, if_neg (by decide), h.2.2.1.1, h.2.2.1.2]
    exact go_112 hV hx hy hB ho h hw hb hx hy (by unfold cmN; rw [if_pos q, if_pos q, Nat.zero_add])
  · obtain ⟨k1, -, -⟩ := h.2.2.2.2.2.2 (p.length - 1) (by omega)
    have hr := VS_row h.1 (p.length - 1) (by omega)
    obtain ⟨g1, g2, -⟩ := hX.2.1 _ hr
    obtain ⟨u1, u2, -⟩ := hV.2.1 _ hr
    have hg : ∀ z : Option (Bool × Mem), gin (nI (rowF p (p.length - 1))) 6 z = z := fun z => gin_n (by omega) (by omega)
    rw [if_neg (by omega), sub_n (by omega), gin_n (by omega) (by omega), ix_n (by omega), k1]
    simp only [hg]
    rw [hasWearer_v hX.1.2.2.2.2 (by omega) (by omega), bn_s, if_pos (dT hr), bn_s, if_pos (dT hr), ix_n (by omega), g1, g2]
    exact go_112 hV hx hy hB ho h hw hb (by omega) (by omega) (by unfold cmN; rw [if_neg q, if_neg q])
theorem go_n (hB : TX B o T) (ho : o < 10) (hV : TV T) (h : WK B T o x y p M) {w : Nat} (hw : w < 32) (hb : tW T ≤ w ∨ (usB p).testBit w = true) : f_X7_go M (nI w) = some (false, M) := by
  have hX := wk_X hB ho h
  have h6 := hV.1.2.2.2.2
  have hus := usB_lt h.1
  have w2 := (pw9 (tW T) (by omega)).2.1
  unfold f_X7_go
  rw [h.2.1.2, hasWearer_v hX.1.2.2.2.2 (by omega) (by omega), bn_s]
  by_cases c : w < tW T
  · rw [if_pos (dT c), h.2.2.2.2.1, ite_p (bit_n (by omega) (by omega)), if_pos (by rcases hb with hb | hb; omega; exact hb)]
  · rw [if_neg (dF c)]
theorem back_v {w : Nat} (hV : TV T) (hB : TX B o T) (ho : o < 10) (h : WK B T o x y (w :: p) M) : ∃ M', f_X7_back M = some (nI w, M') ∧ WK B T o x y p M' ∧ gA M' 19 9 = gA M 19 9 := by
  have hX := wk_X hB ho h
  have h6 := hV.1.2.2.2.2
  obtain ⟨hVS, hFR, hXY, hL, hU, hN, hR⟩ := h
  have hl2 : p.length + 1 ≤ tW T := VS_le hVS
  have hw := hVS.1
  have hus := usB_lt hVS
  have hus2 := usB_lt hVS.2.2
  have w2 := (pw9 (tW T) (by omega)).2.1
  have hun := unS_c hVS.1 hVS.2.1
  have hL2 : gI M 19 3 = nI (p.length + 1) := hL
  have e1 : gA M 19 6 p.length = nI w := by
    have := (hR p.length (Nat.lt_succ_self _)).1
    rw [rowF_top] at this
    exact this
  have e2 : rmv (usB (w :: p)) (2 ^ w) = usB p := by
    apply Nat.eq_of_testBit_eq
    intro i
    show (rmv (usB p ||| 2 ^ w) (2 ^ w)).testBit i = _
    have hlt : usB p ||| 2 ^ w < 512 := Nat.lt_of_lt_of_le hus w2
    rw [rmv_tb hlt, or_tb, tb_pw]
    by_cases q : w = i
    · subst q; rw [hVS.2.1]; simp
    · simp [q]
  unfold f_X7_back
  rw [hL2, ite_p (le_n (by omega) (by omega)), if_pos (by omega), sub_n (by omega), show p.length + 1 - 1 = p.length by omega]
  simp only [nm_s]
  have i3 : gI (sI M 19 3 (nI p.length)) 19 3 = nI p.length := by rw [gI_sI, if_pos ⟨rfl, rfl⟩]
  rw [i3, gin_n (by omega) (by omega), ix_n (by omega)]
  simp only [gA_sI, gI_sI]
  rw [e1, hU, if_neg (by omega), shl1_n (by omega), not_r, e2]
  have hX2 : TX (sI (sI M 19 3 (nI p.length)) 19 4 (nI (usB p))) o T := TX_cg ((FX_tr (FX_sI _ (by omega)) (FX_sI _ (by omega)) : FX M _) o (Or.inl ho)) hX
  have eR : gR (sI (sI M 19 3 (nI p.length)) 19 4 (nI (usB p))) 19 0 = o := hFR.2
  rw [eR, daysOfSewing_v hX2 hV hw, bn_s, if_neg (by omega), if_neg (by omega), hN, nI_add, ← hun]
  refine ⟨_, rfl, ⟨hVS.2.2, ⟨FX_tr hFR.1 (FX_tr (FX_sI _ (by omega)) (FX_tr (FX_sI _ (by omega)) (FX_sI _ (by omega)))), hFR.2⟩, ⟨?_, ?_⟩, ?_, ?_, ?_, fun j hj => ?_⟩, ?_⟩
  · rw [gI_sI, if_neg (by omega), gI_sI, if_neg (by omega), gI_sI, if_neg (by omega)]; exact hXY.1
  · rw [gI_sI, if_neg (by omega), gI_sI, if_neg (by omega), gI_sI, if_neg (by omega)]; exact hXY.2
  · rw [gI_sI, if_neg (by omega), gI_sI, if_neg (by omega), gI_sI, if_pos ⟨rfl, rfl⟩]
  · rw [gI_sI, if_neg (by omega), gI_sI, if_pos ⟨rfl, rfl⟩]
  · rw [gI_sI, if_pos ⟨rfl, rfl⟩]
  · obtain ⟨k1, k2, k3⟩ := hR j (Nat.lt_succ_of_lt hj)
    have e1 : dyF T x y (rowF (w :: p)) j = dyF T x y (rowF p) j := dyF_cg j (fun i hi => if_neg (by omega))
    have e2 : ltF T x y (rowF (w :: p)) (j + 1) = ltF T x y (rowF p) (j + 1) := ltF_cg (j + 1) (fun i hi => if_neg (by omega))
    rw [rowF_lo hj] at k1
    rw [e1] at k2
    rw [e2] at k3
    exact ⟨k1, k2, k3⟩
  · rfl
theorem begin_v (hV : TV T) (hB : TX M o T) (ho : o < 10) (x y : Nat) : ∃ M', f_X7_begin M o (nI x) (nI y) = some M' ∧ WK M T o x y [] M' := by
  have h6 := hV.1.2.2.2.2
  unfold f_X7_begin
  simp only [nm_s]
  unfold f_X7_begin_33
  refine lpU_inv (fun w a => ∃ M', a = (nI w, M') ∧ (FX M M' ∧ gR M' 19 0 = o) ∧ (gI M' 19 1 = nI x ∧ gI M' 19 2 = nI y) ∧ gI M' 19 3 = nI 0 ∧ gI M' 19 4 = nI 0 ∧ gI M' 19 5 = nI (gSum (tSew T) w)) (tW T) (fun z => ∃ M', z = some M' ∧ WK M T o x y [] M') (by omega) ?_ ?_ 0 _ (Nat.zero_le _) ⟨_, rfl, ⟨FX_tr (FX_sR _) (FX_tr (FX_sI _ (by omega)) (FX_tr (FX_sI _ (by omega)) (FX_tr (FX_sI _ (by omega)) (FX_tr (FX_sI _ (by omega)) (FX_sI _ (by omega)))))), rfl⟩, ⟨rfl, rfl⟩, rfl, rfl, rfl⟩
  · rintro rc a ⟨M1, rfl, ⟨f1, f2⟩, f3, f4, f5, f6⟩
    show ∃ M', b_X7_begin_33 o (nI x) (nI y) _ (nI (tW T)) M1 = _ ∧ _
    unfold b_X7_begin_33
    have hX := TX_cg (f1 o (Or.inl ho)) hB
    rw [hX.1.2.2.2.2, if_pos (nI_le (Nat.le_refl _) (by omega))]
    refine ⟨M1, rfl, trivial, ⟨f1, f2⟩, f3, f4, f5, ?_, fun j hj => absurd hj (Nat.not_lt_zero j)⟩
    rw [f6]
    unfold unS
    congr 1
    refine gS_cg _ (fun v _ => ?_)
    show _ = if (0 : Nat).testBit v = true then 0 else tSew T v
    rw [Nat.zero_testBit, if_neg (by decide)]
  · rintro rc w a hw ⟨M1, rfl, ⟨f1, f2⟩, ⟨f3, f3'⟩, f4, f5, f6⟩
    refine Or.inr ?_
    show ∃ a', _ ∧ b_X7_begin_33 o (nI x) (nI y) _ (nI w) M1 = _
    unfold b_X7_begin_33
    have hX := TX_cg (f1 o (Or.inl ho)) hB
    rw [hX.1.2.2.2.2, if_neg (nI_ge hw (by omega)), daysOfSewing_v hX hV hw, bn_s, f6, nI_add, nI_add, nm_s, nm_s]
    refine ⟨_, ⟨_, rfl, ⟨FX_tr f1 (FX_sI _ (by omega)), f2⟩, ⟨?_, ?_⟩, ?_, ?_, rfl⟩, rfl⟩
    · rw [gI_sI, if_neg (by omega)]; exact f3
    · rw [gI_sI, if_neg (by omega)]; exact f3'
    · rw [gI_sI, if_neg (by omega)]; exact f4
    · rw [gI_sI, if_neg (by omega)]; exact f5
/-! the next round by numbers -/
def upT (n : Nat) : Nat → List Nat → Nat → Option (List Nat)
  | 0, _, _ => none
  | f + 1, p, from' => if nx (fun w => decide (from' ≤ w) && !(usB p).testBit w) n < n then some (nx (fun w => decide (from' ≤ w) && !(usB p).testBit w) n :: p) else match p with
    | [] => none
    | w :: t => upT n f t (w + 1)
def tnT (n : Nat) (b : Bool) (p : List Nat) : Option (List Nat) := match b with
  | true => upT n 7 p 0
  | false => match p with
    | [] => upT n 7 [] 0
    | w :: t => upT n 7 t (w + 1)
/-- what a turn ends in -/
def TnP (B : Mem) (T : TownA) (o x y : Nat) (M : Mem) (z : Option (List Nat)) (r : Option (Bool × Mem)) : Prop := ∃ M', gA M' 19 9 = gA M 19 9 ∧ FX B M' ∧ ((∃ q, z = some q ∧ r = some (true, M') ∧ WK B T o x y q M') ∨ (z = none ∧ r = some (false, M')))
theorem turn17_v (hV : TV T) (hx : x < 100) (hy : y < 100) (hB : TX B o T) (ho : o < 10) (h : WK B T o x y p M) (from' : Nat) (hf : from' ≤ tW T) (b : Bool) : TnP B T o x y M (upT (tW T) 7 p from') (f_X7_turn_17 b FU (nI from', nI 0, M)) := by
  have h6 := hV.1.2.2.2.2
  have hl := VS_le h.1
  unfold f_X7_turn_17
  refine lpU_inv (fun i a => ∃ q fr M', a = (nI fr, nI i, M') ∧ WK B T o x y q M' ∧ q.length + i ≤ 6 ∧ fr ≤ tW T ∧ upT (tW T) 7 p from' = upT (tW T) (7 - i) q fr ∧ gA M' 19 9 = gA M 19 9) 7 (fun r => TnP B T o x y M (upT (tW T) 7 p from') r) (by omega) ?_ ?_ 0 _ (Nat.zero_le _) ⟨p, from', M, rfl, h, by omega, hf, rfl, rfl⟩
  · rintro rc a ⟨q, fr, M1, rfl, -, hi, -⟩
    omega
  · rintro rc i a hi ⟨q, fr, M1, rfl, hk, hqi, hfr, hu, h9⟩
    show TnP B T o x y M _ (b_X7_turn_17 b _ (nI fr) (nI i) M1) ∨ ∃ a', _ ∧ b_X7_turn_17 b _ (nI fr) (nI i) M1 = _
    unfold b_X7_turn_17
    rw [if_neg (nI_nlt (by omega) (by omega))]
    unfold f_X7_turn_26
    have hX1 := wk_X hB ho hk
    obtain ⟨g, hg⟩ : ∃ g, 7 - i = g + 1 := ⟨6 - i, by omega⟩
    rw [hg] at hu
    refine lpU_inv (fun w a => a = (nI w, M1) ∧ fr ≤ w ∧ ∀ v, fr ≤ v → v < w → (usB q).testBit v = true) (tW T) (fun r => TnP B T o x y M (upT (tW T) 7 p from') r ∨ ∃ a', (∃ q fr M', a' = (nI fr, nI (i + 1), M') ∧ WK B T o x y q M' ∧ q.length + (i + 1) ≤ 6 ∧ fr ≤ tW T ∧ upT (tW T) 7 p from' = upT (tW T) (7 - (i + 1)) q fr ∧ gA M' 19 9 = gA M 19 9) ∧ r = rc a') (by omega) ?_ ?_ fr _ hfr ⟨rfl, Nat.le_refl _, fun v a b => by omega⟩
    · rintro rc2 a ⟨rfl, -, hset⟩
      show TnP B T o x y M _ (b_X7_turn_26 b _ (nI i) _ (nI (tW T)) M1) ∨ ∃ a', _ ∧ b_X7_turn_26 b _ (nI i) _ (nI (tW T)) M1 = _
      unfold b_X7_turn_26
      have hnx : ¬ nx (fun w => decide (fr ≤ w) && !(usB q).testBit w) (tW T) < tW T := fun z => by
        have := nx_hit z
        rw [Bool.and_eq_true, decide_eq_true_eq, hset _ this.1 z] at this
        exact absurd this.2 (by decide)
      rw [hk.2.1.2, hX1.1.2.2.2.2, if_pos (nI_le (Nat.le_refl _) (by omega)), hk.2.2.2.1, ite_p (eq_n (b := 0) (by have := VS_le hk.1; omega) (by omega))]
      cases q with
      | nil =>
        left
        rw [if_pos (show ([] : List Nat).length = 0 from rfl)]
        refine ⟨M1, h9, hk.2.1.1, Or.inr ⟨?_, rfl⟩⟩
        rw [hu]
        show (if _ then _ else _) = _
        rw [if_neg hnx]
      | cons w0 q0 =>
        right
        obtain ⟨M2, k1, k2, k3⟩ := back_v hV hB ho hk
        have hw0 := hk.1.1
        have hlen : (w0 :: q0).length = q0.length + 1 := rfl
        rw [if_neg (show ¬ (w0 :: q0).length = 0 by rw [hlen]; omega), k1, bp_s, nI_add, nI_add, nm_s, nm_s]
        refine ⟨_, ⟨q0, w0 + 1, M2, rfl, k2, by rw [hlen] at hqi; omega, hw0, ?_, by rw [k3, h9]⟩, rfl⟩
        rw [hu, show 7 - (i + 1) = g by omega]
        show (if _ then _ else _) = _
        rw [if_neg hnx]
    · rintro rc2 w a hw ⟨rfl, hfw, hset⟩
      show (TnP B T o x y M _ (b_X7_turn_26 b _ (nI i) _ (nI w) M1) ∨ ∃ a', _ ∧ b_X7_turn_26 b _ (nI i) _ (nI w) M1 = _) ∨ ∃ a', _ ∧ b_X7_turn_26 b _ (nI i) _ (nI w) M1 = _
      unfold b_X7_turn_26
      rw [hk.2.1.2, hX1.1.2.2.2.2, if_neg (nI_ge hw (by omega))]
      by_cases c : (usB q).testBit w = true
      · right
        rw [go_n hB ho hV hk (by omega) (Or.inr c), bp_s, if_neg (by decide), nI_add, nm_s]
        refine ⟨_, ⟨rfl, by omega, fun v a b => ?_⟩, rfl⟩
        by_cases r : v = w
        · rw [r]; exact c
        · exact hset v a (by omega)
      · left
        left
        have c' : (usB q).testBit w = false := by simpa using c
        obtain ⟨M2, k1, k2, k3⟩ := go_v hV hx hy hB ho hk hw c'
        rw [k1, bp_s, if_pos rfl]
        have hnx : nx (fun w => decide (fr ≤ w) && !(usB q).testBit w) (tW T) = w := nx_eq hw (by show (decide (fr ≤ w) && !(usB q).testBit w) = true; rw [c', decide_eq_true hfw]; rfl) (fun j hj => by
          show (decide (fr ≤ j) && !(usB q).testBit j) = false
          by_cases r : fr ≤ j
          · rw [hset j r hj]; simp
          · rw [decide_eq_false r]; rfl)
        refine ⟨M2, by rw [k3, h9], k2.2.1.1, Or.inl ⟨w :: q, ?_, rfl, k2⟩⟩
        rw [hu]
        show (if nx (fun w => decide (fr ≤ w) && !(usB q).testBit w) (tW T) < tW T then some (nx (fun w => decide (fr ≤ w) && !(usB q).testBit w) (tW T) :: q) else _) = _
        rw [hnx, if_pos hw]
theorem TnP_9 {M2 : Mem} {z : Option (List Nat)} {r : Option (Bool × Mem)} (h : TnP B T o x y M2 z r) (e : gA M2 19 9 = gA M 19 9) : TnP B T o x y M z r := by
  obtain ⟨M', a, b, c⟩ := h
  exact ⟨M', by rw [a, e], b, c⟩
theorem turn_v (hV : TV T) (hx : x < 100) (hy : y < 100) (hB : TX B o T) (ho : o < 10) (h : WK B T o x y p M) (b : Bool) : TnP B T o x y M (tnT (tW T) b p) (f_X7_turn M b) := by
  unfold f_X7_turn f_X7_turn_14
  cases b with
  | true =>
    rw [if_pos rfl]
    exact turn17_v hV hx hy hB ho h 0 (Nat.zero_le _) true
  | false =>
    rw [if_neg (by decide)]
    cases p with
    | nil =>
      have e : f_X7_back M = some (-1, M) := by
        have h3 : gI M 19 3 = nI 0 := h.2.2.2.1
        unfold f_X7_back
        rw [h3, if_neg (nI_ge (by omega) (by omega))]
      rw [e, bp_s, show (-1 : Int32) + nI 1 = nI 0 by decide +kernel]
      exact turn17_v hV hx hy hB ho h 0 (Nat.zero_le _) false
    | cons w t =>
      obtain ⟨M2, k1, k2, k3⟩ := back_v hV hB ho h
      rw [k1, bp_s, nI_add]
      exact TnP_9 (turn17_v hV hx hy hB ho k2 (w + 1) h.1.1 false) k3
end Walk
