/-! WALKS: all rounds in their order, as lists; a search that leaves out what can't help -/
def grU (n : Nat) : Nat → List Nat → Nat → List (Nat × List Nat)
  | 0, p, L => [(L, p)]
  | d + 1, p, L => match (List.range n).filter (fun w => !(usB p).testBit w) with
    | [] => []
    | w :: ks => grU n d (w :: p) L ++ ks.flatMap (fun v => grU n d (v :: p) p.length)
def GR (n : Nat) : List (Nat × List Nat) := if n = 0 then [] else grU n n [] 0
def chn (n L : Nat) (y : List Nat) : List (List Nat) := (List.range (n - L)).map (fun i => y.drop (n - L - 1 - i))
def ND (n : Nat) : List (List Nat) := (GR n).flatMap (fun g => chn n g.1 g.2)
def szT : Nat → Nat
  | 0 => 1
  | m + 1 => 1 + (m + 1) * szT m
def exB (q : List Nat) : List Nat → Bool
  | [] => false
  | w :: t => (w :: t == q) || exB q t
def ckN (n : Nat) : List (List Nat) → Bool
  | [] => true
  | q :: rest => decide (0 < q.length) && (tnT n true q == rest.head?) && (tnT n false q == (rest.drop (szT (n - q.length) - 1)).head?) && (rest.take (szT (n - q.length) - 1)).all (fun y => exB q y) && ckN n rest
theorem ND_ck : ∀ n, n < 7 → ckN n (ND n) = true ∧ tnT n true [] = (ND n).head? ∧ (ND n).length < 1957 := by decide +kernel
theorem foldl_id {σ : Type} {g : σ → List Nat → σ} {s : σ} : ∀ l : List (List Nat), (∀ y, y ∈ l → g s y = s) → l.foldl g s = s := by
  intro l
  induction l with
  | nil => intro _; rfl
  | cons a l ih =>
    intro h
    show l.foldl g (g s a) = s
    rw [h a (List.mem_cons_self), ih (fun y hy => h y (List.mem_cons_of_mem _ hy))]
theorem ckN_drop {n : Nat} : ∀ (k : Nat) (l : List (List Nat)), ckN n l = true → ckN n (l.drop k) = true := by
  intro k
  induction k with
  | zero => intro l h; exact h
  | succ k ih =>
    intro l h
    cases l with
    | nil => rfl
    | cons a l =>
      show ckN n (l.drop k) = true
      refine ih l ?_
      unfold ckN at h
      rw [Bool.and_eq_true] at h
      exact h.2
/-- a search through the rounds, at a round p; b: whether longer ones are to be looked at -/
def SJ {σ : Type} (n : Nat) (g : σ → List Nat → σ) (s0 : σ) (i : Nat) (s : σ) (b : Bool) (p : List Nat) : Prop := ∃ pre rest, ND n = pre ++ rest ∧ i ≤ pre.length ∧ s = pre.foldl g s0 ∧ tnT n b p = rest.head? ∧ ckN n rest = true
theorem SJ_0 {σ : Type} {n : Nat} (hn : n < 7) (g : σ → List Nat → σ) (s0 : σ) : SJ n g s0 0 s0 true [] := by
  obtain ⟨h1, h2, -⟩ := ND_ck n hn
  exact ⟨[], ND n, rfl, Nat.zero_le _, rfl, h2, h1⟩
theorem SJ_len {σ : Type} {n : Nat} (hn : n < 7) {g : σ → List Nat → σ} {s0 : σ} {i : Nat} {s : σ} {b : Bool} {p : List Nat} (h : SJ n g s0 i s b p) : i < 1957 := by
  obtain ⟨pre, rest, h1, h2, -⟩ := h
  have h3 := (ND_ck n hn).2.2
  rw [h1, List.length_append] at h3
  omega
theorem SJ_end {σ : Type} {n : Nat} {g : σ → List Nat → σ} {s0 : σ} {i : Nat} {s : σ} {b : Bool} {p : List Nat} (h : SJ n g s0 i s b p) (e : tnT n b p = none) : s = (ND n).foldl g s0 := by
  obtain ⟨pre, rest, h1, -, h3, h4, -⟩ := h
  rw [e] at h4
  cases rest with
  | nil => rw [h1, List.append_nil]; exact h3
  | cons a l => cases h4
theorem SJ_step {σ : Type} {n : Nat} {g : σ → List Nat → σ} {s0 : σ} {i : Nat} {s : σ} {b : Bool} {p q : List Nat} (h : SJ n g s0 i s b p) (e : tnT n b p = some q) (lg : Bool) (hp : lg = false → ∀ y, exB q y = true → g (g s q) y = g s q) : SJ n g s0 (i + 1) (g s q) lg q ∧ 0 < q.length := by
  obtain ⟨pre, rest, h1, h2, h3, h4, h5⟩ := h
  rw [e] at h4
  cases rest with
  | nil => cases h4
  | cons a l =>
    have ea : q = a := by
      have : some q = some a := h4
      exact Option.some.inj this
    subst ea
    unfold ckN at h5
    rw [Bool.and_eq_true, Bool.and_eq_true, Bool.and_eq_true, Bool.and_eq_true, decide_eq_true_eq, beq_iff_eq, beq_iff_eq, List.all_eq_true] at h5
    obtain ⟨⟨⟨⟨c1, c2⟩, c3⟩, c4⟩, c5⟩ := h5
    refine ⟨?_, c1⟩
    cases lg with
    | true =>
      refine ⟨pre ++ [q], l, by rw [h1, List.append_assoc]; rfl, ?_, ?_, c2, c5⟩
      · rw [List.length_append]
        show i + 1 ≤ pre.length + 1
        omega
      · rw [List.foldl_append, ← h3]
        rfl
    | false =>
      refine ⟨pre ++ (q :: l.take (szT (n - q.length) - 1)), l.drop (szT (n - q.length) - 1), ?_, ?_, ?_, c3, ckN_drop _ _ c5⟩
      · rw [h1, List.append_assoc, List.cons_append, List.take_append_drop]
      · rw [List.length_append]
        show i + 1 ≤ pre.length + ((l.take (szT (n - q.length) - 1)).length + 1)
        omega
      · rw [List.foldl_append, ← h3]
        show g s q = (l.take (szT (n - q.length) - 1)).foldl g (g s q)
        rw [foldl_id _ (fun y hy => hp rfl y (c4 y hy))]
/-! what grows along a round -/
def dayS (T : TownA) (x y : Nat) (q : List Nat) : Nat := dyF T x y (rowF q) (q.length - 1)
def latS (T : TownA) (x y : Nat) (q : List Nat) : Nat := ltF T x y (rowF q) q.length
theorem ex_late {T : TownA} {x y : Nat} {q : List Nat} : ∀ {z : List Nat}, exB q z = true → latS T x y q ≤ latS T x y z
  | [], h => by cases h
  | w :: t, h => by
    unfold exB at h
    rw [Bool.or_eq_true, beq_iff_eq] at h
    rcases h with h | h
    · rw [h]; exact Nat.le_refl _
    · have i := ex_late (T := T) (x := x) (y := y) h
      have e : latS T x y (w :: t) = latS T x y t + (ldN T w (cmN T x y t w) - tDu T w) := ltF_top T x y w t
      omega
/-- the days of one more: with what is left of sewing -/
theorem ex_day1 {T : TownA} (hV : TV T) {x y : Nat} {w : Nat} {t : List Nat} (hw : w < tW T) (hb : (usB t).testBit w = false) (hl : 0 < t.length) : dayS T x y t + unS T t ≤ dayS T x y (w :: t) + unS T (w :: t) := by
  have e1 : dayS T x y (w :: t) = ldN T w (cmN T x y t w) := dyF_top T x y w t
  have e2 := unS_c hw hb
  have e3 := (ldN_b hV (c := cmN T x y t w) hw).1
  have e4 : cmN T x y t w = dayS T x y t + 1 + tWay T (tXs T (rowF t (t.length - 1))) (tYs T (rowF t (t.length - 1))) w := by
    unfold cmN
    rw [if_neg (by omega)]
    rfl
  omega
theorem ex_day {T : TownA} (hV : TV T) {x y : Nat} {q : List Nat} (hq : 0 < q.length) : ∀ {z : List Nat}, VS (tW T) z → exB q z = true → dayS T x y q + unS T q ≤ dayS T x y z + unS T z
  | [], _, h => by cases h
  | w :: t, hz, h => by
    unfold exB at h
    rw [Bool.or_eq_true, beq_iff_eq] at h
    rcases h with h | h
    · rw [h]; exact Nat.le_refl _
    · have i := ex_day hV hq (x := x) (y := y) hz.2.2 h
      have hl : 0 < t.length := by
        cases t with
        | nil => cases h
        | cons a b => exact Nat.succ_pos _
      have := ex_day1 hV (x := x) (y := y) hz.1 hz.2.1 hl
      omega
def vsB (n : Nat) : List Nat → Bool
  | [] => true
  | w :: p => decide (w < n) && !(usB p).testBit w && vsB n p
theorem vsB_t {n : Nat} : ∀ {p : List Nat}, vsB n p = true ↔ VS n p
  | [] => ⟨fun _ => trivial, fun _ => rfl⟩
  | w :: p => by
    show (decide (w < n) && !(usB p).testBit w && vsB n p) = true ↔ (w < n ∧ (usB p).testBit w = false ∧ VS n p)
    rw [Bool.and_eq_true, Bool.and_eq_true, decide_eq_true_eq, vsB_t (p := p), Bool.not_eq_true', and_assoc]
/-! SOON: the days, the round -/
def gSo (T : TownA) (x y : Nat) (s : Nat × List Nat) (q : List Nat) : Nat × List Nat := if (dayS T x y q + unS T q < s.1 ∧ q.length = tW T) ∧ vsB (tW T) q = true then (dayS T x y q + unS T q, q) else s
def gLa (T : TownA) (x y : Nat) (s : Nat) (q : List Nat) : Nat := if latS T x y q < s ∧ q.length = tW T then latS T x y q else s
def gMo (T : TownA) (x y : Nat) (s : Nat × List Nat) (q : List Nat) : Nat × List Nat := if latS T x y q = 0 ∧ s.1 < q.length then (q.length, q) else s
/-- the class's best row -/
def BS (M : Mem) (b : List Nat) : Prop := ∀ j, j < b.length → gA M 19 9 j = nI (rowF b j)
section Walk
variable {B : Mem} {T : TownA} {o x y : Nat} {p : List Nat} {M : Mem}
theorem BS_9 {M M' : Mem} {b : List Nat} (h : BS M b) (e : gA M' 19 9 = gA M 19 9) : BS M' b := fun j hj => by rw [e]; exact h j hj
theorem wk_day (hV : TV T) (hx : x < 100) (hy : y < 100) (h : WK B T o x y p M) (hp : 0 < p.length) : f_X7_lastDone M = some (nI (dayS T x y p)) ∧ dayS T x y p ≤ 2400 := by
  have hl := wk_len hV h
  rw [lastDone_v hV h, if_neg (by omega)]
  refine ⟨rfl, ?_⟩
  have := dyF_b hV hx hy (VS_row h.1) (p.length - 1) (by omega)
  unfold dayS
  omega
theorem wk_late (hV : TV T) (hx : x < 100) (hy : y < 100) (h : WK B T o x y p M) : f_X7_lateSum M = some (nI (latS T x y p)) ∧ latS T x y p ≤ 14400 := by
  have hl := wk_len hV h
  rw [lateSum_v hV h]
  refine ⟨rfl, ?_⟩
  have := ltF_b hV hx hy (VS_row h.1) hl.1 p.length (Nat.le_refl _)
  unfold latS
  omega
theorem keepBest_v (hV : TV T) (h : WK B T o x y p M) : ∃ M', f_X7_keepBest M = some M' ∧ WK B T o x y p M' ∧ BS M' p := by
  have hl := wk_len hV h
  unfold f_X7_keepBest
  rw [nm_s]
  obtain ⟨hVS, hFR, hXY, hL, hU, hN, hR⟩ := h
  refine ⟨_, rfl, ⟨hVS, ⟨FX_tr hFR.1 (FX_cpA _ (by omega)), hFR.2⟩, hXY, hL, hU, hN, fun j hj => ?_⟩, fun j hj => ?_⟩
  · obtain ⟨k1, k2, k3⟩ := hR j hj
    rw [gA_cpA, if_neg (by omega), gA_cpA, if_neg (by omega), gA_cpA, if_neg (by omega)]
    exact ⟨k1, k2, k3⟩
  · rw [gA_cpA, if_pos ⟨rfl, rfl, by omega⟩]
    exact (hR j hj).1
theorem soonest_v (hV : TV T) (hx : x < 100) (hy : y < 100) (hB : TX B o T) (ho : o < 10) (h : WK B T o x y [] M) {l : Nat} (hl : l ≤ 1000000) : ∃ M' s, s = (ND (tW T)).foldl (gSo T x y) (l, []) ∧ f_X7_soonest M (nI l) = some (nI s.1, M') ∧ FX B M' ∧ BS M' s.2 := by
  have h6 := hV.1.2.2.2.2
  unfold f_X7_soonest f_X7_soonest_7
  refine lpU_inv (fun i a => ∃ s b q M', a = (nI s.1, b, nI i, M') ∧ SJ (tW T) (gSo T x y) (l, []) i s b q ∧ s.1 ≤ 1000000 ∧ WK B T o x y q M' ∧ BS M' s.2) 1957 (fun r => ∃ M' s, s = (ND (tW T)).foldl (gSo T x y) (l, []) ∧ r = some (nI s.1, M') ∧ FX B M' ∧ BS M' s.2) (by omega) ?_ ?_ 0 _ (Nat.zero_le _) ⟨(l, []), true, [], M, rfl, SJ_0 (by omega) _ _, hl, h, fun j hj => absurd hj (Nat.not_lt_zero j)⟩
  · rintro rc a ⟨s, b, q, M1, rfl, hJ, -⟩
    have := SJ_len (by omega) hJ
    omega
  · rintro rc i a hi ⟨s, b, q, M1, rfl, hJ, hs, hk, hbs⟩
    show (∃ M' s, _ ∧ b_X7_soonest_7 (nI l) _ (nI _) b (nI i) M1 = _ ∧ _) ∨ ∃ a', _ ∧ b_X7_soonest_7 (nI l) _ (nI s.1) b (nI i) M1 = _
    unfold b_X7_soonest_7 f_X7_soonest_45 f_X7_soonest_71
    obtain ⟨M2, k9, kF, ⟨q2, e1, e2, hk2⟩ | ⟨e1, e2⟩⟩ := turn_v hV hx hy hB ho hk b
    · right
      have hX2 := wk_X hB ho hk2
      have hu := unS_b hV q2
      have hb2 := BS_9 hbs k9
      obtain ⟨hJ2, hq⟩ := SJ_step hJ e1 (decide (dayS T x y q2 + unS T q2 < s.1)) (fun hlg z hz => by
        have n1 : ¬ dayS T x y q2 + unS T q2 < s.1 := of_decide_eq_false hlg
        have e0 : gSo T x y s q2 = s := if_neg (fun c => n1 c.1.1)
        rw [e0]
        refine if_neg (fun c => ?_)
        have hq0 : 0 < q2.length := by
          have := SJ_step hJ e1 true (fun h => by cases h)
          exact this.2
        have := ex_day hV (x := x) (y := y) hq0 (vsB_t.mp c.2) hz
        have := c.1.1
        omega)
      obtain ⟨g1, g2⟩ := wk_day hV hx hy hk2 hq
      have hlen := wk_len hV hk2
      rw [if_neg (nI_ge hi (by omega)), e2, bp_s, if_pos rfl, g1, bn_s, hk2.2.2.2.2.2.1, nI_add, nm_s, ite_p (le_n (by omega) (by omega)), nI_add]
      by_cases c : dayS T x y q2 + unS T q2 < s.1
      · rw [if_neg (by omega), if_pos rfl, hk2.2.2.2.1, hk2.2.1.2, hX2.1.2.2.2.2, ite_p (eq_n (by omega) (by omega))]
        rw [decide_eq_true c] at hJ2
        by_cases c2 : q2.length = tW T
        · have e3 : gSo T x y s q2 = (dayS T x y q2 + unS T q2, q2) := if_pos ⟨⟨c, c2⟩, vsB_t.mpr hk2.1⟩
          obtain ⟨M3, k1, k2, k3⟩ := keepBest_v hV hk2
          rw [if_pos c2, k1, bn_s, nm_s]
          rw [e3] at hJ2
          exact ⟨_, ⟨_, true, q2, M3, rfl, hJ2, by show dayS T x y q2 + unS T q2 ≤ 1000000; omega, k2, k3⟩, rfl⟩
        · have e3 : gSo T x y s q2 = s := if_neg (fun z => c2 z.1.2)
          rw [if_neg c2, nm_s]
          rw [e3] at hJ2
          exact ⟨_, ⟨s, true, q2, M2, rfl, hJ2, hs, hk2, hb2⟩, rfl⟩
      · have e3 : gSo T x y s q2 = s := if_neg (fun z => c z.1.1)
        rw [if_pos (by omega), if_neg (by decide), nm_s]
        rw [e3, decide_eq_false c] at hJ2
        exact ⟨_, ⟨s, false, q2, M2, rfl, hJ2, hs, hk2, hb2⟩, rfl⟩
    · left
      rw [if_neg (nI_ge hi (by omega)), e2, bp_s, if_neg (by decide)]
      exact ⟨M2, s, SJ_end hJ e1, rfl, kF, BS_9 hbs k9⟩
theorem leastLate_v (hV : TV T) (hx : x < 100) (hy : y < 100) (hB : TX B o T) (ho : o < 10) (h : WK B T o x y [] M) : ∃ M', f_X7_leastLate M = some (nI ((ND (tW T)).foldl (gLa T x y) 1000000), M') ∧ FX B M' := by
  have h6 := hV.1.2.2.2.2
  unfold f_X7_leastLate f_X7_leastLate_7
  refine lpU_inv (fun i a => ∃ s b q M', a = (nI s, b, nI i, M') ∧ SJ (tW T) (gLa T x y) 1000000 i s b q ∧ s ≤ 1000000 ∧ WK B T o x y q M') 1957 (fun r => ∃ M', r = some (nI ((ND (tW T)).foldl (gLa T x y) 1000000), M') ∧ FX B M') (by omega) ?_ ?_ 0 _ (Nat.zero_le _) ⟨1000000, true, [], M, rfl, SJ_0 (by omega) _ _, Nat.le_refl _, h⟩
  · rintro rc a ⟨s, b, q, M1, rfl, hJ, -⟩
    have := SJ_len (by omega) hJ
    omega
  · rintro rc i a hi ⟨s, b, q, M1, rfl, hJ, hs, hk⟩
    show (∃ M', b_X7_leastLate_7 _ (nI s) b (nI i) M1 = _ ∧ _) ∨ ∃ a', _ ∧ b_X7_leastLate_7 _ (nI s) b (nI i) M1 = _
    unfold b_X7_leastLate_7 f_X7_leastLate_35 f_X7_leastLate_59
    obtain ⟨M2, k9, kF, ⟨q2, e1, e2, hk2⟩ | ⟨e1, e2⟩⟩ := turn_v hV hx hy hB ho hk b
    · right
      have hX2 := wk_X hB ho hk2
      obtain ⟨hJ2, hq⟩ := SJ_step hJ e1 (decide (latS T x y q2 < s)) (fun hlg z hz => by
        have n1 : ¬ latS T x y q2 < s := of_decide_eq_false hlg
        have e0 : gLa T x y s q2 = s := if_neg (fun c => n1 c.1)
        rw [e0]
        refine if_neg (fun c => ?_)
        have := ex_late (T := T) (x := x) (y := y) hz
        have := c.1
        omega)
      obtain ⟨g1, g2⟩ := wk_late hV hx hy hk2
      have hlen := wk_len hV hk2
      rw [if_neg (nI_ge hi (by omega)), e2, bp_s, if_pos rfl, g1, bn_s, bn_s, ite_p (le_n (by omega) (by omega)), nI_add]
      by_cases c : latS T x y q2 < s
      · rw [if_neg (by omega), if_pos rfl, hk2.2.2.2.1, hk2.2.1.2, hX2.1.2.2.2.2, ite_p (eq_n (by omega) (by omega))]
        rw [decide_eq_true c] at hJ2
        by_cases c2 : q2.length = tW T
        · have e3 : gLa T x y s q2 = latS T x y q2 := if_pos ⟨c, c2⟩
          rw [if_pos c2, bn_s, nm_s]
          rw [e3] at hJ2
          exact ⟨_, ⟨_, true, q2, M2, rfl, hJ2, by omega, hk2⟩, rfl⟩
        · have e3 : gLa T x y s q2 = s := if_neg (fun z => c2 z.2)
          rw [if_neg c2, nm_s]
          rw [e3] at hJ2
          exact ⟨_, ⟨s, true, q2, M2, rfl, hJ2, hs, hk2⟩, rfl⟩
      · have e3 : gLa T x y s q2 = s := if_neg (fun z => c z.1)
        rw [if_pos (by omega), if_neg (by decide), nm_s]
        rw [e3, decide_eq_false c] at hJ2
        exact ⟨_, ⟨s, false, q2, M2, rfl, hJ2, hs, hk2⟩, rfl⟩
    · left
      rw [if_neg (nI_ge hi (by omega)), e2, bp_s, if_neg (by decide), SJ_end hJ e1]
      exact ⟨M2, rfl, kF⟩
theorem most_v (hV : TV T) (hx : x < 100) (hy : y < 100) (hB : TX B o T) (ho : o < 10) (h : WK B T o x y [] M) : ∃ M' s, s = (ND (tW T)).foldl (gMo T x y) (0, []) ∧ f_X7_most M = some (nI s.1, M') ∧ FX B M' ∧ BS M' s.2 ∧ s.1 = s.2.length ∧ s.1 ≤ tW T := by
  have h6 := hV.1.2.2.2.2
  unfold f_X7_most f_X7_most_6
  refine lpU_inv (fun i a => ∃ s b q M', a = (nI s.1, b, nI i, M') ∧ SJ (tW T) (gMo T x y) (0, []) i s b q ∧ (s.1 = s.2.length ∧ s.1 ≤ tW T) ∧ WK B T o x y q M' ∧ BS M' s.2) 1957 (fun r => ∃ M' s, s = (ND (tW T)).foldl (gMo T x y) (0, []) ∧ r = some (nI s.1, M') ∧ FX B M' ∧ BS M' s.2 ∧ s.1 = s.2.length ∧ s.1 ≤ tW T) (by omega) ?_ ?_ 0 _ (Nat.zero_le _) ⟨(0, []), true, [], M, rfl, SJ_0 (by omega) _ _, ⟨rfl, Nat.zero_le _⟩, h, fun j hj => absurd hj (Nat.not_lt_zero j)⟩
  · rintro rc a ⟨s, b, q, M1, rfl, hJ, -⟩
    have := SJ_len (by omega) hJ
    omega
  · rintro rc i a hi ⟨s, b, q, M1, rfl, hJ, hs, hk, hbs⟩
    show (∃ M' s, _ ∧ b_X7_most_6 _ (nI _) b (nI i) M1 = _ ∧ _) ∨ ∃ a', _ ∧ b_X7_most_6 _ (nI s.1) b (nI i) M1 = _
    unfold b_X7_most_6 f_X7_most_33 f_X7_most_55
    obtain ⟨M2, k9, kF, ⟨q2, e1, e2, hk2⟩ | ⟨e1, e2⟩⟩ := turn_v hV hx hy hB ho hk b
    · right
      have hb2 := BS_9 hbs k9
      obtain ⟨hJ2, hq⟩ := SJ_step hJ e1 (decide (latS T x y q2 = 0)) (fun hlg z hz => by
        have n1 : ¬ latS T x y q2 = 0 := of_decide_eq_false hlg
        have e0 : gMo T x y s q2 = s := if_neg (fun c => n1 c.1)
        rw [e0]
        refine if_neg (fun c => ?_)
        have := ex_late (T := T) (x := x) (y := y) hz
        have := c.1
        omega)
      obtain ⟨g1, g2⟩ := wk_late hV hx hy hk2
      have hlen := wk_len hV hk2
      rw [if_neg (nI_ge hi (by omega)), e2, bp_s, if_pos rfl, g1, bn_s, ite_p (eq_n (b := 0) (by omega) (by omega)), nI_add]
      by_cases c : latS T x y q2 = 0
      · rw [if_pos c, if_pos rfl, hk2.2.2.2.1, ite_p (le_n (by omega) (by omega))]
        rw [decide_eq_true c] at hJ2
        by_cases c2 : q2.length ≤ s.1
        · have e3 : gMo T x y s q2 = s := if_neg (fun z => by have := z.2; omega)
          rw [if_pos c2, nm_s]
          rw [e3] at hJ2
          exact ⟨_, ⟨s, true, q2, M2, rfl, hJ2, hs, hk2, hb2⟩, rfl⟩
        · have e3 : gMo T x y s q2 = (q2.length, q2) := if_pos ⟨c, by omega⟩
          obtain ⟨M3, k1, k2, k3⟩ := keepBest_v hV hk2
          rw [if_neg c2, nm_s, k1, bn_s, nm_s]
          rw [e3] at hJ2
          exact ⟨_, ⟨_, true, q2, M3, rfl, hJ2, ⟨rfl, hlen.2⟩, k2, k3⟩, rfl⟩
      · have e3 : gMo T x y s q2 = s := if_neg (fun z => c z.1)
        rw [if_neg c, if_neg (by decide), nm_s]
        rw [e3, decide_eq_false c] at hJ2
        exact ⟨_, ⟨s, false, q2, M2, rfl, hJ2, hs, hk2, hb2⟩, rfl⟩
    · left
      rw [if_neg (nI_ge hi (by omega)), e2, bp_s, if_neg (by decide)]
      exact ⟨M2, s, SJ_end hJ e1, rfl, kF, BS_9 hbs k9, hs⟩
end Walk
