/-! WALKS: the reference's rows, one after the other -/
def nrK (n : Nat) (r : Nat → Nat) : Nat := nx (fun d => decide (r (n - 2 - d) ≤ r (n - 1 - d))) (n - 1)
def nrI (n : Nat) (r : Nat → Nat) (k : Nat) : Nat := nx (fun e => decide (r k ≤ r (n - 1 - e))) n
def swF (r : Nat → Nat) (a b : Nat) : Nat → Nat := fun j => if j = b then r a else if j = a then r b else r j
def rvF (r : Nat → Nat) (k n : Nat) : Nat → Nat := fun j => if k < j ∧ j < n then r (n + k - j) else r j
def nrF (n : Nat) (r : Nat → Nat) : Nat → Nat := rvF (swF r (n - 2 - nrK n r) (n - 1 - nrI n r (n - 2 - nrK n r))) (n - 2 - nrK n r) n
def ckP (n : Nat) : Option (List Nat) → List (Nat × List Nat) → Bool
  | none, [] => true
  | some y0, [] => decide (nrK n (rowF y0) = n - 1)
  | none, g :: rest => decide (g.1 < n) && (g.2.length == n) && vsB n g.2 && decide (usB g.2 = 2 ^ n - 1) && (g.1 == 0) && (List.range n).all (fun j => rowF g.2 j == j) && ckP n (some g.2) rest
  | some y0, g :: rest => decide (g.1 < n) && (g.2.length == n) && vsB n g.2 && decide (usB g.2 = 2 ^ n - 1) && (List.range g.1).all (fun j => rowF g.2 j == rowF y0 j) && decide (nrK n (rowF y0) < n - 1) && (List.range n).all (fun j => nrF n (rowF y0) j == rowF g.2 j) && ckP n (some g.2) rest
theorem GR_ck : ∀ n, n < 7 → ckP n none (GR n) = true ∧ (GR n).length ≤ 720 ∧ (0 < n → 0 < (GR n).length) := by decide +kernel
/-- what a row of the list is -/
def gOK (n : Nat) (g : Nat × List Nat) : Prop := g.1 < n ∧ g.2.length = n ∧ VS n g.2 ∧ usB g.2 = 2 ^ n - 1
theorem ckP_c {n : Nat} {pv : Option (List Nat)} {g : Nat × List Nat} {rest : List (Nat × List Nat)} (h : ckP n pv (g :: rest) = true) : gOK n g ∧ ckP n (some g.2) rest = true ∧ (pv = none → g.1 = 0 ∧ ∀ j, j < n → rowF g.2 j = j) ∧ ∀ y0, pv = some y0 → (∀ j, j < g.1 → rowF g.2 j = rowF y0 j) ∧ nrK n (rowF y0) < n - 1 ∧ ∀ j, j < n → nrF n (rowF y0) j = rowF g.2 j := by
  cases pv with
  | none =>
    have h2 : (decide (g.1 < n) && (g.2.length == n) && vsB n g.2 && decide (usB g.2 = 2 ^ n - 1) && (g.1 == 0) && (List.range n).all (fun j => rowF g.2 j == j) && ckP n (some g.2) rest) = true := h
    rw [Bool.and_eq_true, Bool.and_eq_true, Bool.and_eq_true, Bool.and_eq_true, Bool.and_eq_true, Bool.and_eq_true, decide_eq_true_eq, decide_eq_true_eq, beq_iff_eq, beq_iff_eq, List.all_eq_true, vsB_t] at h2
    obtain ⟨⟨⟨⟨⟨⟨a, b⟩, c⟩, d⟩, e⟩, f⟩, k⟩ := h2
    exact ⟨⟨a, b, c, d⟩, k, fun _ => ⟨e, fun j hj => by simpa using f j (List.mem_range.mpr hj)⟩, fun y0 q => by cases q⟩
  | some z =>
    have h2 : (decide (g.1 < n) && (g.2.length == n) && vsB n g.2 && decide (usB g.2 = 2 ^ n - 1) && (List.range g.1).all (fun j => rowF g.2 j == rowF z j) && decide (nrK n (rowF z) < n - 1) && (List.range n).all (fun j => nrF n (rowF z) j == rowF g.2 j) && ckP n (some g.2) rest) = true := h
    rw [Bool.and_eq_true, Bool.and_eq_true, Bool.and_eq_true, Bool.and_eq_true, Bool.and_eq_true, Bool.and_eq_true, Bool.and_eq_true, decide_eq_true_eq, decide_eq_true_eq, decide_eq_true_eq, beq_iff_eq, List.all_eq_true, List.all_eq_true, vsB_t] at h2
    obtain ⟨⟨⟨⟨⟨⟨⟨a, b⟩, c⟩, d⟩, e⟩, f⟩, i⟩, k⟩ := h2
    refine ⟨⟨a, b, c, d⟩, k, (fun q => by cases q), fun y0 q => ?_⟩
    have q2 : z = y0 := Option.some.inj q
    subst q2
    exact ⟨fun j hj => by simpa using e j (List.mem_range.mpr hj), f, fun j hj => by simpa using i j (List.mem_range.mpr hj)⟩
theorem ckP_n {n : Nat} {y0 : List Nat} (h : ckP n (some y0) [] = true) : nrK n (rowF y0) = n - 1 := by
  have h2 : decide (nrK n (rowF y0) = n - 1) = true := h
  exact of_decide_eq_true h2
/-! folds over the rounds, by whole ones -/
theorem fold_fm {σ : Type} (g : σ → List Nat → σ) (f : Nat × List Nat → List (List Nat)) : ∀ (l : List (Nat × List Nat)) (s : σ), (l.flatMap f).foldl g s = l.foldl (fun s a => (f a).foldl g s) s := by
  intro l
  induction l with
  | nil => intro s; rfl
  | cons a l ih =>
    intro s
    rw [List.flatMap_cons, List.foldl_append, ih]
    rfl
theorem rowF_drop : ∀ (d : Nat) (y : List Nat) (j : Nat), j + d < y.length → rowF (y.drop d) j = rowF y j := by
  intro d
  induction d with
  | zero => intro y j _; rfl
  | succ d ih =>
    intro y j h
    cases y with
    | nil => exact absurd h (Nat.not_lt_zero _)
    | cons w p =>
      have h2 : j + (d + 1) < p.length + 1 := h
      show rowF (p.drop d) j = if j = p.length then w else rowF p j
      rw [ih p j (by omega), if_neg (by omega)]
theorem chn_last {σ : Type} {g : σ → List Nat → σ} {n : Nat} (hg : ∀ s q, q.length < n → g s q = s) {L : Nat} {y : List Nat} (hL : L < n) (hy : y.length = n) (s : σ) : (chn n L y).foldl g s = g s y := by
  unfold chn
  obtain ⟨k, hk⟩ : ∃ k, n - L = k + 1 := ⟨n - L - 1, by omega⟩
  have e : ((List.range k).map (fun i => y.drop (k + 1 - 1 - i))).foldl g s = s := by
    refine foldl_id _ (fun z hz => ?_)
    obtain ⟨i, hi, rfl⟩ := List.mem_map.mp hz
    have hi2 := List.mem_range.mp hi
    apply hg
    rw [List.length_drop]
    omega
  rw [hk, List.range_succ, List.map_append, List.foldl_append, e]
  show g s (y.drop (k + 1 - 1 - k)) = g s y
  rw [show k + 1 - 1 - k = 0 by omega]
  rfl
def gRs (T : TownA) (x y : Nat) (s : Nat × List Nat) (q : List Nat) : Nat × List Nat := if dayS T x y q < s.1 then (dayS T x y q, q) else s
def itS (T : TownA) (x y : Nat) (q : List Nat) : Nat := nx (fun k => decide (tDu T (rowF q k) < dyF T x y (rowF q) k)) (tW T)
def gRm (T : TownA) (x y : Nat) (s : Nat × List Nat) (q : List Nat) : Nat × List Nat := if s.1 < itS T x y q + 1 then (itS T x y q + 1, q) else s
def gRl (T : TownA) (x y : Nat) (s : Nat) (q : List Nat) : Nat := min s (latS T x y q)
def sRs (T : TownA) (x y l : Nat) (b : List Nat) : Nat × List Nat := (GR (tW T)).foldl (fun s g => gRs T x y s g.2) (l, b)
def sRm (T : TownA) (x y : Nat) : Nat × List Nat := (GR (tW T)).foldl (fun s g => gRm T x y s g.2) (0, [])
def sRl (T : TownA) (x y : Nat) : Nat := (GR (tW T)).foldl (fun s g => gRl T x y s g.2) 1000000
theorem fold_ok {σ : Type} {n : Nat} {f f' : σ → Nat × List Nat → σ} (h : ∀ s g, gOK n g → f s g = f' s g) : ∀ (l : List (Nat × List Nat)) (pv : Option (List Nat)) (s : σ), ckP n pv l = true → l.foldl f s = l.foldl f' s := by
  intro l
  induction l with
  | nil => intro pv s _; rfl
  | cons a l ih =>
    intro pv s hc
    obtain ⟨h1, h2, -⟩ := ckP_c hc
    show l.foldl f (f s a) = l.foldl f' (f' s a)
    rw [h s a h1, ih _ _ h2]
theorem unS_0 {T : TownA} {q : List Nat} (h : usB q = 2 ^ tW T - 1) : unS T q = 0 := by
  unfold unS
  refine gS_0 _ (fun v hv => ?_)
  show (if (usB q).testBit v = true then 0 else tSew T v) = 0
  rw [h, all_tb, if_pos (decide_eq_true hv)]
theorem so_eq {T : TownA} (hV : TV T) (x y l : Nat) (b : List Nat) : (ND (tW T)).foldl (gSo T x y) (l, b) = sRs T x y l b := by
  have h6 := hV.1.2.2.2.2
  unfold ND sRs
  rw [fold_fm]
  refine fold_ok (n := tW T) (fun s g hg => ?_) _ none _ (GR_ck _ (by omega)).1
  obtain ⟨g1, g2, g3, g4⟩ := hg
  rw [chn_last (g := gSo T x y) (fun s q hq => if_neg (fun c => by have := c.1.2; omega)) g1 g2]
  unfold gSo gRs
  rw [unS_0 g4, Nat.add_zero]
  by_cases c : dayS T x y g.2 < s.1
  · rw [if_pos ⟨⟨c, g2⟩, vsB_t.mpr g3⟩, if_pos c]
  · rw [if_neg (fun z => c z.1.1), if_neg c]
theorem la_eq {T : TownA} (hV : TV T) (x y : Nat) : (ND (tW T)).foldl (gLa T x y) 1000000 = sRl T x y := by
  have h6 := hV.1.2.2.2.2
  unfold ND sRl
  rw [fold_fm]
  refine fold_ok (n := tW T) (fun s g hg => ?_) _ none _ (GR_ck _ (by omega)).1
  obtain ⟨g1, g2, g3, g4⟩ := hg
  rw [chn_last (g := gLa T x y) (fun s q hq => if_neg (fun c => by have := c.2; omega)) g1 g2]
  unfold gLa gRl
  by_cases c : latS T x y g.2 < s
  · rw [if_pos ⟨c, g2⟩, Nat.min_eq_right (by omega)]
  · rw [if_neg (fun z => c z.1), Nat.min_eq_left (by omega)]
/-! MOST -/
theorem lt_z {T : TownA} {x y : Nat} {r : Nat → Nat} : ∀ m, ltF T x y r m = 0 ↔ ∀ k, k < m → ¬ tDu T (r k) < dyF T x y r k := by
  intro m
  induction m with
  | zero => exact ⟨fun _ k hk => by omega, fun _ => rfl⟩
  | succ m ih =>
    show ltF T x y r m + (dyF T x y r m - tDu T (r m)) = 0 ↔ _
    constructor
    · intro h k hk
      by_cases q : k = m
      · rw [q]; omega
      · exact ih.mp (by omega) k (by omega)
    · intro h
      have h1 := ih.mpr (fun k hk => h k (by omega))
      have h2 := h m (by omega)
      omega
theorem it_le (T : TownA) (x y : Nat) (q : List Nat) : itS T x y q ≤ tW T := nx_le _ _
theorem it_lt {T : TownA} {x y : Nat} {q : List Nat} {m : Nat} (hm : m ≤ tW T) : m ≤ itS T x y q ↔ ∀ k, k < m → ¬ tDu T (rowF q k) < dyF T x y (rowF q) k := by
  constructor
  · intro h k hk
    have := nx_min (p := fun k => decide (tDu T (rowF q k) < dyF T x y (rowF q) k)) (n := tW T) (j := k) (by show k < itS T x y q; omega)
    exact of_decide_eq_false this
  · intro h
    apply Classical.byContradiction
    intro c
    have h1 : itS T x y q < tW T := by omega
    have h2 : decide (tDu T (rowF q (itS T x y q)) < dyF T x y (rowF q) (itS T x y q)) = true := nx_hit h1
    exact h _ (by omega) (of_decide_eq_true h2)
theorem lat_drop {T : TownA} {x y : Nat} {q : List Nat} (hq : q.length = tW T) {m : Nat} (hm : m ≤ tW T) : (latS T x y (q.drop (tW T - m)) = 0) ↔ m ≤ itS T x y q := by
  have hl : (q.drop (tW T - m)).length = m := by rw [List.length_drop]; omega
  unfold latS
  rw [hl, ltF_cg (r := rowF (q.drop (tW T - m))) (r' := rowF q) m (fun j hj => rowF_drop _ _ _ (by omega)), lt_z, it_lt hm]
theorem chn_most {T : TownA} {x y : Nat} {q : List Nat} {L : Nat} (hq : q.length = tW T) (hL : L < tW T) (s : Nat × List Nat) : ∀ i, i ≤ tW T - L → ((List.range i).map (fun i => q.drop (tW T - L - 1 - i))).foldl (gMo T x y) s = if L < min (itS T x y q) (L + i) ∧ s.1 < min (itS T x y q) (L + i) then (min (itS T x y q) (L + i), q.drop (tW T - min (itS T x y q) (L + i))) else s := by
  intro i
  induction i with
  | zero =>
    intro _
    rw [if_neg (by omega)]
    rfl
  | succ i ih =>
    intro hi
    rw [List.range_succ, List.map_append, List.foldl_append, ih (by omega)]
    show gMo T x y _ (q.drop (tW T - L - 1 - i)) = _
    have e1 : tW T - L - 1 - i = tW T - (L + i + 1) := by omega
    have hl : (q.drop (tW T - (L + i + 1))).length = L + i + 1 := by rw [List.length_drop]; omega
    have h0 := lat_drop (T := T) (x := x) (y := y) hq (m := L + i + 1) (by omega)
    have hit := it_le T x y q
    rw [e1]
    unfold gMo
    rw [hl]
    by_cases c : L + i + 1 ≤ itS T x y q
    · have m1 : min (itS T x y q) (L + i) = L + i := by omega
      have m2 : min (itS T x y q) (L + (i + 1)) = L + i + 1 := by omega
      rw [m1, m2]
      by_cases d : L < L + i ∧ s.1 < L + i
      · rw [if_pos d, if_pos ⟨h0.mpr c, by show L + i < L + i + 1; omega⟩, if_pos ⟨by omega, by omega⟩]
      · rw [if_neg d]
        by_cases f : s.1 < L + i + 1
        · rw [if_pos ⟨h0.mpr c, f⟩, if_pos ⟨by omega, f⟩]
        · rw [if_neg (fun z => f z.2), if_neg (fun z => f z.2)]
    · have m1 : min (itS T x y q) (L + (i + 1)) = min (itS T x y q) (L + i) := by omega
      rw [m1]
      exact if_neg (fun z => c (h0.mp z.1))
theorem chn_mo {T : TownA} {x y : Nat} {q : List Nat} {L : Nat} (hq : q.length = tW T) (hL : L < tW T) (s : Nat × List Nat) : (chn (tW T) L q).foldl (gMo T x y) s = if L < itS T x y q ∧ s.1 < itS T x y q then (itS T x y q, q.drop (tW T - itS T x y q)) else s := by
  have hit := it_le T x y q
  have e := chn_most (T := T) (x := x) (y := y) hq hL s (tW T - L) (Nat.le_refl _)
  have m1 : min (itS T x y q) (L + (tW T - L)) = itS T x y q := by omega
  rw [m1] at e
  exact e
theorem mo_ind {T : TownA} (x y : Nat) : ∀ (l : List (Nat × List Nat)) (pv : Option (List Nat)) (s r : Nat × List Nat), ckP (tW T) pv l = true → ((pv = none → s.1 = 0 ∧ r.1 = 0) ∧ ∀ y0, pv = some y0 → r.1 = s.1 + 1 ∧ itS T x y y0 ≤ s.1 ∧ ∀ j, j < s.1 → rowF s.2 j = rowF r.2 j) → (l.foldl (fun s g => (chn (tW T) g.1 g.2).foldl (gMo T x y) s) s).1 = (l.foldl (fun s g => gRm T x y s g.2) r).1 - 1 ∧ ∀ j, j < (l.foldl (fun s g => (chn (tW T) g.1 g.2).foldl (gMo T x y) s) s).1 → rowF (l.foldl (fun s g => (chn (tW T) g.1 g.2).foldl (gMo T x y) s) s).2 j = rowF (l.foldl (fun s g => gRm T x y s g.2) r).2 j := by
  intro l
  induction l with
  | nil =>
    intro pv s r hc h
    show s.1 = r.1 - 1 ∧ ∀ j, j < s.1 → rowF s.2 j = rowF r.2 j
    cases pv with
    | none =>
      have := h.1 rfl
      exact ⟨by omega, fun j hj => by omega⟩
    | some y0 =>
      obtain ⟨a, b, c⟩ := h.2 y0 rfl
      exact ⟨by omega, c⟩
  | cons g l ih =>
    intro pv s r hc h
    obtain ⟨⟨g1, g2, g3, g4⟩, h2, h3, h4⟩ := ckP_c hc
    have hit := it_le T x y g.2
    show (l.foldl _ ((chn (tW T) g.1 g.2).foldl (gMo T x y) s)).1 = (l.foldl _ (gRm T x y r g.2)).1 - 1 ∧ ∀ j, j < (l.foldl _ ((chn (tW T) g.1 g.2).foldl (gMo T x y) s)).1 → rowF (l.foldl _ ((chn (tW T) g.1 g.2).foldl (gMo T x y) s)).2 j = rowF (l.foldl _ (gRm T x y r g.2)).2 j
    refine ih (some g.2) _ _ h2 ⟨(fun z => by cases z), fun y0 hy0 => ?_⟩
    have e0 : g.2 = y0 := Option.some.inj hy0
    subst e0
    rw [chn_mo g2 g1]
    unfold gRm
    cases pv with
    | none =>
      obtain ⟨a, b⟩ := h.1 rfl
      obtain ⟨c, -⟩ := h3 rfl
      rw [if_pos (show r.1 < itS T x y g.2 + 1 by omega)]
      by_cases d : 0 < itS T x y g.2
      · rw [if_pos ⟨by omega, by omega⟩]
        refine ⟨rfl, Nat.le_refl _, fun j hj => ?_⟩
        have hj2 : j < itS T x y g.2 := hj
        exact rowF_drop _ _ _ (by omega)
      · rw [if_neg (fun z => d (by omega))]
        exact ⟨by show itS T x y g.2 + 1 = s.1 + 1; omega, by omega, fun j hj => by omega⟩
    | some y0 =>
      obtain ⟨a, b, c⟩ := h.2 y0 rfl
      obtain ⟨d, -⟩ := h4 y0 rfl
      have hle : itS T x y g.2 ≤ g.1 → itS T x y g.2 ≤ s.1 := fun z => by
        have : itS T x y g.2 ≤ itS T x y y0 := by
          rw [it_lt hit]
          intro k hk
          have := (it_lt (q := g.2) hit).mp (Nat.le_refl _) k hk
          rw [← d k (by omega), ← dyF_cg (r := rowF g.2) (r' := rowF y0) k (fun j hj => d j (by omega))]
          exact this
        omega
      by_cases e : s.1 < itS T x y g.2
      · have e1 : g.1 < itS T x y g.2 := by
          apply Classical.byContradiction
          intro z
          have := hle (by omega)
          omega
        rw [if_pos (show r.1 < itS T x y g.2 + 1 by omega), if_pos (show g.1 < itS T x y g.2 ∧ s.1 < itS T x y g.2 from ⟨e1, e⟩)]
        refine ⟨rfl, Nat.le_refl _, fun j hj => ?_⟩
        have hj2 : j < itS T x y g.2 := hj
        exact rowF_drop _ _ _ (by omega)
      · rw [if_neg (show ¬ r.1 < itS T x y g.2 + 1 by omega), if_neg (show ¬ (g.1 < itS T x y g.2 ∧ s.1 < itS T x y g.2) from fun z => e z.2)]
        exact ⟨a, by omega, c⟩
theorem mo_eq {T : TownA} (hV : TV T) (x y : Nat) : ((ND (tW T)).foldl (gMo T x y) (0, [])).1 = (sRm T x y).1 - 1 ∧ ∀ j, j < ((ND (tW T)).foldl (gMo T x y) (0, [])).1 → rowF ((ND (tW T)).foldl (gMo T x y) (0, [])).2 j = rowF (sRm T x y).2 j := by
  have h6 := hV.1.2.2.2.2
  unfold ND sRm
  rw [fold_fm]
  exact mo_ind x y _ none _ _ (GR_ck _ (by omega)).1 ⟨fun _ => ⟨rfl, rfl⟩, fun y0 z => by cases z⟩
/-! SOON from a day on -/
theorem mn_ind {T : TownA} (x y : Nat) : ∀ (l : List (Nat × List Nat)) (a c : Nat) (b d : List Nat), a ≤ c → (l.foldl (fun s g => gRs T x y s g.2) (a, b)).1 = min a (l.foldl (fun s g => gRs T x y s g.2) (c, d)).1 := by
  intro l
  induction l with
  | nil => intro a c b d h; show a = min a c; omega
  | cons g l ih =>
    intro a c b d h
    show (l.foldl _ (gRs T x y (a, b) g.2)).1 = min a (l.foldl _ (gRs T x y (c, d) g.2)).1
    by_cases q1 : dayS T x y g.2 < a
    · have u1 : gRs T x y (a, b) g.2 = (dayS T x y g.2, g.2) := if_pos q1
      have u2 : gRs T x y (c, d) g.2 = (dayS T x y g.2, g.2) := if_pos (show dayS T x y g.2 < c by omega)
      have e := ih (dayS T x y g.2) (dayS T x y g.2) g.2 g.2 (Nat.le_refl _)
      rw [u1, u2, e]
      omega
    · have u1 : gRs T x y (a, b) g.2 = (a, b) := if_neg q1
      rw [u1]
      by_cases q2 : dayS T x y g.2 < c
      · have u2 : gRs T x y (c, d) g.2 = (dayS T x y g.2, g.2) := if_pos q2
        rw [u2]
        exact ih a (dayS T x y g.2) b g.2 (by omega)
      · have u2 : gRs T x y (c, d) g.2 = (c, d) := if_neg q2
        rw [u2]
        exact ih a c b d h
theorem rs_ind {T : TownA} (x y : Nat) : ∀ (l : List (Nat × List Nat)) (pv : Option (List Nat)) (s : Nat × List Nat), ckP (tW T) pv l = true → (s.1 < 1000000 → s.2.length = tW T) → s.1 ≤ 1000000 → ((l.foldl (fun s g => gRs T x y s g.2) s).1 < 1000000 → (l.foldl (fun s g => gRs T x y s g.2) s).2.length = tW T) ∧ (l.foldl (fun s g => gRs T x y s g.2) s).1 ≤ s.1 := by
  intro l
  induction l with
  | nil => intro pv s _ h _; exact ⟨h, Nat.le_refl _⟩
  | cons g l ih =>
    intro pv s hc h hs
    obtain ⟨⟨g1, g2, g3, g4⟩, h2, -⟩ := ckP_c hc
    show ((l.foldl _ (gRs T x y s g.2)).1 < 1000000 → (l.foldl _ (gRs T x y s g.2)).2.length = tW T) ∧ (l.foldl _ (gRs T x y s g.2)).1 ≤ s.1
    by_cases q : dayS T x y g.2 < s.1
    · have u1 : gRs T x y s g.2 = (dayS T x y g.2, g.2) := if_pos q
      rw [u1]
      obtain ⟨a, b⟩ := ih (some g.2) (dayS T x y g.2, g.2) h2 (fun _ => g2) (by show dayS T x y g.2 ≤ 1000000; omega)
      have b2 : (l.foldl (fun s g => gRs T x y s g.2) (dayS T x y g.2, g.2)).1 ≤ dayS T x y g.2 := b
      exact ⟨a, by omega⟩
    · have u1 : gRs T x y s g.2 = s := if_neg q
      rw [u1]
      exact ih (some g.2) s h2 h hs
