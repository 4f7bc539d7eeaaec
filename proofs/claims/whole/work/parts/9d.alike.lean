/-! WORLDS ALIKE: the same addresses, cells that are one -/
def sameE (e e' : va_E) : Prop := e = e' ∨ ∃ (c : ClassId) (a a' : vp_A), e = .inl (c, a) ∧ e' = .inl (c, a') ∧ vp_cell c a = vp_cell c a'
def eqC (q q' : Nat × va_E) : Prop := q.1 = q'.1 ∧ sameE q.2 q'.2
def EQ : va_W → va_W → Prop
  | [], [] => True
  | a :: l, b :: m => eqC a b ∧ EQ l m
  | [], _ :: _ => False
  | _ :: _, [] => False
theorem eqC_r {q q' : Nat × va_E} (h : q = q') : eqC q q' := ⟨congrArg Prod.fst h, Or.inl (congrArg Prod.snd h)⟩
theorem eqC_b {a a' : Nat} {c : ClassId} {n : Nat} {g : Nat → Int32} (h : a = a') (hg : ∀ j, g j = 0) : eqC (a, .inl (c, n, .inl fun _ => 0)) (a', .inl (c, n, .inl fun j => (g j).toInt8.toInt32)) := by
  refine ⟨h, Or.inl ?_⟩
  have : (fun j => (g j).toInt8.toInt32) = fun _ => (0 : Int32) := by
    funext j
    rw [hg j]
    decide
  show (Sum.inl (c, n, Sum.inl fun _ => (0 : Int32)) : va_E) = Sum.inl (c, n, Sum.inl fun j => (g j).toInt8.toInt32)
  rw [this]
theorem arrV_cg {c : ClassId} {n : Nat} {f g : Nat → Value} (h : ∀ j, j < n → f j = g j) : arrV c n f = arrV c n g := by
  unfold arrV
  have : (Array.ofFn (n := n) fun j => f j.val) = Array.ofFn (n := n) fun j => g j.val := by
    congr 1
    funext j
    exact h j.val j.isLt
  rw [this]
theorem eqC_q {a a' : Nat} {c : ClassId} {n : Nat} {f g : Nat → Option Nat} (h : a = a') (hg : ∀ j, j < n → f j = g j) : eqC (a, .inl (c, n, .inr (.inr (.inr (.inr f))))) (a', .inl (c, n, .inr (.inr (.inr (.inr g))))) :=
  ⟨h, Or.inr ⟨c, _, _, rfl, rfl, by rw [vp_cell_q, vp_cell_q]; exact arrV_cg (fun j hj => by rw [hg j hj])⟩⟩
theorem EQ_c {a b : Nat × va_E} {l m : va_W} (h : eqC a b) (g : EQ l m) : EQ (a :: l) (b :: m) := ⟨h, g⟩
theorem EQ_n : EQ [] [] := trivial
theorem EQ_at : ∀ (ws ws' : va_W), EQ ws ws' → ∀ (k : Nat) (q' : Nat × va_E), ws'[k]? = some q' → ∃ q, ws[k]? = some q ∧ eqC q q' := by
  intro ws
  induction ws with
  | nil =>
    intro ws' h k q' hk
    cases ws' with
    | nil => cases hk
    | cons b m => cases h
  | cons a l ih =>
    intro ws' h k q' hk
    cases ws' with
    | nil => cases h
    | cons b m =>
      cases k with
      | zero =>
        cases hk
        exact ⟨a, rfl, h.1⟩
      | succ k => exact ih m h.2 k q' hk
theorem EQ_app : ∀ {a a' b b' : va_W}, EQ a a' → EQ b b' → EQ (a ++ b) (a' ++ b') := by
  intro a
  induction a with
  | nil =>
    intro a' b b' h g
    cases a' with
    | nil => exact g
    | cons x m => cases h
  | cons x l ih =>
    intro a' b b' h g
    cases a' with
    | nil => cases h
    | cons y m => exact ⟨h.1, ih h.2 g⟩
theorem EQ_rf : ∀ (a : va_W), EQ a a := by
  intro a
  induction a with
  | nil => trivial
  | cons x l ih => exact ⟨eqC_r rfl, ih⟩
theorem EQ_map {α : Type} {f g : α → Nat × va_E} : ∀ {l : List α}, (∀ x ∈ l, eqC (f x) (g x)) → EQ (l.map f) (l.map g) := by
  intro l
  induction l with
  | nil => intro _; trivial
  | cons x l ih => intro h; exact ⟨h x List.mem_cons_self, ih (fun y hy => h y (List.mem_cons_of_mem _ hy))⟩
theorem at_alike {D : va_G} {cl : List vw_C} {q q' : Nat × va_E} {H : Heap} (h : eqC q q') (g : va_at D cl q H) : va_at D cl q' H := by
  obtain ⟨a, e⟩ := q
  obtain ⟨a', e'⟩ := q'
  obtain ⟨h1, h2⟩ := h
  cases (show a = a' from h1)
  rcases h2 with h2 | ⟨c, x, x', h2, h3, h4⟩
  · cases (show e = e' from h2)
    exact g
  · cases (show e = _ from h2)
    cases (show e' = _ from h3)
    show H[a]? = some (vp_cell c x')
    rw [← h4]
    exact g
theorem EQ_P {D : va_G} {cl : List vw_C} {ws ws' : va_W} {H : Heap} (h : EQ ws ws') (g : va_P D cl ws H) : va_P D cl ws' H := by
  intro k q' hk
  obtain ⟨q, h1, h2⟩ := EQ_at ws ws' h k q' hk
  exact at_alike h2 (g k q h1)
theorem EQ_D {A : Nat → Prop} {ws ws' : va_W} (h : EQ ws ws') (g : va_D A ws) : va_D A ws' := by
  refine ⟨fun i j p q hi hj e => ?_, fun k q hk => ?_⟩
  · obtain ⟨p1, a1, a2⟩ := EQ_at ws ws' h i p hi
    obtain ⟨q1, b1, b2⟩ := EQ_at ws ws' h j q hj
    exact g.1 i j p1 q1 a1 b1 (by rw [a2.1, b2.1]; exact e)
  · obtain ⟨q1, a1, a2⟩ := EQ_at ws ws' h k q hk
    rw [← a2.1]
    exact g.2 k q1 a1
/-! what is cut out of a world and put back -/
theorem P_l {D : va_G} {cl : List vw_C} {a b : va_W} {H : Heap} (h : va_P D cl (a ++ b) H) : va_P D cl a H := fun k q hk => h k q (by rw [List.getElem?_append_left (List.getElem?_eq_some_iff.mp hk).1]; exact hk)
theorem P_r {D : va_G} {cl : List vw_C} {a b : va_W} {H : Heap} (h : va_P D cl (a ++ b) H) : va_P D cl b H := fun k q hk => h (a.length + k) q (by rw [List.getElem?_append_right (by omega), Nat.add_sub_cancel_left]; exact hk)
theorem D_l {A : Nat → Prop} {a b : va_W} (h : va_D A (a ++ b)) : va_D A a := by
  have e : ∀ (k : Nat) (q : Nat × va_E), a[k]? = some q → (a ++ b)[k]? = some q := fun k q hk => by rw [List.getElem?_append_left (List.getElem?_eq_some_iff.mp hk).1]; exact hk
  exact ⟨fun i j p q hi hj he => h.1 i j p q (e i p hi) (e j q hj) he, fun k q hk => h.2 k q (e k q hk)⟩
theorem D_r {A : Nat → Prop} {a b : va_W} (h : va_D A (a ++ b)) : va_D A b := by
  have e : ∀ (k : Nat) (q : Nat × va_E), b[k]? = some q → (a ++ b)[a.length + k]? = some q := fun k q hk => by rw [List.getElem?_append_right (by omega), Nat.add_sub_cancel_left]; exact hk
  exact ⟨fun i j p q hi hj he => by have := h.1 _ _ p q (e i p hi) (e j q hj) he; omega, fun k q hk => h.2 _ q (e k q hk)⟩
theorem D_x {A : Nat → Prop} {a b : va_W} (h : va_D A (a ++ b)) {i j : Nat} {p q : Nat × va_E} (hi : a[i]? = some p) (hj : b[j]? = some q) : ¬ p.1 = q.1 := fun e => by
  have l1 := (List.getElem?_eq_some_iff.mp hi).1
  have := h.1 i (a.length + j) p q (by rw [List.getElem?_append_left l1]; exact hi) (by rw [List.getElem?_append_right (by omega), Nat.add_sub_cancel_left]; exact hj) e
  omega
theorem D_swap {A : Nat → Prop} {a b : va_W} (h : va_D A (a ++ b)) : va_D A (b ++ a) := va_D.app (D_r h) (D_l h) (fun _ _ _ _ hi hj e => D_x h hj hi e.symm)
theorem P_swap {D : va_G} {cl : List vw_C} {a b : va_W} {H : Heap} (h : va_P D cl (a ++ b) H) : va_P D cl (b ++ a) H := (P_r h).app (P_l h)
/-- behind a call that had the first part -/
theorem back_l {A0 : Nat → Prop} {D : va_G} {cl : List vw_C} {a b a1 : va_W} {H H1 : Heap} (hP : va_P D cl (a ++ b) H) (hD : va_D A0 (a ++ b)) (hk : ∀ q : Nat, q < H.size → ¬ va_A a H.size q → H1[q]? = H[q]?) (hF : ∀ q, va_A a H.size q → A0 q) (hP1 : va_P D cl a1 H1) (hD1 : va_D (va_A a H.size) a1) : va_P D cl (a1 ++ b) H1 ∧ va_D A0 (a1 ++ b) := by
  have apart : ∀ (k : Nat) (q : Nat × va_E), b[k]? = some q → q.1 < H.size ∧ ¬ va_A a H.size q.1 := by
    intro k q hq
    have hl := (P_r hP k q hq).lt
    refine ⟨hl, fun h => ?_⟩
    rcases h with ⟨k2, e, h⟩ | h
    · exact D_x hD h hq rfl
    · omega
  refine ⟨hP1.app (fun k q hq => ?_), va_D.app (hD1.weaken (fun k q _ h => hF q.1 h)) (D_r hD) (fun i j x y hx hy hxy => ?_)⟩
  · obtain ⟨g1, g2⟩ := apart k q hq
    exact (P_r hP k q hq).kept (hk q.1 g1 g2)
  · exact (apart j y hy).2 (by rw [← hxy]; exact hD1.2 i x hx)
theorem free_l {A0 : Nat → Prop} {a b : va_W} {H0 H : Heap} {locs : List Loc} (hD : va_D A0 (a ++ b)) (hS : va_S A0 H0 H locs) (hA : ∀ q, H0.size ≤ q → A0 q) : ∀ q, va_A a H.size q → A0 q := by
  intro q h
  rcases h with ⟨k, e, h⟩ | h
  · exact (D_l hD).2 k (q, e) h
  · exact hA q (Nat.le_trans hS.1 h)
theorem Gx_narrow {ad : Nat → Nat → Nat} {A B : Nat → Prop} {U : State} {H : Heap} (h : Gx ad A U H) (hAB : ∀ q, B q → A q) : Gx ad B U H := ⟨h.1, h.2.1, h.2.2.1, h.2.2.2.1.narrow hAB, h.2.2.2.2.1.narrow hAB, h.2.2.2.2.2.narrow hAB⟩
theorem Gx_ad {ad ad' : Nat → Nat → Nat} {A : Nat → Prop} {U : State} {H : Heap} (h : Gx ad A U H) (h0 : ad' 200 = ad 200) (h1 : ad' 201 = ad 201) : Gx ad' A U H := by
  unfold Gx at h ⊢
  rw [h0, h1]
  exact h
/-! objects in a list, by counting -/
def obb (ns : List (Nat × Nat)) (c o : Nat) : Bool := oc o == c && ns.contains (o, 0) && (List.range 60).all (fun k => ak c k == 99 || ns.contains (o, k + 1))
theorem ak_out {c k : Nat} (h : 60 ≤ k) : ak c k = 99 := by
  unfold ak
  have hl : ∀ l ∈ akT, l.length ≤ 60 := by decide +kernel
  have : (akT.getD c []).length ≤ 60 := by
    rw [List.getD_eq_getElem?_getD]
    cases e : akT[c]? with
    | none => exact Nat.zero_le _
    | some l => exact hl l (List.mem_of_getElem? e)
  rw [List.getD_eq_getElem?_getD, List.getElem?_eq_none (by omega)]
  rfl
theorem obb_o {ns : List (Nat × Nat)} {c o : Nat} (h : obb ns c o = true) : Ob ns c o := by
  unfold obb at h
  simp only [Bool.and_eq_true, beq_iff_eq, List.contains_iff_mem, List.all_eq_true, List.mem_range, Bool.or_eq_true] at h
  obtain ⟨⟨h1, h2⟩, h3⟩ := h
  refine ⟨h1, h2, fun k hk => ?_⟩
  by_cases q : k < 60
  · rcases h3 k q with z | z
    · exact absurd z hk
    · exact z
  · exact absurd (ak_out (by omega)) hk
theorem Ob_mono {ns ns' : List (Nat × Nat)} {c o : Nat} (hs : ∀ q ∈ ns, q ∈ ns') (h : Ob ns c o) : Ob ns' c o := ⟨h.1, hs _ h.2.1, fun k hk => hs _ (h.2.2 k hk)⟩
