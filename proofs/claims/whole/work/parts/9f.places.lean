/-! NEW CELLS among the old: addresses, memory -/
def p5 (o k : Nat) : Nat := n5L.findIdx (fun q => q.1 == o && q.2 == k) - 1
def p9 (o k : Nat) : Nat := ns9.findIdx (fun q => q.1 == o && q.2 == k) - 1
def p10 (k : Nat) : Nat := ns10.findIdx (fun q => q.2 == k) - 1
def adT (ad : Nat → Nat → Nat) (t h : Nat) (u : Nat → Nat) : Nat → Nat → Nat := fun o k => if t ≤ o ∧ o < t + 9 then (if o = t ∧ k = 0 then h else u (p5 (o - t) k)) else ad o k
def adN (g : Nat → Nat → Nat) (h : Nat) (u : Nat → Nat) (h1 : Nat) (w : Nat → Nat) : Nat → Nat → Nat := fun o k => if o < 21 then (if o = 0 ∧ k = 0 then h else u (p9 o k)) else if o = 100 then (if k = 0 then h1 else w (p10 k)) else g o k
theorem n5_ok : ∀ i, i < 46 → (n5L.getD (i + 1) (0, 0)).1 < 9 ∧ ¬ ((n5L.getD (i + 1) (0, 0)).1 = 0 ∧ (n5L.getD (i + 1) (0, 0)).2 = 0) ∧ p5 (n5L.getD (i + 1) (0, 0)).1 (n5L.getD (i + 1) (0, 0)).2 = i := by decide +kernel
theorem n9_ok : ∀ i, i < 108 → (ns9.getD (i + 1) (0, 0)).1 < 21 ∧ ¬ ((ns9.getD (i + 1) (0, 0)).1 = 0 ∧ (ns9.getD (i + 1) (0, 0)).2 = 0) ∧ p9 (ns9.getD (i + 1) (0, 0)).1 (ns9.getD (i + 1) (0, 0)).2 = i := by decide +kernel
theorem n10_ok : ∀ i, i < 27 → (ns10.getD (i + 1) (0, 0)).1 = 100 ∧ ¬ (ns10.getD (i + 1) (0, 0)).2 = 0 ∧ p10 (ns10.getD (i + 1) (0, 0)).2 = i := by decide +kernel
theorem v5_t {ad : Nat → Nat → Nat} {t h : Nat} {u : Nat → Nat} {i : Nat} (hi : i < 46) : u i = v5 (adT ad t h u) t i := by
  obtain ⟨h1, h2, h3⟩ := n5_ok i hi
  unfold v5 adT
  rw [if_pos ⟨by omega, by omega⟩, if_neg (fun q => h2 ⟨by omega, q.2⟩), Nat.add_sub_cancel_left, h3]
theorem v9_t {g : Nat → Nat → Nat} {h : Nat} {u : Nat → Nat} {h1 : Nat} {w : Nat → Nat} {i : Nat} (hi : i < 108) : u i = v9 (adN g h u h1 w) i := by
  obtain ⟨q1, q2, q3⟩ := n9_ok i hi
  unfold v9 adN
  rw [if_pos q1, if_neg q2, q3]
theorem v10_t {g : Nat → Nat → Nat} {h : Nat} {u : Nat → Nat} {h1 : Nat} {w : Nat → Nat} {i : Nat} (hi : i < 27) : w i = v10 (adN g h u h1 w) i := by
  obtain ⟨q1, q2, q3⟩ := n10_ok i hi
  unfold v10 adN
  rw [q1, if_neg (by decide), if_pos rfl, if_neg q2, q3]
set_option maxRecDepth 100000 in
set_option maxHeartbeats 4000000 in
theorem made5_cg {cy : Nat → ClassId} {h : Nat} {u v : Nat → Nat} (e : ∀ i, i < 46 → u i = v i) : made5 cy h u = made5 cy h v := by
  unfold made5
  rw [e 0 (by decide), e 1 (by decide), e 2 (by decide), e 3 (by decide), e 4 (by decide), e 5 (by decide), e 6 (by decide), e 7 (by decide), e 8 (by decide), e 9 (by decide), e 10 (by decide), e 11 (by decide), e 12 (by decide), e 13 (by decide), e 14 (by decide), e 15 (by decide), e 16 (by decide), e 17 (by decide), e 18 (by decide), e 19 (by decide), e 20 (by decide), e 21 (by decide), e 22 (by decide), e 23 (by decide), e 24 (by decide), e 25 (by decide), e 26 (by decide), e 27 (by decide), e 28 (by decide), e 29 (by decide), e 30 (by decide), e 31 (by decide), e 32 (by decide), e 33 (by decide), e 34 (by decide), e 35 (by decide), e 36 (by decide), e 37 (by decide), e 38 (by decide), e 39 (by decide), e 40 (by decide), e 41 (by decide), e 42 (by decide), e 43 (by decide), e 44 (by decide), e 45 (by decide)]
set_option maxRecDepth 100000 in
set_option maxHeartbeats 4000000 in
theorem made9_cg {cy : Nat → ClassId} {h : Nat} {u v : Nat → Nat} (e : ∀ i, i < 108 → u i = v i) : made9 cy h u = made9 cy h v := by
  unfold made9
  rw [e 0 (by decide), e 1 (by decide), e 2 (by decide), e 3 (by decide), e 4 (by decide), e 5 (by decide), e 6 (by decide), e 7 (by decide), e 8 (by decide), e 9 (by decide), e 10 (by decide), e 11 (by decide), e 12 (by decide), e 13 (by decide), e 14 (by decide), e 15 (by decide), e 16 (by decide), e 17 (by decide), e 18 (by decide), e 19 (by decide), e 20 (by decide), e 21 (by decide), e 22 (by decide), e 23 (by decide), e 24 (by decide), e 25 (by decide), e 26 (by decide), e 27 (by decide), e 28 (by decide), e 29 (by decide), e 30 (by decide), e 31 (by decide), e 32 (by decide), e 33 (by decide), e 34 (by decide), e 35 (by decide), e 36 (by decide), e 37 (by decide), e 38 (by decide), e 39 (by decide), e 40 (by decide), e 41 (by decide), e 42 (by decide), e 43 (by decide), e 44 (by decide), e 45 (by decide), e 46 (by decide), e 47 (by decide), e 48 (by decide), e 49 (by decide), e 50 (by decide), e 51 (by decide), e 52 (by decide), e 53 (by decide), e 54 (by decide), e 55 (by decide), e 56 (by decide), e 57 (by decide), e 58 (by decide), e 59 (by decide), e 60 (by decide), e 61 (by decide), e 62 (by decide), e 63 (by decide), e 64 (by decide), e 65 (by decide), e 66 (by decide), e 67 (by decide), e 68 (by decide), e 69 (by decide), e 70 (by decide), e 71 (by decide), e 72 (by decide), e 73 (by decide), e 74 (by decide), e 75 (by decide), e 76 (by decide), e 77 (by decide), e 78 (by decide), e 79 (by decide), e 80 (by decide), e 81 (by decide), e 82 (by decide), e 83 (by decide), e 84 (by decide), e 85 (by decide), e 86 (by decide), e 87 (by decide), e 88 (by decide), e 89 (by decide), e 90 (by decide), e 91 (by decide), e 92 (by decide), e 93 (by decide), e 94 (by decide), e 95 (by decide), e 96 (by decide), e 97 (by decide), e 98 (by decide), e 99 (by decide), e 100 (by decide), e 101 (by decide), e 102 (by decide), e 103 (by decide), e 104 (by decide), e 105 (by decide), e 106 (by decide), e 107 (by decide)]
set_option maxRecDepth 100000 in
set_option maxHeartbeats 4000000 in
theorem made10_cg {cy : Nat → ClassId} {h : Nat} {u v : Nat → Nat} (e : ∀ i, i < 27 → u i = v i) : made10 cy h u = made10 cy h v := by
  unfold made10
  rw [e 0 (by decide), e 1 (by decide), e 2 (by decide), e 3 (by decide), e 4 (by decide), e 5 (by decide), e 6 (by decide), e 7 (by decide), e 8 (by decide), e 9 (by decide), e 10 (by decide), e 11 (by decide), e 12 (by decide), e 13 (by decide), e 14 (by decide), e 15 (by decide), e 16 (by decide), e 17 (by decide), e 18 (by decide), e 19 (by decide), e 20 (by decide), e 21 (by decide), e 22 (by decide), e 23 (by decide), e 24 (by decide), e 25 (by decide), e 26 (by decide)]
theorem adT_in {ad : Nat → Nat → Nat} {t h : Nat} {u : Nat → Nat} : adT ad t h u t 0 = h := by
  unfold adT
  rw [if_pos ⟨Nat.le_refl _, by omega⟩, if_pos ⟨rfl, rfl⟩]
theorem adT_out {ad : Nat → Nat → Nat} {t h : Nat} {u : Nat → Nat} {o : Nat} (ho : ¬ (t ≤ o ∧ o < t + 9)) (k : Nat) : adT ad t h u o k = ad o k := if_neg ho
theorem gI_nw {t : Nat} {M : Mem} {o : Nat} (ho : ¬ (t ≤ o ∧ o < t + 9)) (k : Nat) : gI (nwM t M) o k = gI M o k := if_neg ho
theorem gA_nw {t : Nat} {M : Mem} {o : Nat} (ho : ¬ (t ≤ o ∧ o < t + 9)) (k : Nat) : gA (nwM t M) o k = gA M o k := if_neg ho
/-- which lists of cells are meant -/
def NB (ns : List (Nat × Nat)) : Prop := ∀ q ∈ ns, q.1 < 48 ∧ (q.2 = 0 ∨ (q.2 ≤ 60 ∧ ¬ ak (oc q.1) (q.2 - 1) = 99))
def FRE (ns : List (Nat × Nat)) (M : Mem) : Prop := ∀ j, j < 3 → gA M 0 1 j = 0 → ∀ q ∈ ns, ¬ (21 + 9 * j ≤ q.1 ∧ q.1 < 21 + 9 * j + 9)
def kdF (o : Nat) : Bool := (List.range 60).all (fun i => !(kd (oc o) i == 3) || (i == 0 && (o == 15 || o == 17 || o == 19))) && (List.range 60).all (fun i => !(kd (oc o) i == 4) || (i == 6 && o == 10)) && (List.range 60).all (fun i => Nat.blt (kd (oc o) i) 5 || Nat.blt (o + (kd (oc o) i - 5)) 21)
def akF (o : Nat) : Bool := (List.range 60).all (fun k => Nat.ble (ak (oc o) k) 3 || ak (oc o) k == 99 || (ak (oc o) k == 8 && o == 0 && k == 1) || ((ak (oc o) k == 4 || ak (oc o) k == 5 || ak (oc o) k == 6 || ak (oc o) k == 7) && ln (oc o) k == 2 && (o == 1 || o == 21 || o == 30 || o == 39)))
theorem kdF_t : ∀ o, o < 48 → kdF o = true := by decide +kernel
theorem akF_t : ∀ o, o < 48 → akF o = true := by decide +kernel
theorem nf_60 (o : Nat) : nf (oc o) ≤ 60 := by
  have h : ∀ x ∈ nfT, x ≤ 60 := by decide +kernel
  unfold nf
  rw [List.getD_eq_getElem?_getD]
  cases e : nfT[oc o]? with
  | none => exact Nat.zero_le _
  | some l => exact h l (List.mem_of_getElem? e)
theorem fv_old {ns : List (Nat × Nat)} {ad : Nat → Nat → Nat} {M : Mem} {t h : Nat} {u : Nat → Nat} (h0 : (0, 0) ∈ ns) (ht : t = 21 ∨ t = 30 ∨ t = 39) (hW : WR ns M) (hF : ∀ q ∈ ns, ¬ (t ≤ q.1 ∧ q.1 < t + 9)) {o : Nat} (ho : o < 48) (hq : ¬ (t ≤ o ∧ o < t + 9)) {i : Nat} (hi : i < 60) : fv ad M o i = fv (adT ad t h u) (nwM t M) o i := by
  have hk := kdF_t o ho
  unfold kdF at hk
  simp only [Bool.and_eq_true, List.all_eq_true, List.mem_range, Bool.or_eq_true, Bool.not_eq_true', beq_eq_false_iff_ne, beq_iff_eq, Nat.blt_eq, ne_eq] at hk
  obtain ⟨⟨k3, k4⟩, k5⟩ := hk
  have k3 := k3 i hi
  have k4 := k4 i hi
  have k5 := k5 i hi
  obtain ⟨w1, w2, w3, w4⟩ := hW.1 h0
  unfold fv
  generalize kd (oc o) i = n at k3 k4 k5 ⊢
  match n, k3, k4, k5 with
  | 0, _, _, _ => exact congrArg Value.int (gI_nw hq i).symm
  | 1, _, _, _ => rfl
  | 2, _, _, _ => exact congrArg Value.ref (adT_out hq (i + 1)).symm
  | 3, k3, _, _ =>
    refine congrArg Value.ref (adT_out ?_ 0).symm
    rcases k3 with k3 | ⟨rfl, (rfl | rfl) | rfl⟩
    · exact absurd rfl k3
    · exact hF _ w1.2.1
    · exact hF _ w2.2.1
    · exact hF _ w3.2.1
  | 4, _, k4, _ =>
    rcases k4 with k4 | ⟨rfl, rfl⟩
    · exact absurd rfl k4
    · show Value.ref (if gR M 10 6 = 0 then ad 10 (6 + 1) else ad (gR M 10 6) 1) = Value.ref (if gR M 10 6 = 0 then adT ad t h u 10 (6 + 1) else adT ad t h u (gR M 10 6) 1)
      rw [adT_out hq]
      by_cases z : gR M 10 6 = 0
      · rw [if_pos z, if_pos z]
      · rw [if_neg z, if_neg z]
        rcases w4 with w4 | w4
        · exact absurd w4 z
        · rw [adT_out (hF _ w4.2.1)]
  | n + 5, _, _, k5 =>
    refine congrArg Value.ref (adT_out ?_ 0).symm
    rcases k5 with k5 | k5
    · omega
    · omega
theorem ce_old {cy : Nat → ClassId} {ad : Nat → Nat → Nat} {M : Mem} {j t h : Nat} {u : Nat → Nat} (hj : j < 3) (ht : t = 21 + 9 * j) (hj0 : gA M 0 1 j = 0) {o : Nat} (ho : o < 48) (hq : ¬ (t ≤ o ∧ o < t + 9)) {k : Nat} (hk60 : k < 60) (hk99 : ¬ ak (oc o) k = 99) : eqC (ad o (k + 1), ce cy ad M o k) (adT ad t h u o (k + 1), ce cy (adT ad t h u) (nwM t M) o k) := by
  have ha := adT_out (ad := ad) (h := h) (u := u) hq (k + 1)
  have hg := gA_nw (M := M) hq k
  have hk := akF_t o ho
  unfold akF at hk
  simp only [Bool.and_eq_true, List.all_eq_true, List.mem_range, Bool.or_eq_true, beq_iff_eq, Nat.ble_eq] at hk
  have hk := hk k hk60
  unfold ce
  rw [ha, hg]
  generalize hn : ak (oc o) k = n at hk hk99 ⊢
  have told : ∀ n, 4 ≤ n → n ≤ 7 → ln (oc o) k = 2 → ((o = 1 ∨ o = 21) ∨ o = 30) ∨ o = 39 → eqC (ad o (k + 1), .inl (cy n, ln (oc o) k, .inr (.inr (.inr (.inr (fun j => some (ad (o + (2 * n - 7) + j) 0))))))) (ad o (k + 1), .inl (cy n, ln (oc o) k, .inr (.inr (.inr (.inr (fun j => some (adT ad t h u (o + (2 * n - 7) + j) 0))))))) := fun n n1 n2 l2 os => eqC_q rfl (fun i hi => by
    rw [l2] at hi
    rw [adT_out (by omega)])
  rcases hk with ((hk | hk) | ⟨⟨h8, rfl⟩, rfl⟩) | ⟨⟨hk, h2⟩, h3⟩
  · rcases (show n = 0 ∨ n = 1 ∨ n = 2 ∨ n = 3 by omega) with rfl | rfl | rfl | rfl <;> exact eqC_r rfl
  · exact absurd hk hk99
  · subst h8
    refine eqC_q rfl (fun i hi => ?_)
    have hi : i < 3 := hi
    by_cases z : gA M 0 1 i = 0
    · rw [if_pos z, if_pos z]
    · rw [if_neg z, if_neg z, adT_out (fun y => z ?_)]
      rw [show i = j by omega]
      exact hj0
  · rcases hk with ((rfl | rfl) | rfl) | rfl <;> exact told _ (by omega) (by omega) h2 h3
theorem w_old {ns : List (Nat × Nat)} {cy : Nat → ClassId} {ad : Nat → Nat → Nat} {M : Mem} {j t h : Nat} {u : Nat → Nat} (h0 : (0, 0) ∈ ns) (hB : NB ns) (hj : j < 3) (ht : t = 21 + 9 * j) (hj0 : gA M 0 1 j = 0) (hW : WR ns M) (hF : FRE ns M) : EQ (wo cy ad M ns) (wo cy (adT ad t h u) (nwM t M) ns) := by
  have hF' : ∀ q ∈ ns, ¬ (t ≤ q.1 ∧ q.1 < t + 9) := fun q hq => by rw [ht]; exact hF j hj hj0 q hq
  refine EQ_map (fun q hq => ?_)
  obtain ⟨b1, b2⟩ := hB q hq
  have hq' := hF' q hq
  obtain ⟨o, k⟩ := q
  cases k with
  | zero =>
    refine eqC_r ?_
    show (ad o 0, Sum.inr (oc o, _)) = (adT ad t h u o 0, Sum.inr (oc o, _))
    rw [adT_out hq', List.map_congr_left (fun i hi => fv_old (h := h) (u := u) h0 (by omega) hW hF' b1 hq' (Nat.lt_of_lt_of_le (List.mem_range.mp hi) (nf_60 o)))]
  | succ k =>
    rcases b2 with b2 | ⟨b2, b3⟩
    · cases b2
    · exact ce_old hj ht hj0 b1 hq' (by have : k + 1 ≤ 60 := b2; omega) b3
theorem ns5_in : ∀ t, t = 21 ∨ t = 30 ∨ t = 39 → (∀ q ∈ ns5 t, (t ≤ q.1 ∧ q.1 < t + 9) ∧ (oc q.1 = 5 → q.1 = t)) ∧ obb (ns5 t) 5 t = true ∧ ∀ j, j < 2 → obb (ns5 t) 0 (t + 1 + j) = true ∧ obb (ns5 t) 1 (t + 3 + j) = true ∧ obb (ns5 t) 6 (t + 5 + j) = true ∧ obb (ns5 t) 4 (t + 7 + j) = true := by
  intro t ht
  rcases ht with rfl | rfl | rfl <;> decide +kernel
theorem ns5_nb : ∀ t, t = 21 ∨ t = 30 ∨ t = 39 → NB (ns5 t) := by
  intro t ht
  unfold NB
  rcases ht with rfl | rfl | rfl <;> decide +kernel
theorem mem_l {ns ns' : List (Nat × Nat)} : ∀ q ∈ ns, q ∈ ns ++ ns' := fun _ h => List.mem_append_left _ h
theorem mem_r {ns ns' : List (Nat × Nat)} : ∀ q ∈ ns', q ∈ ns ++ ns' := fun _ h => List.mem_append_right _ h
theorem NsC_add {ns : List (Nat × Nat)} {t : Nat} (ht : t = 21 ∨ t = 30 ∨ t = 39) (hN : NsC ns) : NsC (ns ++ ns5 t) := by
  obtain ⟨f1, f2, f3⟩ := ns5_in t ht
  refine ⟨fun o ho => Ob_mono mem_l (hN.1 o ho), fun t' h j hj => ?_⟩
  by_cases e : t' = t
  · subst e
    obtain ⟨g1, g2, g3, g4⟩ := f3 j hj
    exact ⟨Ob_mono mem_r (obb_o g1), Ob_mono mem_r (obb_o g2), Ob_mono mem_r (obb_o g3), Ob_mono mem_r (obb_o g4)⟩
  · have key : ∀ k, (t', k) ∈ ns ++ ns5 t → (t', k) ∈ ns := fun k hk => by
      rcases List.mem_append.mp hk with z | z
      · exact z
      · exact absurd ((f1 _ z).2 h.1) e
    obtain ⟨g1, g2, g3, g4⟩ := hN.2 t' ⟨h.1, key 0 h.2.1, fun k hk => key _ (h.2.2 k hk)⟩ j hj
    exact ⟨Ob_mono mem_l g1, Ob_mono mem_l g2, Ob_mono mem_l g3, Ob_mono mem_l g4⟩
theorem NB_add {ns ns' : List (Nat × Nat)} (h : NB ns) (g : NB ns') : NB (ns ++ ns') := fun q hq => by
  rcases List.mem_append.mp hq with z | z
  · exact h q z
  · exact g q z
theorem NsC_9 : NsC ns9 := by
  have h1 : ∀ o, o < 21 → obb ns9 (oc o) o = true := by decide +kernel
  have h2 : ∀ q ∈ ns9, oc q.1 = 5 → q.1 = 1 := by decide +kernel
  have h3 : ∀ j, j < 2 → obb ns9 0 (1 + 1 + j) = true ∧ obb ns9 1 (1 + 3 + j) = true ∧ obb ns9 6 (1 + 5 + j) = true ∧ obb ns9 4 (1 + 7 + j) = true := by decide +kernel
  refine ⟨fun o ho => obb_o (h1 o ho), fun t ht j hj => ?_⟩
  have e : t = 1 := h2 _ ht.2.1 ht.1
  subst e
  obtain ⟨g1, g2, g3, g4⟩ := h3 j hj
  exact ⟨obb_o g1, obb_o g2, obb_o g3, obb_o g4⟩
theorem NB_9 : NB ns9 := by
  unfold NB
  decide +kernel
theorem WR_9 : WR ns9 I9 := ⟨fun _ => ⟨obb_o (by decide +kernel), obb_o (by decide +kernel), obb_o (by decide +kernel), Or.inl rfl⟩, fun _ j _ h => absurd rfl h⟩
theorem FRE_9 (M : Mem) : FRE ns9 M := by
  intro j hj _ q hq
  have : ∀ q ∈ ns9, q.1 < 21 := by decide +kernel
  have := this q hq
  omega
theorem Ob_10 : Ob ns10 10 100 := obb_o (by decide +kernel)
theorem WR_10 (M : Mem) : WR ns10 M := by
  have : (0, 0) ∉ ns10 := by decide +kernel
  exact ⟨fun h => absurd h this, fun h => absurd h this⟩
