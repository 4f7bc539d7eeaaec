/-! THE FEWEST CHANGES OF THREAD -/
def chg (C : CoatA) (c s : Nat) : Nat := if c = cCo C s then 0 else 1
theorem chg_le (C : CoatA) (c s : Nat) : chg C c s ≤ 1 := by unfold chg; split <;> omega
def chF (C : CoatA) (g : Nat → Nat → Nat) (S : Nat) : Nat → Nat := fun c => mnS (mayB (cAf C) S) (if S = 2 ^ cN C - 1 then 0 else 1000000) (fun s => g (S ||| 2 ^ s) (cCo C s) + chg C c s) (cN C)
def chv (C : CoatA) : Nat → Nat → Nat := dvv (chF C)
theorem chv_eq {C : CoatA} (hn : cN C ≤ 9) {S : Nat} (hS : S ≤ 2 ^ cN C - 1) : chv C S = chF C (chv C) S := by
  obtain ⟨-, p1, p2⟩ := pw9 (cN C) (by omega)
  refine dvv_eq (all := 2 ^ cN C - 1) ?_ (by omega) hS
  intro g g' S hS h
  unfold chF
  funext c
  refine mnS_cg _ (fun s hs hm => ?_)
  have := or_lt (S := S) (n := cN C) (s := s) (by omega) hs
  have := or_gt (mayB_n S s hm)
  rw [h _ (by omega) (by omega)]
theorem chv_b {C : CoatA} (hn : cN C ≤ 9) {S : Nat} (hS : S ≤ 2 ^ cN C - 1) (c : Nat) : chv C S c ≤ 1000000 := by
  rw [chv_eq hn hS]
  have := mnS_b (mayB (cAf C) S) (if S = 2 ^ cN C - 1 then 0 else 1000000) (fun s => chv C (S ||| 2 ^ s) (cCo C s) + chg C c s) (cN C)
  have hb : (if S = 2 ^ cN C - 1 then 0 else 1000000) ≤ 1000000 := by split <;> omega
  exact Nat.le_trans this hb
theorem chv_sm {C : CoatA} {r : Nat → Nat} (hO : Od C r) : ∀ d S c, Cl (cAf C) (cN C) S → cN C - pc S (cN C) ≤ d → chv C S c ≤ d := by
  have hn := hO.1.1
  obtain ⟨-, p1, p2⟩ := pw9 (cN C) (by omega)
  have hz : ∀ S c, S = 2 ^ cN C - 1 → chv C S c = 0 := by
    intro S c hS
    rw [chv_eq hn (by omega)]
    have := mnS_b (mayB (cAf C) S) (if S = 2 ^ cN C - 1 then 0 else 1000000) (fun s => chv C (S ||| 2 ^ s) (cCo C s) + chg C c s) (cN C)
    rw [if_pos hS] at this
    unfold chF
    rw [if_pos hS]
    omega
  intro d
  induction d with
  | zero =>
    intro S c hS h
    by_cases q : S < 2 ^ cN C - 1
    · obtain ⟨s, a, b⟩ := lt_all q
      have := pc_lt a b
      omega
    · have := hS.1
      rw [hz S c (by omega)]
      omega
  | succ d ih =>
    intro S c hS h
    have hlt := hS.1
    by_cases q : S < 2 ^ cN C - 1
    · obtain ⟨s, a, b⟩ := Od_next hO hS q
      have h1 := Cl_or (by have := Od_A hO.1 s a; omega) hS a b
      have h2 := pc_or (mayB_n S s b) (cN C)
      rw [if_pos a] at h2
      have h3 := ih _ (cCo C s) h1 (by omega)
      have h4 := mnS_le (b := if S = 2 ^ cN C - 1 then 0 else 1000000) (f := fun s => chv C (S ||| 2 ^ s) (cCo C s) + chg C c s) b (cN C) a
      have h5 := chg_le C c s
      rw [chv_eq hn (by omega)]
      unfold chF
      omega
    · rw [hz S c (by omega)]
      omega
def th (C : CoatA) : Nat := mnS (mayB (cAf C) 0) (if cN C = 0 then 0 else 1000000) (fun s => chv C (2 ^ s) (cCo C s)) (cN C)
theorem th_b (C : CoatA) : th C ≤ 1000000 := by
  have := mnS_b (mayB (cAf C) 0) (if cN C = 0 then 0 else 1000000) (fun s => chv C (2 ^ s) (cCo C s)) (cN C)
  have hb : (if cN C = 0 then 0 else 1000000) ≤ 1000000 := by split <;> omega
  exact Nat.le_trans this hb
def chL (C : CoatA) (i last s : Nat) : Nat := if i = 0 then 0 else chg C (cCo C last) s
theorem chL_le (C : CoatA) (i last s : Nat) : chL C i last s ≤ 1 := by
  unfold chL
  have := chg_le C (cCo C last) s
  split <;> omega
def pkT (C : CoatA) (i : Nat) (q : Nat × Nat × Nat) (s : Nat) : Bool := mayB (cAf C) q.1 s && (chv C (q.1 ||| 2 ^ s) (cCo C s) + chL C i q.2.1 s == q.2.2)
theorem pkT_t (C : CoatA) (i : Nat) (q : Nat × Nat × Nat) (s : Nat) : (pkT C i q s = true) = (mayB (cAf C) q.1 s = true ∧ chv C (q.1 ||| 2 ^ s) (cCo C s) + chL C i q.2.1 s = q.2.2) := by
  unfold pkT
  rw [Bool.and_eq_true, beq_iff_eq]
def tq (C : CoatA) : Nat → Nat × Nat × Nat
  | 0 => (0, 0, th C)
  | i + 1 => ((tq C i).1 ||| 2 ^ nx (pkT C i (tq C i)) (cN C), nx (pkT C i (tq C i)) (cN C), chv C ((tq C i).1 ||| 2 ^ nx (pkT C i (tq C i)) (cN C)) (cCo C (nx (pkT C i (tq C i)) (cN C))))
def rwT (C : CoatA) (i : Nat) : Nat := nx (pkT C i (tq C i)) (cN C)
theorem pc_0 (n : Nat) : pc 0 n = 0 := gS_0 _ (fun s _ => by show (if (0 : Nat).testBit s = true then 1 else 0) = 0; rw [Nat.zero_testBit]; rfl)
theorem pc_all (n : Nat) : pc (2 ^ n - 1) n = n := by
  have e := gS_const 1 n
  rw [Nat.mul_one] at e
  refine Eq.trans ?_ e
  exact gS_cg _ (fun s hs => by rw [all_tb]; simp [hs])
theorem tq_v {C : CoatA} {r : Nat → Nat} (hO : Od C r) : ∀ i, i ≤ cN C → Cl (cAf C) (cN C) (tq C i).1 ∧ pc (tq C i).1 (cN C) = i ∧ (0 < i → (tq C i).2.1 < cN C ∧ (tq C i).2.2 = chv C (tq C i).1 (cCo C (tq C i).2.1)) ∧ (tq C i).2.2 ≤ 1000000 ∧ (i < cN C → rwT C i < cN C) := by
  have hn := hO.1.1
  obtain ⟨-, p1, p2⟩ := pw9 (cN C) (by omega)
  have hne : ∀ i, i < cN C → pc (tq C i).1 (cN C) = i → (tq C i).1 < 2 ^ cN C → (tq C i).1 < 2 ^ cN C - 1 := by
    intro i hi h1 h2
    by_cases q : (tq C i).1 = 2 ^ cN C - 1
    · rw [q, pc_all] at h1; omega
    · omega
  intro i
  induction i with
  | zero =>
    intro hi
    refine ⟨Cl_0 _ _, pc_0 _, fun h => by omega, th_b C, fun h => ?_⟩
    have e0 : (0 : Nat) < 2 ^ cN C - 1 := hne 0 h (pc_0 _) (Nat.two_pow_pos _)
    obtain ⟨s, a, b⟩ := Od_next hO (Cl_0 _ _) e0
    have h1 := Cl_or (by have := Od_A hO.1 s a; omega) (Cl_0 _ _) a b
    rw [Nat.zero_or] at h1
    have h2 := chv_sm hO 9 _ (cCo C s) h1 (by omega)
    have h3 := mnS_le (b := if cN C = 0 then 0 else 1000000) (f := fun s => chv C (2 ^ s) (cCo C s)) b (cN C) a
    have h4 := mnS_at (mayB (cAf C) 0) (if cN C = 0 then 0 else 1000000) (fun s => chv C (2 ^ s) (cCo C s)) (cN C)
    rcases h4 with h4 | ⟨t, c, d, e⟩
    · rw [h4, if_neg (by omega)] at h3
      have h3' : 1000000 ≤ chv C (2 ^ s) (cCo C s) := h3
      omega
    · refine nx_lt c ?_
      rw [pkT_t]
      refine ⟨d, ?_⟩
      show chv C (0 ||| 2 ^ t) (cCo C t) + 0 = th C
      rw [Nat.zero_or]
      exact e
  | succ i ih =>
    intro hi
    obtain ⟨h1, h2, -, -, h3⟩ := ih (by omega)
    have h4 : rwT C i < cN C := h3 (by omega)
    have h5 : pkT C i (tq C i) (rwT C i) = true := nx_hit h4
    rw [pkT_t] at h5
    have h6 : Cl (cAf C) (cN C) (tq C (i + 1)).1 := Cl_or (s := rwT C i) (by have := Od_A hO.1 _ h4; omega) h1 h4 h5.1
    have h7 : pc (tq C (i + 1)).1 (cN C) = i + 1 := by
      show pc ((tq C i).1 ||| 2 ^ rwT C i) (cN C) = _
      rw [pc_or (mayB_n _ _ h5.1), if_pos h4, h2]
    have h8 := h6.1
    refine ⟨h6, h7, fun _ => ⟨h4, rfl⟩, chv_b hn (S := (tq C (i + 1)).1) (by omega) _, fun h => ?_⟩
    have h9 := hne (i + 1) h h7 h8
    have h10 := chv_sm hO 9 _ (cCo C (tq C (i + 1)).2.1) h6 (by omega)
    have h11 := mnS_at (mayB (cAf C) (tq C (i + 1)).1) (if (tq C (i + 1)).1 = 2 ^ cN C - 1 then 0 else 1000000) (fun s => chv C ((tq C (i + 1)).1 ||| 2 ^ s) (cCo C s) + chg C (cCo C (tq C (i + 1)).2.1) s) (cN C)
    have h12 := congrFun (chv_eq hn (S := (tq C (i + 1)).1) (by omega)) (cCo C (tq C (i + 1)).2.1)
    unfold chF at h12
    rw [← h12, if_neg (by omega)] at h11
    rcases h11 with h11 | ⟨t, c, d, e⟩
    · omega
    · refine nx_lt c ?_
      rw [pkT_t]
      exact ⟨d, e⟩
/-! the reference's side -/
theorem change_v {M : Mem} {k : Nat} {C : CoatA} (hH : MH M k C) (hV : CV C) {a b : Nat} (ha : a < cN C) (hb : b < cN C) : f_X10_change M (nI a) (nI b) = some (nI (chg C (cCo C a) b)) := by
  have hn := hV.1
  have h1 := (hV.2.2.1 a ha).2.1
  have h2 := (hV.2.2.1 b hb).2.1
  obtain ⟨hk, y0, -, -, -, -, m2, -, -⟩ := hH
  unfold f_X10_change chg
  rw [nI_add, of_v y0 hk (by omega), (m2 a ha).2.1, bn_s, nI_add, of_v y0 hk (by omega), (m2 b hb).2.1, bn_s, ite_p (eq_n (by omega) (by omega))]
  by_cases q : cCo C a = cCo C b
  · rw [if_pos q, if_pos q]
  · rw [if_neg q, if_neg q]
def TbM (M : Mem) (C : CoatA) : Prop := ∀ j, 0 < j → j < 2 ^ cN C → ∀ c, c < cN C → gA M 100 37 (9 * j + c) = nI (chv C j (cCo C c))
theorem findChanges_v {M : Mem} {k : Nat} {C : CoatA} (hM : MF M k C) (hV : CV C) : ∃ M', f_X10_findChanges M = some M' ∧ FK 100 (p1 37) M M' ∧ TbM M' C := by
  have hn := hV.1
  obtain ⟨w1, w2, w3⟩ := pw9 (cN C) (by omega)
  obtain ⟨hH, h35, -⟩ := hM
  have h24 := hH.2.2.1
  unfold f_X10_findChanges
  rw [h35, nm_s]
  generalize eA : 2 ^ cN C - 1 = all at h35
  have eA2 : 2 ^ cN C = all + 1 := by omega
  unfold f_X10_findChanges_5
  refine lpU_inv (fun i a => ∃ M', a = (nI (all - i), M') ∧ FK 100 (p1 37) M M' ∧ ∀ j, all - i < j → j ≤ all → ∀ c, c < cN C → gA M' 100 37 (9 * j + c) = nI (chv C j (cCo C c))) all (fun x => ∃ M', x = some M' ∧ FK 100 (p1 37) M M' ∧ TbM M' C) (by omega) ?_ ?_ 0 _ (Nat.zero_le _) ⟨M, rfl, FK_rf M, fun j h1 h2 => by omega⟩
  · rintro rc a ⟨M', rfl, hf, ht⟩
    show ∃ M'', b_X10_findChanges_5 _ (nI (all - all)) M' = _ ∧ _
    unfold b_X10_findChanges_5
    rw [Nat.sub_self, if_pos (nI_le (Nat.le_refl _) (by omega))]
    exact ⟨M', rfl, hf, fun j h1 h2 => ht j (by omega) (by omega)⟩
  · rintro rc i a hi ⟨M', rfl, hf, ht⟩
    refine Or.inr ?_
    show ∃ a', _ ∧ b_X10_findChanges_5 _ (nI (all - i)) M' = _
    unfold b_X10_findChanges_5
    obtain ⟨v, hv⟩ : ∃ v, all - i = v + 1 := ⟨all - i - 1, by omega⟩
    rw [hv] at ht ⊢
    rw [if_neg (nI_ge (by omega) (by omega))]
    unfold f_X10_findChanges_11
    have e0 : v + 1 < 2 ^ cN C := by omega
    refine lpU_inv (fun c a => ∃ M2, a = (nI c, M2) ∧ FK 100 (p1 37) M M2 ∧ (∀ j, v + 1 < j → j ≤ all → ∀ c, c < cN C → gA M2 100 37 (9 * j + c) = nI (chv C j (cCo C c))) ∧ ∀ t, t < c → gA M2 100 37 (9 * (v + 1) + t) = nI (chv C (v + 1) (cCo C t))) (cN C) (fun x => ∃ a', (∃ M', a' = (nI (all - (i + 1)), M') ∧ FK 100 (p1 37) M M' ∧ ∀ j, all - (i + 1) < j → j ≤ all → ∀ c, c < cN C → gA M' 100 37 (9 * j + c) = nI (chv C j (cCo C c))) ∧ x = rc a') (by omega) ?_ ?_ 0 _ (Nat.zero_le _) ⟨M', rfl, hf, ht, fun t h => by omega⟩
    · rintro rc2 a ⟨M2, rfl, hf2, ht2, hc2⟩
      show ∃ a', _ ∧ b_X10_findChanges_11 _ (nI (v + 1)) _ (nI (cN C)) M2 = _
      unfold b_X10_findChanges_11
      rw [hf2.1, h24, if_pos (nI_le (Nat.le_refl _) (by omega)), dnI_n, dnI_s, nm_s]
      refine ⟨_, ⟨M2, by rw [show all - (i + 1) = v by omega], hf2, fun j h1 h2 c hc => ?_⟩, rfl⟩
      by_cases q : j = v + 1
      · rw [q]; exact hc2 c hc
      · exact ht2 j (by omega) h2 c hc
    · rintro rc2 c a hc ⟨M2, rfl, hf2, ht2, hc2⟩
      refine Or.inr ?_
      show ∃ a', _ ∧ b_X10_findChanges_11 _ (nI (v + 1)) _ (nI c) M2 = _
      unfold b_X10_findChanges_11
      have e35 : gI M2 100 35 = nI all := by rw [hf2.1]; exact h35
      have hH2 := MH_FK hH hf2 rfl
      have hb0 : ∀ b : Nat, (b = if v + 1 = all then 0 else 1000000) → ∃ a', (∃ M3, a' = (nI (c + 1), M3) ∧ FK 100 (p1 37) M M3 ∧ (∀ j, v + 1 < j → j ≤ all → ∀ c, c < cN C → gA M3 100 37 (9 * j + c) = nI (chv C j (cCo C c))) ∧ ∀ t, t < c + 1 → gA M3 100 37 (9 * (v + 1) + t) = nI (chv C (v + 1) (cCo C t))) ∧ f_X10_findChanges_34 (nI (v + 1)) (fun x0 x1 => rc2 (x0, x1)) (nI c) (nI b) M2 = rc2 a' := by
        intro b hb
        unfold f_X10_findChanges_34 f_X10_findChanges_38
        refine lpU_inv (fun s a => a = (nI (mnS (mayB (cAf C) (v + 1)) b (fun s => chv C ((v + 1) ||| 2 ^ s) (cCo C s) + chg C (cCo C c) s) s), nI s, M2)) (cN C) (fun x => ∃ a', (∃ M3, a' = (nI (c + 1), M3) ∧ FK 100 (p1 37) M M3 ∧ (∀ j, v + 1 < j → j ≤ all → ∀ c, c < cN C → gA M3 100 37 (9 * j + c) = nI (chv C j (cCo C c))) ∧ ∀ t, t < c + 1 → gA M3 100 37 (9 * (v + 1) + t) = nI (chv C (v + 1) (cCo C t))) ∧ x = rc2 a') (by omega) ?_ ?_ 0 _ (Nat.zero_le _) rfl
        · rintro rc3 a rfl
          show ∃ a', _ ∧ b_X10_findChanges_38 (nI (v + 1)) _ (nI c) _ _ (nI (cN C)) M2 = _
          unfold b_X10_findChanges_38
          rw [hf2.1, h24, if_pos (nI_le (Nat.le_refl _) (by omega)), pk_mul, nI_add, gin_n (by omega) (by omega), ix_n (by omega), nm_s, nI_add, nm_s]
          refine ⟨_, ⟨_, rfl, FK_tr hf2 (FK_sA M2 (p1_r 37)), fun j h1 h2 c' hc' => ?_, fun t h1 => ?_⟩, rfl⟩
          · rw [gA_sA, if_neg (by omega)]
            exact ht2 j h1 h2 c' hc'
          · rw [gA_sA]
            by_cases q : t = c
            · rw [if_pos ⟨rfl, rfl, by rw [q]⟩, q, chv_eq hn (by omega)]
              unfold chF
              rw [eA, hb]
            · rw [if_neg (by omega)]
              exact hc2 t (by omega)
        · rintro rc3 s a hs rfl
          refine Or.inr ⟨(nI (mnS (mayB (cAf C) (v + 1)) b (fun s => chv C ((v + 1) ||| 2 ^ s) (cCo C s) + chg C (cCo C c) s) (s + 1)), nI (s + 1), M2), rfl, ?_⟩
          show b_X10_findChanges_38 (nI (v + 1)) _ (nI c) _ _ (nI s) M2 = rc3 (nI (if _ then _ else _), nI (s + 1), M2)
          unfold b_X10_findChanges_38
          have hb2 := mnS_b (mayB (cAf C) (v + 1)) b (fun s => chv C ((v + 1) ||| 2 ^ s) (cCo C s) + chg C (cCo C c) s) s
          have hb3 : b ≤ 1000000 := by rw [hb]; split <;> omega
          rw [hf2.1, h24, if_neg (nI_ge hs (by omega)), mayNext_v hH2 hV (by omega) hs, bn_s]
          unfold f_X10_findChanges_90
          by_cases q : mayB (cAf C) (v + 1) s = true
          · have h1 := or_lt e0 hs
            have h2 := or_gt (mayB_n (v + 1) s q)
            have h3 := chv_b hn (S := (v + 1) ||| 2 ^ s) (by omega) (cCo C s)
            have h4 := chg_le C (cCo C c) s
            rw [if_pos q, if_pos q, or_nI (by omega), pk_mul, nI_add, gin_n (by omega) (by omega), ix_n (by omega), change_v hH2 hV hc hs, bn_s, ht2 _ h2 (by omega) s hs, nI_add, lesser_n (by omega) (by omega), bn_s, nI_add, nm_s]
          · rw [if_neg q, if_neg q, nI_add, nm_s]
      rw [hf2.1, h24, if_neg (nI_ge hc (by omega)), e35]
      by_cases q : v + 1 = all
      · rw [if_pos (by rw [q])]
        exact hb0 0 (by rw [if_pos q])
      · rw [if_neg (ne_n q (by omega) (by omega))]
        exact hb0 1000000 (by rw [if_neg q])
theorem pow9_lt {n s : Nat} (hn : n ≤ 9) (hs : s < n) : 2 ^ s < 2 ^ n ∧ 0 < 2 ^ s := ⟨Nat.pow_lt_pow_right (by omega) hs, Nat.two_pow_pos _⟩
theorem threads_v {M : Mem} {k : Nat} {C : CoatA} (hH : MH M k C) (hV : CV C) (hT : TbM M C) : f_X10_threads M = some (nI (th C)) := by
  have hn := hV.1
  have w := (pw9 (cN C) (by omega)).2.1
  have h24 := hH.2.2.1
  have key : ∀ b : Nat, (b = if cN C = 0 then 0 else 1000000) → f_X10_threads_14 M (nI b) = some (nI (th C)) := by
    intro b hb
    unfold f_X10_threads_14 f_X10_threads_17
    refine lpU_for (fun s => (nI (mnS (mayB (cAf C) 0) b (fun s => chv C (2 ^ s) (cCo C s)) s), nI s)) (cN C) (some (nI (th C))) (by omega) 0 (Nat.zero_le _) ?_ ?_
    · intro rc
      show b_X10_threads_17 M _ _ (nI (cN C)) = _
      unfold b_X10_threads_17
      rw [h24, if_pos (nI_le (Nat.le_refl _) (by omega))]
      unfold th
      rw [hb]
    · intro rc s _ hs
      show b_X10_threads_17 M _ _ (nI s) = rc (nI (if _ then _ else _), nI (s + 1))
      unfold b_X10_threads_17
      have hb2 := mnS_b (mayB (cAf C) 0) b (fun s => chv C (2 ^ s) (cCo C s)) s
      have hb3 : b ≤ 1000000 := by rw [hb]; split <;> omega
      obtain ⟨h1, h2⟩ := pow9_lt hn hs
      have h3 := chv_b hn (S := 2 ^ s) (by omega) (cCo C s)
      rw [h24, if_neg (nI_ge hs (by omega)), mayNext_v hH hV (by omega) hs, bn_s]
      unfold f_X10_threads_55
      by_cases q : mayB (cAf C) 0 s = true
      · rw [if_pos q, if_pos q, shl1_n (by omega), pk_mul, nI_add, gin_n (by omega) (by omega), ix_n (by omega), hT _ h2 h1 s hs, lesser_n (by omega) (by omega), bn_s, nI_add, nm_s]
      · rw [if_neg q, if_neg q, nI_add, nm_s]
  unfold f_X10_threads
  rw [h24]
  by_cases q : cN C = 0
  · rw [if_pos (by rw [q])]
    exact key 0 (by rw [if_pos q])
  · rw [if_neg (ne_n q (by omega) (by omega))]
    exact key 1000000 (by rw [if_neg q])
theorem threadedAt_v {M : Mem} {k : Nat} {C : CoatA} {r : Nat → Nat} (hH : MH M k C) (hO : Od C r) (hT : TbM M C) {p : Nat} (hp : p < cN C) : f_X10_threadedAt M (nI p) = some (nI (rwT C p)) := by
  have hV := hO.1
  have hn := hV.1
  have w := (pw9 (cN C) (by omega)).2.1
  unfold f_X10_threadedAt
  rw [threads_v hH hV hT, bn_s]
  unfold f_X10_threadedAt_13
  refine lpU_for (fun i => (nI (tq C i).1, (if i = 0 then (-1) else nI (tq C i).2.1), nI (tq C i).2.2, nI i)) (p + 1) (some (nI (rwT C p))) (by omega) 0 (Nat.zero_le _) ?_ ?_
  · intro rc
    show b_X10_threadedAt_13 M (nI p) _ _ _ _ (nI (p + 1)) = _
    unfold b_X10_threadedAt_13
    rw [if_pos (nI_lt (by omega) (by omega))]
    rfl
  · intro rc i _ hi
    show b_X10_threadedAt_13 M (nI p) _ _ _ _ (nI i) = _
    unfold b_X10_threadedAt_13
    rw [if_neg (nI_nlt (by omega) (by omega))]
    obtain ⟨g1, -, g2, g9, g3⟩ := tq_v hO i (by omega)
    have g3 := g3 (by omega)
    have g4 := g1.1
    have g5 : pkT C i (tq C i) (rwT C i) = true := nx_hit g3
    -- what is asked at a seam
    have ask : ∀ s, s < cN C → mayB (cAf C) (tq C i).1 s = true → ∀ (rc2 : Int32 → Option Int32), b_X10_threadedAt_22 M (nI p) (fun x0 x1 x2 x3 => rc (x0, x1, x2, x3)) (nI (tq C i).1) (if i = 0 then -1 else nI (tq C i).2.1) (nI (tq C i).2.2) (nI i) rc2 (nI s) = if chv C ((tq C i).1 ||| 2 ^ s) (cCo C s) + chL C i (tq C i).2.1 s = (tq C i).2.2 then rc (nI ((tq C i).1 ||| 2 ^ s), nI s, nI (chv C ((tq C i).1 ||| 2 ^ s) (cCo C s)), nI (i + 1)) else rc2 (nI (s + 1)) := by
      intro s hs q rc2
      unfold b_X10_threadedAt_22
      have h1 := or_lt g4 hs
      have h2 := or_gt (mayB_n _ s q)
      have h3 := chv_b hn (S := (tq C i).1 ||| 2 ^ s) (by omega) (cCo C s)
      have h4 := chL_le C i (tq C i).2.1 s
      have fin : ∀ l, f_X10_threadedAt_65 M (nI p) (nI (tq C i).1) l (nI (tq C i).2.2) (nI i) (fun x0 x1 x2 x3 => rc (x0, x1, x2, x3)) (fun x0 => f_X10_threadedAt_71 M (nI p) (nI (tq C i).1) l (nI (tq C i).2.2) (nI i) rc2 x0) (nI s) (nI (chv C ((tq C i).1 ||| 2 ^ s) (cCo C s))) (nI (chL C i (tq C i).2.1 s)) = if chv C ((tq C i).1 ||| 2 ^ s) (cCo C s) + chL C i (tq C i).2.1 s = (tq C i).2.2 then rc (nI ((tq C i).1 ||| 2 ^ s), nI s, nI (chv C ((tq C i).1 ||| 2 ^ s) (cCo C s)), nI (i + 1)) else rc2 (nI (s + 1)) := by
        intro l
        unfold f_X10_threadedAt_65 f_X10_threadedAt_71
        rw [nI_add, ite_p (eq_n (by omega) (by omega))]
        by_cases z : chv C ((tq C i).1 ||| 2 ^ s) (cCo C s) + chL C i (tq C i).2.1 s = (tq C i).2.2
        · rw [if_pos z, if_pos z, or_nI (by omega), nm_s, pk_mul, nI_add, gin_n (by omega) (by omega), ix_n (by omega), hT _ (by omega) h1 s hs, nm_s, nI_add, nm_s]
        · rw [if_neg z, if_neg z]
          show nm (nI s + nI 1) (fun v6 => rc2 v6) = _
          rw [nI_add, nm_s]
      rw [mayNext_v hH hV (by omega) hs, bn_s, if_pos q, or_nI (by omega), pk_mul, nI_add, gin_n (by omega) (by omega), ix_n (by omega), hT _ (by omega) h1 s hs]
      by_cases z : i = 0
      · have := fin (-1)
        have e : chL C i (tq C i).2.1 s = 0 := if_pos z
        rw [e] at this ⊢
        simp only [if_pos z]
        exact this
      · have e : chL C i (tq C i).2.1 s = chg C (cCo C (tq C i).2.1) s := if_neg z
        have g2' := (g2 (by omega)).1
        have := fin (nI (tq C i).2.1)
        rw [e] at this ⊢
        simp only [if_neg z]
        rw [if_neg (m1_ne (by omega)), change_v hH hV g2' hs, bn_s]
        exact this
    unfold f_X10_threadedAt_22
    refine lpU_for (fun s => nI s) (rwT C i) _ (by omega) 0 (Nat.zero_le _) ?_ ?_
    · intro rc2
      rw [pkT_t] at g5
      refine (ask _ g3 g5.1 _).trans ?_
      rw [if_pos g5.2]
      rfl
    · intro rc2 s _ hs
      have hsn : s < cN C := by omega
      have g6 := nx_min (p := pkT C i (tq C i)) hs
      by_cases q : mayB (cAf C) (tq C i).1 s = true
      · refine (ask _ hsn q _).trans ?_
        rw [if_neg (fun e => by
          have : pkT C i (tq C i) s = true := by rw [pkT_t]; exact ⟨q, e⟩
          rw [this] at g6
          exact absurd g6 (by decide))]
      · show b_X10_threadedAt_22 M (nI p) _ _ _ _ _ _ (nI s) = _
        unfold b_X10_threadedAt_22
        rw [mayNext_v hH hV (by omega) hsn, bn_s, if_neg q]
        unfold f_X10_threadedAt_71
        rw [nI_add, nm_s]
