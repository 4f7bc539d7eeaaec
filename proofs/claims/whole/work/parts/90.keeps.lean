/-! TEXTS: what was read is kept, on both sides -/
theorem store_v {M : Mem} {r w i : Nat} (hr : 6 ≤ r ∧ r ≤ 9) (hw : w ≤ 138) (hi : i < 2) (hl : w * i + w ≤ ln 10 r) (hl2 : ln 10 r < 2147483648) : ∃ f, f_X10_store M r (nI w) (nI i) = some (wA M 100 r f) ∧ (∀ j, j < w → f (w * i + j) = gA M 100 19 j) ∧ ∀ j, (j < w * i ∨ w * i + w ≤ j) → f j = gA M 100 r j := by
  have hwi : w * i ≤ 138 := by
    have : w * i ≤ w * 1 := Nat.mul_le_mul_left w (by omega)
    omega
  unfold f_X10_store f_X10_store_3
  refine lpU_inv (fun n q => ∃ f, q = (nI n, wA M 100 r f) ∧ (∀ j, j < n → f (w * i + j) = gA M 100 19 j) ∧ ∀ j, (j < w * i ∨ w * i + n ≤ j) → f j = gA M 100 r j) w (fun z => ∃ f, z = some (wA M 100 r f) ∧ (∀ j, j < w → f (w * i + j) = gA M 100 19 j) ∧ ∀ j, (j < w * i ∨ w * i + w ≤ j) → f j = gA M 100 r j) (by omega) ?_ ?_ 0 _ (Nat.zero_le _) ⟨gA M 100 r, by rw [wA_self], fun j hj => by omega, fun j _ => rfl⟩
  · rintro rc q ⟨f, rfl, h1, h2⟩
    show ∃ f', b_X10_store_3 r (nI w) (nI i) _ (nI w) (wA M 100 r f) = some (wA M 100 r f') ∧ _
    unfold b_X10_store_3
    rw [if_pos (nI_le (Nat.le_refl _) (by omega))]
    exact ⟨f, rfl, h1, h2⟩
  · rintro rc n q hn ⟨f, rfl, h1, h2⟩
    right
    refine ⟨(nI (n + 1), wA M 100 r (upd f (w * i + n) (gA M 100 19 n))), ⟨_, rfl, fun j hj => ?_, fun j hj => ?_⟩, ?_⟩
    · unfold upd
      by_cases p : j = n
      · rw [if_pos (by omega), p]
      · rw [if_neg (by omega)]; exact h1 j (by omega)
    · unfold upd
      rw [if_neg (by omega)]
      exact h2 j (by omega)
    · show b_X10_store_3 r (nI w) (nI i) _ (nI n) (wA M 100 r f) = _
      unfold b_X10_store_3
      have e19 : gA (wA M 100 r f) 100 19 = gA M 100 19 := by rw [gA_wA', if_neg (by omega)]
      rw [if_neg (nI_ge hn (by omega)), gin_n (by omega) (by omega), pk_mul, nI_add, gin_n (by omega) hl2, ix_n (by omega), ix_n (by omega), nm_s, nI_add, nm_s, e19]
      unfold sA
      rw [gA_wA, wA_wA]
theorem keep_list {α : Type} {V : α → Prop} {QX QM : Mem → Nat → α → Prop} {Mx Mx' Mm Mm' : Mem} {bo w c v : Nat} (old : ∀ k, k < c → ∃ A, V A ∧ QX Mx (bo + k) A ∧ QM Mm (w * (2 * 0 + k)) A) (new : ∃ A, V A ∧ QX Mx' (bo + v) A ∧ QM Mm' (w * (2 * 0 + v)) A) (kx : ∀ k A, ¬ k = v → QX Mx (bo + k) A → QX Mx' (bo + k) A) (km : ∀ k A, ¬ k = v → V A → QM Mm (w * (2 * 0 + k)) A → QM Mm' (w * (2 * 0 + k)) A) (hv : v ≤ c) : ∀ k, k < max c (v + 1) → ∃ A, V A ∧ QX Mx' (bo + k) A ∧ QM Mm' (w * (2 * 0 + k)) A := by
  intro k hk
  by_cases q : k = v
  · rw [q]; exact new
  · obtain ⟨A, a1, a2, a3⟩ := old k (by omega)
    exact ⟨A, a1, kx k A q a2, km k A q a1 a3⟩
theorem Rl_new {Mx Mx' Mm Mm' : Mem} (H : Rl Mx Mm) (hx : ∀ o, o = 0 ∨ 21 ≤ o → (∀ k, gI Mx' o k = gI Mx o k) ∧ ∀ k, gA Mx' o k = gA Mx o k) (hm : ∀ r j, (r = 1 ∧ 600 ≤ j) ∨ (2 ≤ r ∧ r ≤ 4 ∧ 1 ≤ j) ∨ (r = 5 ∧ 4 ≤ j) ∨ (r = 6 ∧ 276 ≤ j) ∨ (r = 7 ∧ 162 ≤ j) ∨ (r = 8 ∧ 82 ≤ j) ∨ (r = 9 ∧ 62 ≤ j) ∨ r = 57 → gA Mm' 100 r j = gA Mm 100 r j) (h : RT Mx' Mm' 1 0) : Rl Mx' Mm' := by
  refine ⟨h, fun j hj => ?_⟩
  rw [(hx 0 (by omega)).2, hm 57 j (by omega)]
  rcases H.2 j hj with ⟨a, b⟩ | ⟨a, b, c⟩
  · exact Or.inl ⟨a, b⟩
  · refine Or.inr ⟨a, b, RT_ab.mpr ?_⟩
    obtain ⟨c1, c2⟩ := RT_ab.mp c
    refine ⟨RTa_cg c1 (fun k => (hx _ (by omega)).1 k) (fun k => (hx _ (by omega)).2 k) (fun s hs => hm _ _ (by omega)) ⟨hm _ _ (by omega), hm _ _ (by omega), hm _ _ (by omega)⟩, ?_⟩
    exact RTb_at c2 (fun s _ => by rw [(hx _ (by omega)).2]) (fun k hk C _ c => CX_cg (hx _ (by omega)) c) (fun k hk L _ c => LX_cg (hx _ (by omega)) c) (fun k hk T _ c => TX_cg (hx _ (by omega)) c) (fun k hk S _ c => SX_cg (hx _ (by omega)) c) (fun s hs => hm _ _ (by omega)) (fun s hs => hm _ _ (by omega)) (fun s hs => hm _ _ (by omega)) (fun s hs => hm _ _ (by omega)) (fun s hs => hm _ _ (by omega))
/-- what is kept, sort by sort -/
def FinA (a : Nat) : Mem → Mem → Prop := if a = 0 then FinC else if a = 1 then FinL else if a = 2 then FinT else FinS
/-- rows and numbers of a sort -/
def roA (a : Nat) : Nat := 6 + a
def wdA (a : Nat) : Nat := if a = 0 then 138 else if a = 1 then 81 else if a = 2 then 41 else 31
theorem storeAll_v {M : Mem} {a v : Nat} (ha : a < 4) (hv : v < 2) : ∃ f, f_X10_storeAll M (nI a) (nI v) = some (wA M 100 (roA a) f) ∧ (∀ j, j < wdA a → f (wdA a * v + j) = gA M 100 19 j) ∧ ∀ j, (j < wdA a * v ∨ wdA a * v + wdA a ≤ j) → f j = gA M 100 (roA a) j := by
  have hc : a = 0 ∨ a = 1 ∨ a = 2 ∨ a = 3 := by omega
  unfold f_X10_storeAll
  rcases hc with rfl | rfl | rfl | rfl
  · obtain ⟨f, h1, h2⟩ := store_v (M := M) (r := 6) (w := 138) (i := v) (by omega) (by omega) hv (by show 138 * v + 138 ≤ 1104; omega) (by decide)
    rw [if_pos rfl, h1, bn_s]
    exact ⟨f, rfl, h2⟩
  · obtain ⟨f, h1, h2⟩ := store_v (M := M) (r := 7) (w := 81) (i := v) (by omega) (by omega) hv (by show 81 * v + 81 ≤ 648; omega) (by decide)
    rw [if_neg (by decide), if_pos rfl, h1, bn_s]
    exact ⟨f, rfl, h2⟩
  · obtain ⟨f, h1, h2⟩ := store_v (M := M) (r := 8) (w := 41) (i := v) (by omega) (by omega) hv (by show 41 * v + 41 ≤ 328; omega) (by decide)
    rw [if_neg (by decide), if_neg (by decide), if_pos rfl, h1, bn_s]
    exact ⟨f, rfl, h2⟩
  · obtain ⟨f, h1, h2⟩ := store_v (M := M) (r := 9) (w := 31) (i := v) (by omega) (by omega) hv (by show 31 * v + 31 ≤ 248; omega) (by decide)
    rw [if_neg (by decide), if_neg (by decide), if_neg (by decide), h1, bn_s]
    exact ⟨f, rfl, h2⟩
theorem keepX_v {M : Mem} {a v c : Nat} (ha : a < 4) (hv : v < 2) (hc : gA M 1 4 a = nI c) (c2 : c ≤ 2) : ∃ M', f_X5_keep M 1 (nI a) (nI v) = some M' ∧ (∀ o, ¬ o = 1 → ¬ o = 2 + 2 * a + v → (∀ k, gI M' o k = gI M o k) ∧ ∀ k, gA M' o k = gA M o k) ∧ (∀ k, gI M' 1 k = gI M 1 k) ∧ (∀ k, ¬ k = 4 → gA M' 1 k = gA M 1 k) ∧ (∀ s, gA M' 1 4 s = if s = a then nI (max c (v + 1)) else gA M 1 4 s) ∧ (a = 0 → ∀ C, cN C ≤ 9 → CX M 11 C → CX M' (2 + 2 * a + v) C) ∧ (a = 1 → ∀ L, L.1 ≤ 40 → LX M 12 L → LX M' (2 + 2 * a + v) L) ∧ (a = 2 → ∀ T, tW T ≤ 6 → TX M 13 T → TX M' (2 + 2 * a + v) T) ∧ (a = 3 → ∀ S, S.1 ≤ 10 → SX M 14 S → SX M' (2 + 2 * a + v) S) := by
  have e109 : ∀ M1, FRo (2 + 2 * a + v) M M1 → f_X5_keep_109 1 (nI a) (nI v) M1 = some (sA M1 1 4 a (nI (max c (v + 1)))) := by
    intro M1 h1
    unfold f_X5_keep_109
    rw [gin_n ha (by omega), ix_n (by omega), (h1 1 (by omega)).2, hc, nI_add, mx_n (by omega) (by omega), nm_s, gin_n ha (by omega), nm_s]
  have fin : ∀ M1, FRo (2 + 2 * a + v) M M1 → (∀ o, ¬ o = 1 → ¬ o = 2 + 2 * a + v → (∀ k, gI (sA M1 1 4 a (nI (max c (v + 1)))) o k = gI M o k) ∧ ∀ k, gA (sA M1 1 4 a (nI (max c (v + 1)))) o k = gA M o k) ∧ (∀ k, gI (sA M1 1 4 a (nI (max c (v + 1)))) 1 k = gI M 1 k) ∧ (∀ k, ¬ k = 4 → gA (sA M1 1 4 a (nI (max c (v + 1)))) 1 k = gA M 1 k) ∧ (∀ s, gA (sA M1 1 4 a (nI (max c (v + 1)))) 1 4 s = if s = a then nI (max c (v + 1)) else gA M 1 4 s) := by
    intro M1 h1
    refine ⟨fun o o1 o2 => ⟨fun k => by rw [gI_sA, (h1 o o2).1], fun k => by funext j; rw [gA_sA, if_neg (by omega), (h1 o o2).2]⟩, fun k => by rw [gI_sA, (h1 1 (by omega)).1], fun k hk => by funext j; rw [gA_sA, if_neg (by omega), (h1 1 (by omega)).2], fun s => ?_⟩
    rw [gA_sA, (h1 1 (by omega)).2]
    by_cases q : s = a
    · rw [if_pos ⟨rfl, rfl, q⟩, if_pos q]
    · rw [if_neg (fun z => q z.2.2), if_neg q]
  have cg : ∀ M1 : Mem, (∀ k, gI (sA M1 1 4 a (nI (max c (v + 1)))) (2 + 2 * a + v) k = gI M1 (2 + 2 * a + v) k) ∧ ∀ k, gA (sA M1 1 4 a (nI (max c (v + 1)))) (2 + 2 * a + v) k = gA M1 (2 + 2 * a + v) k := fun M1 => ⟨fun k => gI_sA .., fun k => by funext j; rw [gA_sA, if_neg (by omega)]⟩
  have hcs : a = 0 ∨ a = 1 ∨ a = 2 ∨ a = 3 := by omega
  unfold f_X5_keep
  rw [if_neg (n_nneg (by omega)), if_neg (nI_ge ha (by omega)), if_neg (n_nneg (by omega)), if_pos (nI_lt hv (by omega)), ix_n (by omega)]
  rcases hcs with rfl | rfl | rfl | rfl
  · obtain ⟨M1, t1, t2, t3⟩ := take0_v (M := M) (o := 1 + 1 + v) (a := 11) (by omega)
    rw [show 1 + 1 + v = 2 + 2 * 0 + v by omega] at t1 t2 t3
    rw [if_pos rfl, gin_n hv (by omega), show 1 + 1 + v = 2 + 2 * 0 + v by omega, t1, bn_s, e109 M1 t3]
    obtain ⟨g1, g2, g3, g4⟩ := fin M1 t3
    exact ⟨_, rfl, g1, g2, g3, g4, fun _ C hC h => CX_cg (cg M1) (CX_CP t2 hC h), fun z => by omega, fun z => by omega, fun z => by omega⟩
  · obtain ⟨M1, t1, t2, t3⟩ := take1_v (M := M) (o := 1 + 3 + v) (a := 12) (by omega)
    rw [show 1 + 3 + v = 2 + 2 * 1 + v by omega] at t1 t2 t3
    rw [if_neg (by decide), if_pos rfl, gin_n hv (by omega), show 1 + 3 + v = 2 + 2 * 1 + v by omega, t1, bn_s, e109 M1 t3]
    obtain ⟨g1, g2, g3, g4⟩ := fin M1 t3
    exact ⟨_, rfl, g1, g2, g3, g4, fun z => by omega, fun _ C hC h => LX_cg (cg M1) (LX_CP t2 hC h), fun z => by omega, fun z => by omega⟩
  · obtain ⟨M1, t1, t2, t3⟩ := take6_v (M := M) (o := 1 + 5 + v) (a := 13) (by omega)
    rw [show 1 + 5 + v = 2 + 2 * 2 + v by omega] at t1 t2 t3
    rw [if_neg (by decide), if_neg (by decide), if_pos rfl, gin_n hv (by omega), show 1 + 5 + v = 2 + 2 * 2 + v by omega, t1, bn_s, e109 M1 t3]
    obtain ⟨g1, g2, g3, g4⟩ := fin M1 t3
    exact ⟨_, rfl, g1, g2, g3, g4, fun z => by omega, fun z => by omega, fun _ C hC h => TX_cg (cg M1) (TX_CP t2 hC h), fun z => by omega⟩
  · obtain ⟨M1, t1, t2, t3⟩ := take4_v (M := M) (o := 1 + 7 + v) (a := 14) (by omega)
    rw [show 1 + 7 + v = 2 + 2 * 3 + v by omega] at t1 t2 t3
    rw [if_neg (by decide), if_neg (by decide), if_neg (by decide), gin_n hv (by omega), show 1 + 7 + v = 2 + 2 * 3 + v by omega, t1, bn_s, e109 M1 t3]
    obtain ⟨g1, g2, g3, g4⟩ := fin M1 t3
    exact ⟨_, rfl, g1, g2, g3, g4, fun z => by omega, fun z => by omega, fun z => by omega, fun _ C hC h => SX_cg (cg M1) (SX_CP t2 hC h)⟩
