/-! TEXTS: a DEED, a FACT is added on both sides -/
section Keep
variable {tb : Nat → Nat} {tl : Nat} {M : Mem}
theorem keep_v {n m c e j : Nat} {x : Nat × Nat} (hM : MLs tb tl e j x M) (hn : n ≤ 4) (hm : m < 100) (hc : gA M 100 19 0 = nI c) (hcm : c ≤ m) (hs : 1 + n * m ≤ 138) : ∃ M', f_X10_keep M (nI n) (nI m) = some M' ∧ MLs tb tl e j x M' ∧ FM M M' ∧ gA M' 100 19 0 = nI (min (c + 1) m) ∧ gI M' 100 21 = gI M 100 21 ∧ (c < m → (∀ i, i < n → gA M' 100 19 (1 + n * c + i) = gA M 100 20 i) ∧ ∀ i, 1 ≤ i → i < 1 + n * c → gA M' 100 19 i = gA M 100 19 i) := by
  unfold f_X10_keep
  rw [gin_n (by omega) (by omega), ix_n (by omega), hc, nm_s, ite_p (eq_n (by omega) (by omega))]
  by_cases p : c = m
  · rw [if_pos p]
    exact ⟨M, rfl, hM, FM_rf _, by rw [hc, show min (c + 1) m = c by omega], rfl, fun z => by omega⟩
  · rw [if_neg p]
    have hb : 1 + n * c + n ≤ 138 := by
      have : n * (c + 1) ≤ n * m := Nat.mul_le_mul_left n (by omega)
      rw [Nat.mul_succ] at this
      omega
    unfold f_X10_keep_16
    refine lpU_inv (fun i a => ∃ M1, a = (nI i, M1) ∧ MLs tb tl e j x M1 ∧ FM M M1 ∧ gI M1 100 21 = gI M 100 21 ∧ (∀ s, gA M1 100 20 s = gA M 100 20 s) ∧ (∀ s, s < i → gA M1 100 19 (1 + n * c + s) = gA M 100 20 s) ∧ ∀ s, s < 1 + n * c → gA M1 100 19 s = gA M 100 19 s) n (fun z => ∃ M', z = some M' ∧ MLs tb tl e j x M' ∧ FM M M' ∧ gA M' 100 19 0 = nI (min (c + 1) m) ∧ gI M' 100 21 = gI M 100 21 ∧ (c < m → (∀ i, i < n → gA M' 100 19 (1 + n * c + i) = gA M 100 20 i) ∧ ∀ i, 1 ≤ i → i < 1 + n * c → gA M' 100 19 i = gA M 100 19 i)) (by omega) ?_ ?_ 0 _ (Nat.zero_le _) ⟨M, rfl, hM, FM_rf _, rfl, fun _ => rfl, fun s hs => by omega, fun _ _ => rfl⟩
    · rintro rc a ⟨M1, rfl, h1, h2, h3, h4, h5, h6⟩
      show ∃ M', b_X10_keep_16 (nI n) (nI m) (nI c) _ (nI n) M1 = some M' ∧ _
      unfold b_X10_keep_16
      rw [if_pos (nI_le (Nat.le_refl _) (by omega)), gin_n (by omega) (by omega), gin_n (by omega) (by omega), ix_n (by omega), h6 0 (by omega), hc, nI_add, nm_s]
      refine ⟨_, rfl, MLs_A h1 (by omega), FM_tr h2 (FM_sA _ (by omega)), ?_, by rw [gI_sA]; exact h3, fun _ => ⟨fun i hi => ?_, fun i i1 i2 => ?_⟩⟩
      · rw [gA_sA, if_pos ⟨rfl, rfl, rfl⟩, show min (c + 1) m = c + 1 by omega]
      · rw [gA_sA, if_neg (by omega)]; exact h5 i hi
      · rw [gA_sA, if_neg (by omega)]; exact h6 i i2
    · rintro rc i a hi ⟨M1, rfl, h1, h2, h3, h4, h5, h6⟩
      right
      refine ⟨(nI (i + 1), sA M1 100 19 (1 + n * c + i) (gA M 100 20 i)), ⟨sA M1 100 19 (1 + n * c + i) (gA M 100 20 i), rfl, MLs_A h1 (by omega), FM_tr h2 (FM_sA _ (by omega)), by rw [gI_sA]; exact h3, fun s => by rw [gA_sA, if_neg (by omega)]; exact h4 s, fun s hs => ?_, fun s hs => ?_⟩, ?_⟩
      · rw [gA_sA]
        by_cases q : s = i
        · rw [if_pos ⟨rfl, rfl, by omega⟩, q]
        · rw [if_neg (by omega)]; exact h5 s (by omega)
      · rw [gA_sA, if_neg (by omega)]; exact h6 s hs
      · show b_X10_keep_16 (nI n) (nI m) (nI c) _ (nI i) M1 = _
        unfold b_X10_keep_16
        rw [if_neg (nI_ge hi (by omega)), gin_n (by omega) (by omega), pk_mul, nI_add, nI_add, gin_n (by omega) (by omega), ix_n (by omega), ix_n (by omega), h4, nm_s, nI_add, nm_s]
/-! DEEDS -/
def setL (L : LifeA) (w : Nat) (v : Int32) : LifeA := (L.1 + 1, (fun k => if k = L.1 then w else L.2.1 k), fun k => if k = L.1 then v else L.2.2 k)
def LR1 (M : Mem) (L : LifeA) : Prop := gA M 100 19 0 = nI L.1 ∧ ∀ k, k < L.1 → gA M 100 19 (1 + 2 * k) = nI (L.2.1 k) ∧ gA M 100 19 (1 + 2 * k + 1) = L.2.2 k
theorem addDeed_v {n w : Nat} {v : Int32} (hn : gI M 12 0 = nI n) (n4 : n ≤ 40) : ∃ M', f_X1_addDeed M 12 (nI w) v = some M' ∧ FOx M M' ∧ gI M' 12 0 = nI (min (n + 1) 40) ∧ ∀ L, L.1 = n → n < 40 → LX M 12 L → LX M' 12 (setL L w v) := by
  unfold f_X1_addDeed
  rw [hn, ite_p (le_n (by omega) (by omega))]
  by_cases p : 40 ≤ n
  · rw [if_pos p]
    exact ⟨M, rfl, FOx_rf _, by rw [hn, show min (n + 1) 40 = n by omega], fun L _ z => by omega⟩
  · rw [if_neg p, gin_n (by omega) (by omega), nm_s]
    simp only [gI_sA, hn]
    rw [gin_n (by omega) (by omega), nm_s]
    simp only [gI_sA, hn]
    rw [nm_s, nI_add, ix_n (by omega)]
    refine ⟨_, rfl, FOx_tr (FOx_sA _ (by omega)) (FOx_tr (FOx_sA _ (by omega)) (FOx_sI _ (by omega))), ?_, ?_⟩
    · rw [gI_sI, if_pos ⟨rfl, rfl⟩, show min (n + 1) 40 = n + 1 by omega]
    · rintro L hL - ⟨h1, h2⟩
      refine ⟨?_, fun k hk => ?_⟩
      · rw [gI_sI, if_pos ⟨rfl, rfl⟩]; show nI (n + 1) = nI (L.1 + 1); rw [hL]
      · have hk2 : k < L.1 + 1 := hk
        rw [gA_sI, gA_sI, gA_sA, gA_sA, gA_sA, gA_sA]
        show _ = nI (if k = L.1 then w else L.2.1 k) ∧ _ = if k = L.1 then v else L.2.2 k
        by_cases q : k = n
        · rw [if_neg (by omega), if_pos ⟨rfl, rfl, q⟩, if_pos (by omega), if_pos ⟨rfl, rfl, q⟩, if_pos (by omega)]
          exact ⟨rfl, rfl⟩
        · rw [if_neg (by omega), if_neg (by omega), if_neg (by omega), if_neg (by omega), if_neg (by omega), if_neg (by omega)]
          exact h2 k (by omega)
/-! FACTS -/
def setF (S : SightA) (w a b : Nat) : SightA := (S.1 + 1, (fun k => if k = S.1 then w else S.2.1 k), (fun k => if k = S.1 then a else S.2.2.1 k), fun k => if k = S.1 then b else S.2.2.2 k)
def SR1 (M : Mem) (S : SightA) : Prop := gA M 100 19 0 = nI S.1 ∧ ∀ k, k < S.1 → gA M 100 19 (1 + 3 * k) = nI (S.2.1 k) ∧ gA M 100 19 (1 + 3 * k + 1) = nI (S.2.2.1 k) ∧ gA M 100 19 (1 + 3 * k + 2) = nI (S.2.2.2 k)
theorem addFact_v {n w a b : Nat} (hn : gI M 14 0 = nI n) (n4 : n ≤ 10) : ∃ M', f_X4_addFact M 14 (nI w) (nI a) (nI b) = some M' ∧ FOx M M' ∧ gI M' 14 0 = nI (min (n + 1) 10) ∧ ∀ S, S.1 = n → n < 10 → SX M 14 S → SX M' 14 (setF S w a b) := by
  unfold f_X4_addFact
  rw [hn, ite_p (le_n (by omega) (by omega))]
  by_cases p : 10 ≤ n
  · rw [if_pos p]
    exact ⟨M, rfl, FOx_rf _, by rw [hn, show min (n + 1) 10 = n by omega], fun L _ z => by omega⟩
  · rw [if_neg p, gin_n (by omega) (by omega), nm_s]
    simp only [gI_sA, hn]
    rw [gin_n (by omega) (by omega), nm_s]
    simp only [gI_sA, hn]
    rw [gin_n (by omega) (by omega), nm_s]
    simp only [gI_sA, hn]
    rw [nm_s, nI_add, ix_n (by omega)]
    refine ⟨_, rfl, FOx_tr (FOx_sA _ (by omega)) (FOx_tr (FOx_sA _ (by omega)) (FOx_tr (FOx_sA _ (by omega)) (FOx_sI _ (by omega)))), ?_, ?_⟩
    · rw [gI_sI, if_pos ⟨rfl, rfl⟩, show min (n + 1) 10 = n + 1 by omega]
    · rintro S hS - ⟨h1, h2⟩
      refine ⟨?_, fun k hk => ?_⟩
      · rw [gI_sI, if_pos ⟨rfl, rfl⟩]; show nI (n + 1) = nI (S.1 + 1); rw [hS]
      · have hk2 : k < S.1 + 1 := hk
        rw [gA_sI, gA_sI, gA_sI, gA_sA, gA_sA, gA_sA, gA_sA, gA_sA, gA_sA, gA_sA, gA_sA, gA_sA]
        show _ = nI (if k = S.1 then w else S.2.1 k) ∧ _ = nI (if k = S.1 then a else S.2.2.1 k) ∧ _ = nI (if k = S.1 then b else S.2.2.2 k)
        by_cases q : k = n
        · rw [if_neg (by omega), if_neg (by omega), if_pos ⟨rfl, rfl, q⟩, if_pos (by omega), if_neg (by omega), if_pos ⟨rfl, rfl, q⟩, if_pos (by omega), if_pos ⟨rfl, rfl, q⟩, if_pos (by omega)]
          exact ⟨rfl, rfl, rfl⟩
        · rw [if_neg (by omega), if_neg (by omega), if_neg (by omega), if_neg (by omega), if_neg (by omega), if_neg (by omega), if_neg (by omega), if_neg (by omega), if_neg (by omega), if_neg (by omega), if_neg (by omega), if_neg (by omega)]
          exact h2 k (by omega)
end Keep
