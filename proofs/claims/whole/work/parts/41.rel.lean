/-! WHAT IS TOLD, as numbers; how each side holds it -/
abbrev CoatA : Type := Nat × Nat × (Nat → Nat) × (Nat → Nat) × (Nat → Nat) × (Nat → Nat) × (Nat → Nat)
def cN (C : CoatA) : Nat := C.1
def cP (C : CoatA) : Nat := C.2.1
def cSt (C : CoatA) : Nat → Nat := C.2.2.1
def cCo (C : CoatA) : Nat → Nat := C.2.2.2.1
def cEs (C : CoatA) : Nat → Nat := C.2.2.2.2.1
def cAf (C : CoatA) : Nat → Nat := C.2.2.2.2.2.1
def cGr (C : CoatA) : Nat → Nat := C.2.2.2.2.2.2
def CX (M : Mem) (o : Nat) (C : CoatA) : Prop := gI M o 0 = nI (cN C) ∧ gI M o 1 = nI (cP C) ∧ (∀ s, s < cN C → gA M o 2 s = nI (cSt C s) ∧ gA M o 3 s = nI (cCo C s) ∧ gA M o 4 s = nI (cEs C s)) ∧ (∀ s, s < 9 → gA M o 5 s = nI (cAf C s)) ∧ ∀ d, d < 100 → gA M o 6 d = nI (cGr C d)
def CM (M : Mem) (b : Nat) (C : CoatA) : Prop := gA M 100 6 b = nI (cN C) ∧ gA M 100 6 (b + 1) = nI (cP C) ∧ (∀ s, s < cN C → gA M 100 6 (b + (2 + s)) = nI (cSt C s) ∧ gA M 100 6 (b + (11 + s)) = nI (cCo C s) ∧ gA M 100 6 (b + (20 + s)) = nI (cEs C s)) ∧ (∀ s, s < 9 → gA M 100 6 (b + (29 + s)) = nI (cAf C s)) ∧ ∀ d, d < 100 → gA M 100 6 (b + (38 + d)) = nI (cGr C d)
def CV (C : CoatA) : Prop := cN C ≤ 9 ∧ (1 ≤ cP C ∧ cP C ≤ 9) ∧ (∀ s, s < cN C → (1 ≤ cSt C s ∧ cSt C s ≤ 9) ∧ cCo C s ≤ 3 ∧ cEs C s ≤ 9 ∧ cAf C s < 2 ^ cN C ∧ (cAf C s).testBit s = false) ∧ (∀ s, cN C ≤ s → cAf C s = 0) ∧ ∀ d, cGr C d ≤ 9
abbrev LifeA : Type := Nat × (Nat → Nat) × (Nat → Int32)
def LX (M : Mem) (o : Nat) (L : LifeA) : Prop := gI M o 0 = nI L.1 ∧ ∀ k, k < L.1 → gA M o 1 k = nI (L.2.1 k) ∧ gA M o 2 k = L.2.2 k
def LM (M : Mem) (b : Nat) (L : LifeA) : Prop := gA M 100 7 b = nI L.1 ∧ ∀ k, k < L.1 → gA M 100 7 (b + (1 + 2 * k)) = nI (L.2.1 k) ∧ gA M 100 7 (b + (1 + 2 * k + 1)) = L.2.2 k
def LV (L : LifeA) : Prop := L.1 ≤ 40 ∧ ∀ k, k < L.1 → L.2.1 k ≤ 5 ∧ (L.2.1 k ≤ 2 → ∃ s, s ≤ 8 ∧ L.2.2 k = nI s) ∧ (L.2.1 k = 3 ∨ L.2.1 k = 4 → ∃ g, 1 ≤ g ∧ g ≤ 9 ∧ L.2.2 k = nI g) ∧ (L.2.1 k = 5 → L.2.2 k = -1)
abbrev TownA : Type := (Nat × Nat × Nat × Nat × Nat) × (Nat → Nat) × (Nat → Nat) × (Nat → Nat) × (Nat → Nat) × (Nat → Int32) × (Nat → Int32)
def tX (T : TownA) : Nat := T.1.1
def tY (T : TownA) : Nat := T.1.2.1
def tSp (T : TownA) : Nat := T.1.2.2.1
def tMi (T : TownA) : Nat := T.1.2.2.2.1
def tW (T : TownA) : Nat := T.1.2.2.2.2
def tXs (T : TownA) : Nat → Nat := T.2.1
def tYs (T : TownA) : Nat → Nat := T.2.2.1
def tSt (T : TownA) : Nat → Nat := T.2.2.2.1
def tDu (T : TownA) : Nat → Nat := T.2.2.2.2.1
def tFr (T : TownA) : Nat → Int32 := T.2.2.2.2.2.1
def tTo (T : TownA) : Nat → Int32 := T.2.2.2.2.2.2
def TX (M : Mem) (o : Nat) (T : TownA) : Prop := (gI M o 0 = nI (tX T) ∧ gI M o 1 = nI (tY T) ∧ gI M o 2 = nI (tSp T) ∧ gI M o 3 = nI (tMi T) ∧ gI M o 4 = nI (tW T)) ∧ (∀ w, w < tW T → gA M o 5 w = nI (tXs T w) ∧ gA M o 6 w = nI (tYs T w) ∧ gA M o 7 w = nI (tSt T w) ∧ gA M o 8 w = nI (tDu T w)) ∧ ∀ w, w < 6 → gA M o 9 w = tFr T w ∧ gA M o 10 w = tTo T w
def TM (M : Mem) (b : Nat) (T : TownA) : Prop := (gA M 100 8 b = nI (tW T) ∧ gA M 100 8 (b + 1) = nI (tSp T) ∧ gA M 100 8 (b + 2) = nI (tMi T) ∧ gA M 100 8 (b + 3) = nI (tX T) ∧ gA M 100 8 (b + 4) = nI (tY T)) ∧ (∀ w, w < tW T → gA M 100 8 (b + (5 + w)) = nI (tXs T w) ∧ gA M 100 8 (b + (11 + w)) = nI (tYs T w) ∧ gA M 100 8 (b + (17 + w)) = nI (tSt T w) ∧ gA M 100 8 (b + (23 + w)) = nI (tDu T w)) ∧ ∀ w, w < 6 → gA M 100 8 (b + (29 + w)) = tFr T w ∧ gA M 100 8 (b + (35 + w)) = tTo T w
def TV (T : TownA) : Prop := (tX T ≤ 9 ∧ tY T ≤ 9 ∧ (1 ≤ tSp T ∧ tSp T ≤ 9) ∧ (1 ≤ tMi T ∧ tMi T ≤ 9) ∧ tW T ≤ 6) ∧ (∀ w, w < tW T → tXs T w ≤ 9 ∧ tYs T w ≤ 9 ∧ (1 ≤ tSt T w ∧ tSt T w ≤ 30) ∧ tDu T w ≤ 99) ∧ ∀ w, w < 6 → (tFr T w = -1 ∧ tTo T w = -1) ∨ ∃ a b, a ≤ b ∧ b ≤ 99 ∧ tFr T w = nI a ∧ tTo T w = nI b
abbrev SightA : Type := Nat × (Nat → Nat) × (Nat → Nat) × (Nat → Nat)
def SX (M : Mem) (o : Nat) (S : SightA) : Prop := gI M o 0 = nI S.1 ∧ ∀ k, k < S.1 → gA M o 1 k = nI (S.2.1 k) ∧ gA M o 2 k = nI (S.2.2.1 k) ∧ gA M o 3 k = nI (S.2.2.2 k)
def SM (M : Mem) (b : Nat) (S : SightA) : Prop := gA M 100 9 b = nI S.1 ∧ ∀ k, k < S.1 → gA M 100 9 (b + (1 + 3 * k)) = nI (S.2.1 k) ∧ gA M 100 9 (b + (1 + 3 * k + 1)) = nI (S.2.2.1 k) ∧ gA M 100 9 (b + (1 + 3 * k + 2)) = nI (S.2.2.2 k)
def SV (S : SightA) : Prop := S.1 ≤ 10 ∧ ∀ k, k < S.1 → S.2.1 k ≤ 2 ∧ S.2.2.1 k ≤ 8 ∧ S.2.2.2 k ≤ 8 ∧ (S.2.1 k = 0 → S.2.2.1 k ≠ S.2.2.2 k)
/-- the Told at object t of the class and copy i of the reference hold the same -/
def RT (Mx Mm : Mem) (t i : Nat) : Prop :=
  (∃ n, n ≤ 600 ∧ gI Mx t 1 = nI n ∧ gA Mm 100 2 i = nI n) ∧
  (∀ j, j < 600 → (gA Mx t 0 j).toInt8 = (gA Mm 100 1 (600 * i + j)).toInt8) ∧
  (gI Mx t 2 = gA Mm 100 3 i ∧ gI Mx t 3 = gA Mm 100 4 i) ∧
  ∃ cn : Nat → Nat, (∀ s, s < 4 → cn s ≤ 2 ∧ gA Mx t 4 s = nI (cn s) ∧ gA Mm 100 5 (4 * i + s) = nI (cn s)) ∧
    (∀ k, k < cn 0 → ∃ C, CV C ∧ CX Mx (t + 1 + k) C ∧ CM Mm (138 * (2 * i + k)) C) ∧
    (∀ k, k < cn 1 → ∃ L, LV L ∧ LX Mx (t + 3 + k) L ∧ LM Mm (81 * (2 * i + k)) L) ∧
    (∀ k, k < cn 2 → ∃ T, TV T ∧ TX Mx (t + 5 + k) T ∧ TM Mm (41 * (2 * i + k)) T) ∧
    ∀ k, k < cn 3 → ∃ S, SV S ∧ SX Mx (t + 7 + k) S ∧ SM Mm (31 * (2 * i + k)) S
def Rl (Mx Mm : Mem) : Prop := RT Mx Mm 1 0 ∧ ∀ j, j < 3 → (gA Mx 0 1 j = 0 ∧ gA Mm 100 57 j = nI 0) ∨ (¬ gA Mx 0 1 j = 0 ∧ gA Mm 100 57 j = nI 1 ∧ RT Mx Mm (21 + 9 * j) (j + 1))
/-! frames -/
/-- the class's told objects are as they were -/
def FX (M M' : Mem) : Prop := ∀ o, o < 10 ∨ 21 ≤ o → (∀ k, gI M' o k = gI M o k) ∧ ∀ k, gA M' o k = gA M o k
/-- the reference's told rows are as they were -/
def FM (M M' : Mem) : Prop := ∀ k, (1 ≤ k ∧ k ≤ 9) ∨ k = 57 → gA M' 100 k = gA M 100 k
theorem FX_rf (M : Mem) : FX M M := fun _ _ => ⟨fun _ => rfl, fun _ => rfl⟩
theorem FM_rf (M : Mem) : FM M M := fun _ _ => rfl
theorem FX_tr {A B C : Mem} (h : FX A B) (g : FX B C) : FX A C := fun o ho => ⟨fun k => ((g o ho).1 k).trans ((h o ho).1 k), fun k => ((g o ho).2 k).trans ((h o ho).2 k)⟩
theorem FM_tr {A B C : Mem} (h : FM A B) (g : FM B C) : FM A C := fun k hk => (g k hk).trans (h k hk)
theorem FX_sI (M : Mem) {o k : Nat} {v : Int32} (h : 10 ≤ o ∧ o < 21) : FX M (sI M o k v) := fun a ha => ⟨fun b => if_neg (fun q => by omega), fun _ => rfl⟩
theorem FX_sR (M : Mem) {o k : Nat} {v : Nat} : FX M (sR M o k v) := fun a ha => ⟨fun _ => rfl, fun _ => rfl⟩
theorem FX_wA (M : Mem) {o k : Nat} {f : Nat → Int32} (h : 10 ≤ o ∧ o < 21) : FX M (wA M o k f) := fun a ha => ⟨fun _ => rfl, fun b => if_neg (fun q => by omega)⟩
theorem FX_sA (M : Mem) {o k j : Nat} {v : Int32} (h : 10 ≤ o ∧ o < 21) : FX M (sA M o k j v) := FX_wA M h
theorem FX_flA (M : Mem) {o k n : Nat} {v : Int32} (h : 10 ≤ o ∧ o < 21) : FX M (flA M o k n v) := FX_wA M h
theorem FX_cpA (M : Mem) {o k o' k' n : Nat} (h : 10 ≤ o' ∧ o' < 21) : FX M (cpA M o k o' k' n) := FX_wA M h
theorem FM_sI (M : Mem) {o k : Nat} {v : Int32} : FM M (sI M o k v) := fun _ _ => rfl
theorem FM_sL (M : Mem) {o k : Nat} {v : Int64} : FM M (sL M o k v) := fun _ _ => rfl
theorem FM_sB (M : Mem) {o k j : Nat} {v : Int64} : FM M (sB M o k j v) := fun _ _ => rfl
theorem FM_wA (M : Mem) {k : Nat} {f : Nat → Int32} (h : 10 ≤ k ∧ k ≠ 57) : FM M (wA M 100 k f) := fun b hb => if_neg (fun q => by omega)
theorem FM_sA (M : Mem) {k j : Nat} {v : Int32} (h : 10 ≤ k ∧ k ≠ 57) : FM M (sA M 100 k j v) := FM_wA M h
theorem CX_cg {M M' : Mem} {o : Nat} {C : CoatA} (h : (∀ k, gI M' o k = gI M o k) ∧ ∀ k, gA M' o k = gA M o k) (H : CX M o C) : CX M' o C := by
  unfold CX at H ⊢
  simp only [h.1, h.2]
  exact H
theorem LX_cg {M M' : Mem} {o : Nat} {C : LifeA} (h : (∀ k, gI M' o k = gI M o k) ∧ ∀ k, gA M' o k = gA M o k) (H : LX M o C) : LX M' o C := by
  unfold LX at H ⊢
  simp only [h.1, h.2]
  exact H
theorem TX_cg {M M' : Mem} {o : Nat} {C : TownA} (h : (∀ k, gI M' o k = gI M o k) ∧ ∀ k, gA M' o k = gA M o k) (H : TX M o C) : TX M' o C := by
  unfold TX at H ⊢
  simp only [h.1, h.2]
  exact H
theorem SX_cg {M M' : Mem} {o : Nat} {C : SightA} (h : (∀ k, gI M' o k = gI M o k) ∧ ∀ k, gA M' o k = gA M o k) (H : SX M o C) : SX M' o C := by
  unfold SX at H ⊢
  simp only [h.1, h.2]
  exact H
theorem CM_cg {M M' : Mem} {b : Nat} {C : CoatA} (h : gA M' 100 6 = gA M 100 6) (H : CM M b C) : CM M' b C := by
  unfold CM at H ⊢
  rw [h]
  exact H
theorem LM_cg {M M' : Mem} {b : Nat} {C : LifeA} (h : gA M' 100 7 = gA M 100 7) (H : LM M b C) : LM M' b C := by
  unfold LM at H ⊢
  rw [h]
  exact H
theorem TM_cg {M M' : Mem} {b : Nat} {C : TownA} (h : gA M' 100 8 = gA M 100 8) (H : TM M b C) : TM M' b C := by
  unfold TM at H ⊢
  rw [h]
  exact H
theorem SM_cg {M M' : Mem} {b : Nat} {C : SightA} (h : gA M' 100 9 = gA M 100 9) (H : SM M b C) : SM M' b C := by
  unfold SM at H ⊢
  rw [h]
  exact H
theorem RT_cg {Mx Mx' Mm Mm' : Mem} {t i : Nat} (hx : ∀ o, t ≤ o → o < t + 9 → (∀ k, gI Mx' o k = gI Mx o k) ∧ ∀ k, gA Mx' o k = gA Mx o k) (hm : ∀ k, 1 ≤ k → k ≤ 9 → gA Mm' 100 k = gA Mm 100 k) (H : RT Mx Mm t i) : RT Mx' Mm' t i := by
  obtain ⟨⟨n, h1, h2, h3⟩, h4, ⟨h5, h6⟩, cn, h7, h8, h9, h10, h11⟩ := H
  have ht := hx t (by omega) (by omega)
  refine ⟨⟨n, h1, by rw [ht.1]; exact h2, by rw [hm 2 (by omega) (by omega)]; exact h3⟩, fun j hj => by rw [ht.2, hm 1 (by omega) (by omega)]; exact h4 j hj, ⟨by rw [ht.1, hm 3 (by omega) (by omega)]; exact h5, by rw [ht.1, hm 4 (by omega) (by omega)]; exact h6⟩, cn, fun s hs => by rw [ht.2, hm 5 (by omega) (by omega)]; exact h7 s hs, fun k hk => ?_, fun k hk => ?_, fun k hk => ?_, fun k hk => ?_⟩
  · obtain ⟨C, g1, g2, g3⟩ := h8 k hk
    have := (h7 0 (by omega)).1
    exact ⟨C, g1, CX_cg (hx _ (by omega) (by omega)) g2, CM_cg (hm 6 (by omega) (by omega)) g3⟩
  · obtain ⟨C, g1, g2, g3⟩ := h9 k hk
    have := (h7 1 (by omega)).1
    exact ⟨C, g1, LX_cg (hx _ (by omega) (by omega)) g2, LM_cg (hm 7 (by omega) (by omega)) g3⟩
  · obtain ⟨C, g1, g2, g3⟩ := h10 k hk
    have := (h7 2 (by omega)).1
    exact ⟨C, g1, TX_cg (hx _ (by omega) (by omega)) g2, TM_cg (hm 8 (by omega) (by omega)) g3⟩
  · obtain ⟨C, g1, g2, g3⟩ := h11 k hk
    have := (h7 3 (by omega)).1
    exact ⟨C, g1, SX_cg (hx _ (by omega) (by omega)) g2, SM_cg (hm 9 (by omega) (by omega)) g3⟩
theorem Rl_fr {Mx Mx' Mm Mm' : Mem} (H : Rl Mx Mm) (hx : FX Mx Mx') (hm : FM Mm Mm') : Rl Mx' Mm' := by
  obtain ⟨h1, h2⟩ := H
  refine ⟨RT_cg (fun o a b => hx o (by omega)) (fun k a b => hm k (Or.inl ⟨a, b⟩)) h1, fun j hj => ?_⟩
  rw [(hx 0 (by omega)).2, hm 57 (Or.inr rfl)]
  rcases h2 j hj with ⟨a, b⟩ | ⟨a, b, c⟩
  · exact Or.inl ⟨a, b⟩
  · exact Or.inr ⟨a, b, RT_cg (fun o a b => hx o (by omega)) (fun k a b => hm k (Or.inl ⟨a, b⟩)) c⟩
/-- two answers are one, and what is told stays alike -/
def EqI (Mx Mm : Mem) (x m : Option (Int32 × Mem)) : Prop := ∃ r Mx' Mm', x = some (r, Mx') ∧ m = some (r, Mm') ∧ Rl Mx' Mm'
def EqL (Mx Mm : Mem) (x m : Option (Int64 × Mem)) : Prop := ∃ r Mx' Mm', x = some (r, Mx') ∧ m = some (r, Mm') ∧ Rl Mx' Mm'
def EqZ (Mx Mm : Mem) (x m : Option (Bool × Mem)) : Prop := ∃ r Mx' Mm', x = some (r, Mx') ∧ m = some (r, Mm') ∧ Rl Mx' Mm'
/-- the class's answer alone comes without a new memory -/
def wM {α : Type} (x : Option α) (M : Mem) : Option (α × Mem) := x.map (fun r => (r, M))
theorem wM_s {α : Type} (r : α) (M : Mem) : wM (some r) M = some (r, M) := rfl
