/-! PURE ROWS: numbers, steps, loops, memory -/
theorem le_n {a b : Nat} (ha : a < 2147483648) (hb : b < 2147483648) : (nI a ≤ nI b) = (a ≤ b) := propext (nI_leI ha hb)
theorem lt_n {a b : Nat} (ha : a < 2147483648) (hb : b < 2147483648) : (nI a < nI b) = (a < b) := propext (nI_ltI ha hb)
theorem eq_n {a b : Nat} (ha : a < 2147483648) (hb : b < 2147483648) : (nI a = nI b) = (a = b) := propext (nI_eq ha hb)
theorem ne_n {a b : Nat} (h : ¬ a = b) (ha : a < 2147483648) (hb : b < 2147483648) : ¬ nI a = nI b := fun e => h ((nI_eq ha hb).mp e)
theorem sub_n {a b : Nat} (h : b ≤ a) : nI a - nI b = nI (a - b) := pk_sub h
theorem ix_n {a : Nat} (h : a < 2147483648) : ix (nI a) = a := nI_clamp h
theorem gin_v {β : Type} {j : Int32} {n : Nat} {x : Option β} (h : vp_in j n) : gin j n x = x := if_neg h
theorem gin_n {β : Type} {j n : Nat} {x : Option β} (h : j < n) (hn : n < 2147483648) : gin (nI j) n x = x := gin_v (vp_in_nI h hn)
theorem bn_s {α β : Type} (a : α) (k : α → Option β) : bn (some a) k = k a := rfl
theorem bn_n {α β : Type} (k : α → Option β) : bn none k = none := rfl
theorem bp_s {α β γ : Type} (a : α) (b : β) (k : α → β → Option γ) : bp (some (a, b)) k = k a b := rfl
theorem nm_s {α β : Type} (e : α) (k : α → Option β) : nm e k = k e := rfl
theorem m31_n {s : Nat} (h : s < 32) : nI s &&& 31 = nI s := by
  have e : ∀ n, n < 32 → nI n &&& 31 = nI n := by decide +kernel
  exact e s h
theorem div_n {a b : Nat} (ha : a < 2147483648) (hb : b < 2147483648) (h0 : 0 < b) : nI a / nI b = nI (a / b) := pk_div ha h0 hb
theorem rem_n {a b : Nat} (ha : a < 2147483648) (hb : b < 2147483648) (h0 : 0 < b) : nI a - nI a / nI b * nI b = nI (a % b) := pk_rem ha h0 hb
theorem gnz_n {β : Type} {b : Nat} {x : Option β} (h : 0 < b) (hb : b < 2147483648) : gnz (nI b) x = x := if_neg (nI_ne0 h hb)
theorem shr_n {a s : Nat} (ha : a < 2147483648) (hs : s < 32) : nI a >>> (nI s &&& 31) = nI (a / 2 ^ s) := by
  have e : ∀ n, n < 32 → ((nI n &&& 31).toBitVec.smod 32).toNat = n := by decide +kernel
  exact pk_shrN ha _ s (e s hs)
theorem and_n (a b : Nat) : nI a &&& nI b = nI (a &&& b) := by
  apply Int32.toBitVec_inj.mp
  simp [nI]
theorem and1_n (a : Nat) : nI a &&& nI 1 = nI (a % 2) := by
  rw [and_n, Nat.and_one_is_mod]
/-- a bit of a set, as both sides ask for it -/
theorem bit_n {a s : Nat} (ha : a < 2147483648) (hs : s < 32) : (nI a >>> (nI s &&& 31) &&& nI 1 = nI 1) = (a.testBit s = true) := by
  rw [shr_n ha hs, and1_n, Nat.testBit_eq_decide_div_mod_eq]
  have h2 : a / 2 ^ s % 2 < 2147483648 := by omega
  rw [eq_n h2 (by omega)]
  simp
theorem or_n (a b : Nat) : nI a ||| nI b = nI (a ||| b) := by
  apply Int32.toBitVec_inj.mp
  simp [nI]
theorem xor_n (a b : Nat) : nI a ^^^ nI b = nI (a ^^^ b) := by
  apply Int32.toBitVec_inj.mp
  simp [nI]
theorem shl1_n {s : Nat} (hs : s < 31) : nI 1 <<< (nI s &&& 31) = nI (2 ^ s) := by
  have e : ∀ n, n < 31 → nI 1 <<< (nI n &&& 31) = nI (2 ^ n) := by decide +kernel
  exact e s hs
/-! memory -/
section MemR
variable (M : Mem) (o k : Nat) (v : Int32) (w : Int64) (f : Nat → Int32) (g : Nat → Int64) (a b j n u : Nat)
theorem gI_sI : gI (sI M o k v) a b = if a = o ∧ b = k then v else gI M a b := rfl
theorem gI_sL : gI (sL M o k w) a b = gI M a b := rfl
theorem gI_sR : gI (sR M o k u) a b = gI M a b := rfl
theorem gI_wA : gI (wA M o k f) a b = gI M a b := rfl
theorem gI_wB : gI (wB M o k g) a b = gI M a b := rfl
theorem gL_sI : gL (sI M o k v) a b = gL M a b := rfl
theorem gL_sL : gL (sL M o k w) a b = if a = o ∧ b = k then w else gL M a b := rfl
theorem gL_sR : gL (sR M o k u) a b = gL M a b := rfl
theorem gL_wA : gL (wA M o k f) a b = gL M a b := rfl
theorem gL_wB : gL (wB M o k g) a b = gL M a b := rfl
theorem gA_sI : gA (sI M o k v) a b = gA M a b := rfl
theorem gA_sL : gA (sL M o k w) a b = gA M a b := rfl
theorem gA_sR : gA (sR M o k u) a b = gA M a b := rfl
theorem gA_wA' : gA (wA M o k f) a b = if a = o ∧ b = k then f else gA M a b := rfl
theorem gA_wB : gA (wB M o k g) a b = gA M a b := rfl
theorem gB_sI : gB (sI M o k v) a b = gB M a b := rfl
theorem gB_sL : gB (sL M o k w) a b = gB M a b := rfl
theorem gB_sR : gB (sR M o k u) a b = gB M a b := rfl
theorem gB_wA : gB (wA M o k f) a b = gB M a b := rfl
theorem gB_wB : gB (wB M o k g) a b = if a = o ∧ b = k then g else gB M a b := rfl
theorem gR_sI : gR (sI M o k v) a b = gR M a b := rfl
theorem gR_sL : gR (sL M o k w) a b = gR M a b := rfl
theorem gR_sR' : gR (sR M o k u) a b = if a = o ∧ b = k then u else gR M a b := rfl
theorem gR_wA : gR (wA M o k f) a b = gR M a b := rfl
theorem gR_wB : gR (wB M o k g) a b = gR M a b := rfl
theorem gI_sA : gI (sA M o k j v) a b = gI M a b := rfl
theorem gI_sB : gI (sB M o k j w) a b = gI M a b := rfl
theorem gL_sA : gL (sA M o k j v) a b = gL M a b := rfl
theorem gL_sB : gL (sB M o k j w) a b = gL M a b := rfl
theorem gR_sA : gR (sA M o k j v) a b = gR M a b := rfl
theorem gR_sB : gR (sB M o k j w) a b = gR M a b := rfl
theorem gB_sA : gB (sA M o k j v) a b = gB M a b := rfl
theorem gA_sB : gA (sB M o k j w) a b = gA M a b := rfl
theorem gA_sA : gA (sA M o k j v) a b n = if a = o ∧ b = k ∧ n = j then v else gA M a b n := by
  unfold sA
  rw [gA_wA']
  by_cases h : a = o ∧ b = k
  · rw [if_pos h]
    obtain ⟨rfl, rfl⟩ := h
    unfold upd
    by_cases h2 : n = j
    · rw [if_pos h2, if_pos ⟨rfl, rfl, h2⟩]
    · rw [if_neg h2, if_neg (fun q => h2 q.2.2)]
  · rw [if_neg h, if_neg (fun q => h ⟨q.1, q.2.1⟩)]
theorem gB_sB : gB (sB M o k j w) a b n = if a = o ∧ b = k ∧ n = j then w else gB M a b n := by
  unfold sB
  rw [gB_wB]
  by_cases h : a = o ∧ b = k
  · rw [if_pos h]
    obtain ⟨rfl, rfl⟩ := h
    unfold vp_updL
    by_cases h2 : n = j
    · rw [if_pos h2, if_pos ⟨rfl, rfl, h2⟩]
    · rw [if_neg h2, if_neg (fun q => h2 q.2.2)]
  · rw [if_neg h, if_neg (fun q => h ⟨q.1, q.2.1⟩)]
theorem gI_flA : gI (flA M o k n v) a b = gI M a b := rfl
theorem gL_flA : gL (flA M o k n v) a b = gL M a b := rfl
theorem gB_flA : gB (flA M o k n v) a b = gB M a b := rfl
theorem gR_flA : gR (flA M o k n v) a b = gR M a b := rfl
theorem gA_flA : gA (flA M o k n v) a b j = if a = o ∧ b = k ∧ j < n then v else gA M a b j := by
  unfold flA
  rw [gA_wA']
  by_cases h : a = o ∧ b = k
  · rw [if_pos h]
    obtain ⟨rfl, rfl⟩ := h
    by_cases h2 : j < n
    · rw [if_pos h2, if_pos ⟨rfl, rfl, h2⟩]
    · rw [if_neg h2, if_neg (fun q => h2 q.2.2)]
  · rw [if_neg h, if_neg (fun q => h ⟨q.1, q.2.1⟩)]
variable (o' k' : Nat)
theorem gI_cpA : gI (cpA M o k o' k' n) a b = gI M a b := rfl
theorem gL_cpA : gL (cpA M o k o' k' n) a b = gL M a b := rfl
theorem gB_cpA : gB (cpA M o k o' k' n) a b = gB M a b := rfl
theorem gR_cpA : gR (cpA M o k o' k' n) a b = gR M a b := rfl
theorem gA_cpA : gA (cpA M o k o' k' n) a b j = if a = o' ∧ b = k' ∧ j < n then gA M o k j else gA M a b j := by
  unfold cpA
  rw [gA_wA']
  by_cases h : a = o' ∧ b = k'
  · rw [if_pos h]
    obtain ⟨rfl, rfl⟩ := h
    by_cases h2 : j < n
    · rw [if_pos h2, if_pos ⟨rfl, rfl, h2⟩]
    · rw [if_neg h2, if_neg (fun q => h2 q.2.2)]
  · rw [if_neg h, if_neg (fun q => h ⟨q.1, q.2.1⟩)]
end MemR
/-! loops -/
theorem lp_s {α β : Type} (F : (α → Option β) → α → Option β) (n : Nat) (a : α) : lp F (n + 1) a = F (lp F n) a := rfl
/-- a loop that counts from i up to n, its state g i -/
theorem lp_for {α β : Type} {F : (α → Option β) → α → Option β} (g : Nat → α) (n : Nat) (K : Option β) (hend : ∀ rc, F rc (g n) = K) (hstep : ∀ rc i, i < n → F rc (g i) = rc (g (i + 1))) : ∀ f i, n - i < f → i ≤ n → lp F f (g i) = K := by
  intro f
  induction f with
  | zero => intro i h; omega
  | succ f ih =>
    intro i h1 h2
    rw [lp_s]
    by_cases h : i = n
    · subst h
      exact hend _
    · rw [hstep _ i (by omega)]
      exact ih (i + 1) (by omega) (by omega)
/-- such a loop that may end early: at the first i of stop -/
theorem lp_find {α β : Type} {F : (α → Option β) → α → Option β} (g : Nat → α) (n : Nat) (K : Nat → Option β) (stop : Nat → Prop) (hend : ∀ rc, F rc (g n) = K n) (hstop : ∀ rc i, i < n → stop i → F rc (g i) = K i) (hstep : ∀ rc i, i < n → ¬ stop i → F rc (g i) = rc (g (i + 1))) (m : Nat) (hm : m ≤ n) (hmin : ∀ i, i < m → ¬ stop i) (hst : m < n → stop m) : ∀ f i, m - i < f → i ≤ m → lp F f (g i) = K m := by
  intro f
  induction f with
  | zero => intro i h; omega
  | succ f ih =>
    intro i h1 h2
    rw [lp_s]
    by_cases h : i = m
    · subst h
      by_cases h3 : i = n
      · subst h3; exact hend _
      · exact hstop _ i (by omega) (hst (by omega))
    · rw [hstep _ i (by omega) (hmin i (by omega))]
      exact ih (i + 1) (by omega) (by omega)
theorem FU_v : FU = 5000 := rfl
theorem lpU_for {α β : Type} {F : (α → Option β) → α → Option β} (g : Nat → α) (n : Nat) (K : Option β) (hn : n < 5000) (i0 : Nat) (hi : i0 ≤ n) (hend : ∀ rc, F rc (g n) = K) (hstep : ∀ rc i, i0 ≤ i → i < n → F rc (g i) = rc (g (i + 1))) : lp F FU (g i0) = K := by
  have key : ∀ f i, n - i < f → i0 ≤ i → i ≤ n → lp F f (g i) = K := by
    intro f
    induction f with
    | zero => intro i h; omega
    | succ f ih =>
      intro i h1 h0 h2
      rw [lp_s]
      by_cases h : i = n
      · subst h
        exact hend _
      · rw [hstep _ i h0 (by omega)]
        exact ih (i + 1) (by omega) (by omega) (by omega)
  exact key FU i0 (by rw [FU_v]; omega) (Nat.le_refl _) hi
theorem lpU_find {α β : Type} {F : (α → Option β) → α → Option β} (g : Nat → α) (n : Nat) (K : Nat → Option β) (stop : Nat → Prop) (hn : n < 5000) (hend : ∀ rc, F rc (g n) = K n) (hstop : ∀ rc i, i < n → stop i → F rc (g i) = K i) (hstep : ∀ rc i, i < n → ¬ stop i → F rc (g i) = rc (g (i + 1))) (m : Nat) (hm : m ≤ n) (hmin : ∀ i, i < m → ¬ stop i) (hst : m < n → stop m) (i0 : Nat) (hi : i0 ≤ m) : lp F FU (g i0) = K m := lp_find g n K stop hend hstop hstep m hm hmin hst FU i0 (by rw [FU_v]; omega) hi
/-- any int, by its sign -/
theorem int_cases (x : Int32) : x < 0 ∨ ∃ j : Nat, j < 2147483648 ∧ x = nI j := by
  by_cases h : x < 0
  · exact Or.inl h
  · obtain ⟨j, h1, h2⟩ := nI_of h
    exact Or.inr ⟨j, h1, h2⟩
theorem neg_lt {x : Int32} (h : x < 0) (n : Nat) (hn : n < 2147483648) : x < nI n := by
  rw [Int32.lt_iff_toInt_lt] at h ⊢
  rw [nI_toInt hn]
  have : (0 : Int32).toInt = 0 := rfl
  omega
theorem neg_nle {x : Int32} (h : x < 0) (n : Nat) (hn : n < 2147483648) : ¬ nI n ≤ x := by
  have := neg_lt h n hn
  rw [Int32.lt_iff_toInt_lt] at this
  rw [Int32.le_iff_toInt_le]
  omega
theorem neg_ne {x : Int32} (h : x < 0) (n : Nat) (hn : n < 2147483648) : ¬ x = nI n := fun e => by
  have := neg_lt h n hn
  rw [e] at this
  exact absurd this (by rw [lt_n hn hn]; omega)
theorem n_nneg {j : Nat} (hj : j < 2147483648) : ¬ nI j < nI 0 := nI_pos hj
theorem opt_some {β : Type} (o : Nat) (a : Option β) (k : Nat → Option β) : opt (some o) a k = k o := rfl
theorem opt_none {β : Type} (a : Option β) (k : Nat → Option β) : opt none a k = a := rfl
theorem dT {p : Prop} {i : Decidable p} (h : p) : (@decide p i) = true := decide_eq_true h
theorem dF {p : Prop} {i : Decidable p} (h : ¬ p) : ¬ (@decide p i) = true := fun e => h (of_decide_eq_true e)
theorem n_nn {j : Nat} (hj : j < 2147483648) : (0 : Int32) ≤ nI j := nI_le (a := 0) (Nat.zero_le _) hj
theorem m1_lt0 : (-1 : Int32) < nI 0 := by decide
theorem m1_ne {n : Nat} (h : n < 2147483648) : ¬ nI n = -1 := fun e => by
  have h2 : (nI n).toInt = (-1 : Int32).toInt := by rw [e]
  rw [nI_toInt h] at h2
  have : (-1 : Int32).toInt = -1 := rfl
  omega
theorem m1_ne' {n : Nat} (h : n < 2147483648) : ¬ (-1 : Int32) = nI n := fun e => m1_ne h e.symm
