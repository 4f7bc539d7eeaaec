section ExA
variable {p : Program} {l : Launch} {e : Env} {R : Room} {s : State} {m : MethodId} {args : Array Value} {below : List Frame} {meth : Method} {c : Code} {H0 H : Heap} {locs : List Loc} {cells slots : Nat} {Q : State → Prop} {D : va_G} {cy : Nat → ClassId} {ad : Nat → Nat → Nat} {ns : List (Nat × Nat)} {A : Nat → Prop} {M M' : Mem} {own : String} {cc : ByteArray} {nL : Nat} {ret : Option FieldType} {pc : Nat} {ls : Array Slot} {rest : List Value}
theorem wr_15 (hN : NsC ns) (hS : St D cy ad ns A M H0 H locs) : Ob ns 0 (gR M 15 0) := (hS.1.2.2.1 (o_t hN)).1
theorem wr_17 (hN : NsC ns) (hS : St D cy ad ns A M H0 H locs) : Ob ns 0 (gR M 17 0) := (hS.1.2.2.1 (o_t hN)).2.1
theorem wr_19 (hN : NsC ns) (hS : St D cy ad ns A M H0 H locs) : Ob ns 6 (gR M 19 0) := (hS.1.2.2.1 (o_t hN)).2.2.1
theorem wr_10 (hN : NsC ns) (hS : St D cy ad ns A M H0 H locs) (h : ¬ gR M 10 6 = 0) : Ob ns 5 (gR M 10 6) := (hS.1.2.2.1 (o_t hN)).2.2.2.resolve_left h
theorem ne_of_Ob {u : Nat} (h : Ob ns 5 u) : ¬ u = 0 := fun e => by
  subst e
  exact absurd h.1 (by decide)
theorem gR_sR (a b u x y : Nat) : gR (sR M a b u) x y = if x = a ∧ y = b then u else gR M x y := rfl
theorem wr_sR15 {u : Nat} (_hN : NsC ns) (h : WR ns M) (hu : Ob ns 0 u) : WR ns (sR M 15 0 u) := by
  refine ⟨fun h0 => ?_, h.2⟩
  obtain ⟨h1, h2, h3, h4⟩ := h.1 h0
  simp only [gR_sR]
  exact ⟨hu, h2, h3, h4⟩
theorem wr_sR17 {u : Nat} (_hN : NsC ns) (h : WR ns M) (hu : Ob ns 0 u) : WR ns (sR M 17 0 u) := by
  refine ⟨fun h0 => ?_, h.2⟩
  obtain ⟨h1, h2, h3, h4⟩ := h.1 h0
  simp only [gR_sR]
  exact ⟨h1, hu, h3, h4⟩
theorem wr_sR19 {u : Nat} (_hN : NsC ns) (h : WR ns M) (hu : Ob ns 6 u) : WR ns (sR M 19 0 u) := by
  refine ⟨fun h0 => ?_, h.2⟩
  obtain ⟨h1, h2, h3, h4⟩ := h.1 h0
  simp only [gR_sR]
  exact ⟨h1, h2, hu, h4⟩
theorem wr_sR10 {u : Nat} (_hN : NsC ns) (h : WR ns M) (hu : Ob ns 5 u) : WR ns (sR M 10 6 u) := by
  refine ⟨fun h0 => ?_, h.2⟩
  obtain ⟨h1, h2, h3, h4⟩ := h.1 h0
  simp only [gR_sR]
  exact ⟨h1, h2, h3, Or.inr hu⟩
theorem gin_lt {j : Int32} {n : Nat} (h : vp_in j n) : ix j < n := Nat.not_le.mp fun q => h (Or.inr q)
theorem wr_img (hN : NsC ns) (hS : St D cy ad ns A M H0 H locs) {j : Int32} (hj : vp_in j 3) {o : Nat} (h : imgAt M (ix j) = some o) : Ob ns 5 o := by
  unfold imgAt at h
  by_cases hc : gA M 0 1 (ix j) = 0
  · rw [if_pos hc] at h; cases h
  · rw [if_neg hc] at h
    cases h
    exact hS.1.2.2.2 (o_t hN) _ (gin_lt hj) hc
theorem opt_n {β : Type} {a : Option β} {k : Nat → Option β} {r : Option β} (h : opt none a k = r) : a = r := h
theorem opt_s {β : Type} {a : Option β} {k : Nat → Option β} {o : Nat} {r : Option β} (h : opt (some o) a k = r) : k o = r := h
theorem opt_nE {β : Type} {x : Option Nat} {a : Option β} {k : Nat → Option β} {r : Option β} (e : x = none) (h : opt x a k = r) : a = r := by subst e; exact h
theorem opt_sE {β : Type} {x : Option Nat} {a : Option β} {k : Nat → Option β} {o : Nat} {r : Option β} (e : x = some o) (h : opt x a k = r) : k o = r := by subst e; exact h
theorem optn_of {β : Type} {x : Option Nat} {k : Nat → Option β} {r : β} (h : opt x none k = some r) : ∃ o, x = some o ∧ k o = some r := by
  cases x with
  | none => cases h
  | some o => exact ⟨o, rfl, h⟩
theorem ifn_of {β : Type} {c : Prop} {i : Decidable c} {x : Option β} {r : β} (h : @ite (Option β) c i none x = some r) : ¬ c ∧ x = some r := by
  by_cases hc : c
  · rw [if_pos hc] at h; cases h
  · rw [if_neg hc] at h; exact ⟨hc, h⟩
theorem r_tabIn {x v : Int32} (h : x = v) (hexec : p.tables.exec = Jvm.exec) (hb : c.code = cc) {dflt lo hi : Int} {offs : Array Int} {len : Nat} {off : Int} {tgt : Nat} (hdg : decode cc pc = .ok (.tableswitch dflt lo hi offs, len)) (h1 : ¬ v.toInt < lo) (h2 : ¬ hi < v.toInt) (ho : offs[(v.toInt - lo).toNat]? = some off) (ht : (pc : Int) + off = (tgt : Int))
    (k : W p l e R s m args below meth c H locs cells slots Q (F0 m tgt ls rest)) : W p l e R s m args below meth c H locs cells slots Q (F0 m pc ls (.int x :: rest)) := by
  subst h
  exact lv_tableIn hexec hb hdg h1 h2 ho ht k
theorem lv_astore_nR {x : Option Nat} (hexec : p.tables.exec = Jvm.exec) (hb : c.code = cc) {k : Fin 4} {i nL : Nat} {lv lv' : List (Nat × Value)} (hdg : decode cc pc = .ok (.astore_n k, 1)) (hi : (k : Nat) = i) (h : lv_has ls nL lv) (hn : i < nL) (hl : (i, rv ad x) :: lv.filter (fun q => !(q.1 == i) && !(q.1 + 1 == i && q.2.category == 2)) = lv')
    (kk : ∀ ls' : Array Slot, lv_has ls' nL lv' → W p l e R s m args below meth c H locs cells slots Q (F0 m (pc + 1) ls' rest)) : W p l e R s m args below meth c H locs cells slots Q (F0 m pc ls (rv ad x :: rest)) := by
  cases x with
  | none => exact lv_astore_nN hexec hb hdg hi h hn hl kk
  | some o => exact lv_astore_n hexec hb hdg hi h hn hl kk
theorem lv_astoreR {x : Option Nat} (hexec : p.tables.exec = Jvm.exec) (hb : c.code = cc) {i nL : Nat} {lv lv' : List (Nat × Value)} (hdg : decode cc pc = .ok (.astore i, 2)) (h : lv_has ls nL lv) (hn : i < nL) (hl : (i, rv ad x) :: lv.filter (fun q => !(q.1 == i) && !(q.1 + 1 == i && q.2.category == 2)) = lv')
    (kk : ∀ ls' : Array Slot, lv_has ls' nL lv' → W p l e R s m args below meth c H locs cells slots Q (F0 m (pc + 2) ls' rest)) : W p l e R s m args below meth c H locs cells slots Q (F0 m pc ls (rv ad x :: rest)) := by
  cases x with
  | none => exact lv_astoreN hexec hb hdg h hn hl kk
  | some o => exact lv_astore hexec hb hdg h hn hl kk
theorem jm_max : Cond.static Lib.Math.max.name ∈ Tb ∧ Cond.initialized "java/lang/Math" ∈ Tb ∧ Cond.code Lib.Math.max.name Lib.Math.max.code 2 (some .int) ∈ Tb := ⟨t3_169, t1_12, tb3 (i := 170) (by decide +kernel) rfl⟩
theorem jm_min : Cond.static Lib.Math.min.name ∈ Tb ∧ Cond.initialized "java/lang/Math" ∈ Tb ∧ Cond.code Lib.Math.min.name Lib.Math.min.code 2 (some .int) ∈ Tb := ⟨t2_215, t1_12, tb2 (i := 216) (by decide +kernel) rfl⟩
theorem jm_abs : Cond.static Lib.Math.abs.name ∈ Tb ∧ Cond.initialized "java/lang/Math" ∈ Tb ∧ Cond.code Lib.Math.abs.name Lib.Math.abs.code 1 (some .int) ∈ Tb := ⟨t4_168, t1_12, tb4 (i := 169) (by decide +kernel) rfl⟩
/-! Arrays.fill over an array of ints -/
def flA (M : Mem) (o k n : Nat) (v : Int32) : Mem := wA M o k (fun j => if j < n then v else gA M o k j)
theorem wA_wA (o k : Nat) (f g : Nat → Int32) : wA (wA M o k f) o k g = wA M o k g := by
  unfold wA
  refine congrArg (fun z => (M.1, M.2.1, z, M.2.2.2)) ?_
  funext a b
  by_cases h : a = o ∧ b = k
  · simp only [h, and_self, if_true]
  · simp only [h, if_false]
theorem gA_wA (o k : Nat) (f : Nat → Int32) : gA (wA M o k f) o k = f := by
  unfold gA wA
  simp
theorem wA_self (o k : Nat) : wA M o k (gA M o k) = M := by
  unfold gA wA
  obtain ⟨m1, m2, m3, m4⟩ := M
  refine congrArg (fun z => (m1, m2, z, m4)) ?_
  funext a b
  by_cases h : a = o ∧ b = k
  · rw [if_pos h, h.1, h.2]
  · rw [if_neg h]
theorem r_alenI (X : Cx p s m args meth c D cy ad A own cc nL ret) (hS : St D cy ad ns A M s.heap H locs) {ci o k n : Nat} (ho : Ob ns ci o) (hak : ak ci k = 0) (hn : ln ci k = n) {v : Int32} (hv : Int32.ofNat n = v) (hdg : decode cc pc = .ok (.arraylength, 1))
    (kk : W p l e R s m args below meth c H locs cells slots Q (F0 m (pc + 1) ls (.int v :: rest))) : W p l e R s m args below meth c H locs cells slots Q (F0 m pc ls (.ref (ad o (k + 1)) :: rest)) := by
  obtain ⟨hx, hb, hml, hown, hts, hK, hr, hlk, hA, hG⟩ := X
  obtain ⟨⟨hP, hD, hW⟩, hSS⟩ := hS
  obtain ⟨rfl, -, hm⟩ := ho
  subst hn
  obtain ⟨i, hi0, hi⟩ := wo_get (cy := cy) (ad := ad) (M := M) (hm k (by rw [hak]; decide))
  rw [cel_arr hak (Or.inl rfl)] at hi
  exact va_alen hx hb hK hP i 0 hi rfl hv hdg kk
def rm_fill : Room := { frames := 0, cells := 0, slots := 0, locals := 0 }
theorem fill_loop (X : Cx p s m args meth c D cy ad A RJ7 cJ7_fill_53178 4 none) {ci o k n : Nat} (ho : Ob ns ci o) (hak : ak ci k = 0) (hn : ln ci k = n) (hnb : n < 2 ^ 31) {v : Int32} : ∀ (f i : Nat), n - i < f → i ≤ n → ∀ (M' : Mem), M' = wA M o k (fun j => if j < i then v else gA M o k j) → ∀ (ls : Array Slot) (H : Heap) (locs : List Loc), lv_has ls 4 [(0, .ref (ad o (k + 1))), (1, .int v), (2, .int (nI i)), (3, .int (nI n))] → St D cy ad ns A M' s.heap H locs → W p l e rm_fill s m args below meth c H locs 0 0 (MQ below (QC D cy ad ns A (flA M o k n v) none) args s 0 0 A) (F0 m 5 ls []) := by
  obtain ⟨hx, hb, hml, hown, hts, hK, hr, hlk, hA, hG⟩ := id X
  intro f
  induction f with
  | zero => intro i h; omega
  | succ f ih =>
    intro i hf hi M' hM' ls H locs hl hS
    refine lv_iload_n hx hb dJ7_fill_53178_5 rfl (lv_at hl 2 rfl) ?_
    refine lv_iload_n hx hb dJ7_fill_53178_6 rfl (lv_at hl 3 rfl) ?_
    refine lv_icmp_ge (tgt := 20) hx hb dJ7_fill_53178_7 (by decide) (fun c1 => ?_) (fun c1 => ?_)
    · have h : n ≤ i := (nI_leI (by omega) (by omega)).mp c1
      have hin : i = n := by omega
      subst hin
      have e : flA M o k i v = M' := hM'.symm
      rw [e]
      exact x_V X hS dJ7_fill_53178_20
    · have hlt : i < n := by
        rcases Nat.lt_or_ge i n with q | q
        · exact q
        · exact absurd ((nI_leI (by omega) (by omega)).mpr q) c1
      refine lv_aload_n hx hb dJ7_fill_53178_10 rfl (lv_at hl 0 rfl) ?_
      refine lv_iload_n hx hb dJ7_fill_53178_11 rfl (lv_at hl 2 rfl) ?_
      refine lv_iload_n hx hb dJ7_fill_53178_12 rfl (lv_at hl 1 rfl) ?_
      refine r_iast (ci := ci) (o := o) (k := k) (n := n) X hS ho hak hn (vp_in_nI hlt hnb) dJ7_fill_53178_13 (fun H locs hS => ?_)
      refine lv_iinc (v := nI (i + 1)) (lv' := [(2, .int (nI (i + 1))), (0, .ref (ad o (k + 1))), (1, .int v), (3, .int (nI n))]) hx hb dJ7_fill_53178_14 hl (k := 2) rfl (nI_1 i) (by decide) rfl (fun ls hl => ?_)
      refine lv_goto (tgt := 5) hx hb dJ7_fill_53178_17 (by decide) ?_
      refine ih (i + 1) (by omega) hlt _ ?_ ls H locs (lv_sub hl [1, 2, 0, 3] rfl) hS
      have hc : ix (nI i) = i := nI_clamp (by omega)
      rw [hM', hc]
      unfold sA
      rw [wA_wA, gA_wA]
      refine congrArg (wA M o k) ?_
      funext j
      unfold upd
      by_cases h1 : j = i
      · rw [if_pos h1, if_pos (by omega)]
      · rw [if_neg h1]
        show (if j < i then v else gA M o k j) = _
        by_cases h2 : j < i
        · rw [if_pos h2, if_pos (by omega)]
        · rw [if_neg h2, if_neg (by omega)]
theorem m_fill {ci o k n : Nat} (ho : Ob ns ci o) (hak : ak ci k = 0) (hn : ln ci k = n) (hnb : n < 2 ^ 31) {v : Int32} : Ct l yJ7_fill_53178 cJ7_fill_53178 4 none rm_fill D cy ad ns A [.ref (ad o (k + 1)), .int v] M (flA M o k n v) none := by
  refine ct_of (lv := [(0, .ref (ad o (k + 1))), (1, .int v)]) (by decide) (Nat.le_of_ble_eq_true rfl) rfl ?_
  intro p e s m args below meth c ls X hl hS
  obtain ⟨hx, hb, hml, hown, hts, hK, hr, hlk, hA, hG⟩ := id X
  refine lv_iconst (v := 0) hx hb dJ7_fill_53178_0 (by decide) ?_
  refine lv_istore_n (lv' := [(2, .int 0), (0, .ref (ad o (k + 1))), (1, .int v)]) hx hb dJ7_fill_53178_1 rfl hl (by decide) rfl (fun ls hl => ?_)
  refine lv_aload_n hx hb dJ7_fill_53178_2 rfl (lv_at hl 1 rfl) ?_
  refine r_alenI (ci := ci) (o := o) (k := k) (n := n) (v := nI n) X hS ho hak hn rfl dJ7_fill_53178_3 ?_
  refine lv_istore_n (lv' := [(3, .int (nI n)), (2, .int 0), (0, .ref (ad o (k + 1))), (1, .int v)]) hx hb dJ7_fill_53178_4 rfl hl (by decide) rfl (fun ls hl => ?_)
  refine fill_loop X ho hak hn hnb (n + 1) 0 (by omega) (by omega) M ?_ ls _ _ (lv_sub hl [2, 3, 1, 0] rfl) hS
  simp only [Nat.not_lt_zero, if_false]
  exact (wA_self o k).symm
/-! Integer.bitCount -/
def bc1 (x : Int32) : Int32 := x - (ushr x 1 &&& 1431655765)
def bc2 (x : Int32) : Int32 := (x &&& 858993459) + (ushr x 2 &&& 858993459)
def bc3 (x : Int32) : Int32 := (x + ushr x 4) &&& 252645135
def bc4 (x : Int32) : Int32 := x + ushr x 8
def bc5 (x : Int32) : Int32 := x + ushr x 16
def bcI (x : Int32) : Int32 := bc5 (bc4 (bc3 (bc2 (bc1 x)))) &&& 63
def rm_bitCount : Room := { frames := 0, cells := 0, slots := 0, locals := 0 }
theorem m_bitCount {x : Int32} : Ct l yJ6_bitCount_0f7a4 cJ6_bitCount_0f7a4 1 (some .int) rm_bitCount D cy ad ns A [.int x] M M (some (.int (bcI x))) := by
  refine ct_of (lv := [(0, .int x)]) (by decide) (Nat.le_of_ble_eq_true rfl) rfl ?_
  intro p e s m args below meth c ls X hl hS
  obtain ⟨hx, hb, hml, hown, hts, hK, hr, hlk, hA, hG⟩ := id X
  refine lv_iload_n hx hb dJ6_bitCount_0f7a4_0 rfl (lv_at hl 0 rfl) ?_
  refine lv_iload_n hx hb dJ6_bitCount_0f7a4_1 rfl (lv_at hl 0 rfl) ?_
  refine lv_iconst (v := 1) hx hb dJ6_bitCount_0f7a4_2 (by decide) ?_
  refine lv_iushr (v := ushr x 1) hx hb dJ6_bitCount_0f7a4_3 rfl ?_
  refine lv_ldcw hx hb (own := RJ6) hown (hts _ t4_48) dJ6_bitCount_0f7a4_4 ?_
  refine lv_iand hx hb dJ6_bitCount_0f7a4_7 ?_
  refine lv_isub hx hb dJ6_bitCount_0f7a4_8 ?_
  refine lv_istore_n (lv' := [(0, .int (bc1 x))]) hx hb dJ6_bitCount_0f7a4_9 rfl hl (by decide) rfl (fun ls hl => ?_)
  refine lv_iload_n hx hb dJ6_bitCount_0f7a4_10 rfl (lv_at hl 0 rfl) ?_
  refine lv_ldcw hx hb (own := RJ6) hown (hts _ t4_49) dJ6_bitCount_0f7a4_11 ?_
  refine lv_iand hx hb dJ6_bitCount_0f7a4_14 ?_
  refine lv_iload_n hx hb dJ6_bitCount_0f7a4_15 rfl (lv_at hl 0 rfl) ?_
  refine lv_iconst (v := 2) hx hb dJ6_bitCount_0f7a4_16 (by decide) ?_
  refine lv_iushr (v := ushr (bc1 x) 2) hx hb dJ6_bitCount_0f7a4_17 rfl ?_
  refine lv_ldcw hx hb (own := RJ6) hown (hts _ t4_49) dJ6_bitCount_0f7a4_18 ?_
  refine lv_iand hx hb dJ6_bitCount_0f7a4_21 ?_
  refine lv_iadd hx hb dJ6_bitCount_0f7a4_22 ?_
  refine lv_istore_n (lv' := [(0, .int (bc2 (bc1 x)))]) hx hb dJ6_bitCount_0f7a4_23 rfl hl (by decide) rfl (fun ls hl => ?_)
  refine lv_iload_n hx hb dJ6_bitCount_0f7a4_24 rfl (lv_at hl 0 rfl) ?_
  refine lv_iload_n hx hb dJ6_bitCount_0f7a4_25 rfl (lv_at hl 0 rfl) ?_
  refine lv_iconst (v := 4) hx hb dJ6_bitCount_0f7a4_26 (by decide) ?_
  refine lv_iushr (v := ushr (bc2 (bc1 x)) 4) hx hb dJ6_bitCount_0f7a4_27 rfl ?_
  refine lv_iadd hx hb dJ6_bitCount_0f7a4_28 ?_
  refine lv_ldcw hx hb (own := RJ6) hown (hts _ t4_50) dJ6_bitCount_0f7a4_29 ?_
  refine lv_iand hx hb dJ6_bitCount_0f7a4_32 ?_
  refine lv_istore_n (lv' := [(0, .int (bc3 (bc2 (bc1 x))))]) hx hb dJ6_bitCount_0f7a4_33 rfl hl (by decide) rfl (fun ls hl => ?_)
  refine lv_iload_n hx hb dJ6_bitCount_0f7a4_34 rfl (lv_at hl 0 rfl) ?_
  refine lv_iload_n hx hb dJ6_bitCount_0f7a4_35 rfl (lv_at hl 0 rfl) ?_
  refine lv_bipush (v := 8) hx hb dJ6_bitCount_0f7a4_36 (by decide) ?_
  refine lv_iushr (v := ushr (bc3 (bc2 (bc1 x))) 8) hx hb dJ6_bitCount_0f7a4_38 rfl ?_
  refine lv_iadd hx hb dJ6_bitCount_0f7a4_39 ?_
  refine lv_istore_n (lv' := [(0, .int (bc4 (bc3 (bc2 (bc1 x)))))]) hx hb dJ6_bitCount_0f7a4_40 rfl hl (by decide) rfl (fun ls hl => ?_)
  refine lv_iload_n hx hb dJ6_bitCount_0f7a4_41 rfl (lv_at hl 0 rfl) ?_
  refine lv_iload_n hx hb dJ6_bitCount_0f7a4_42 rfl (lv_at hl 0 rfl) ?_
  refine lv_bipush (v := 16) hx hb dJ6_bitCount_0f7a4_43 (by decide) ?_
  refine lv_iushr (v := ushr (bc4 (bc3 (bc2 (bc1 x)))) 16) hx hb dJ6_bitCount_0f7a4_45 rfl ?_
  refine lv_iadd hx hb dJ6_bitCount_0f7a4_46 ?_
  refine lv_istore_n (lv' := [(0, .int (bc5 (bc4 (bc3 (bc2 (bc1 x))))))]) hx hb dJ6_bitCount_0f7a4_47 rfl hl (by decide) rfl (fun ls hl => ?_)
  refine lv_iload_n hx hb dJ6_bitCount_0f7a4_48 rfl (lv_at hl 0 rfl) ?_
  refine lv_bipush (v := 63) hx hb dJ6_bitCount_0f7a4_49 (by decide) ?_
  refine lv_iand hx hb dJ6_bitCount_0f7a4_51 ?_
  exact x_I (v := bcI x) X hS dJ6_bitCount_0f7a4_52
end ExA
theorem ms_fill : Ms yJ7_fill_53178 cJ7_fill_53178 4 ((none : Option Jvm.ClassFile.FieldType)) 2 := ⟨t2_223, t2_222, t1_13, ⟨by decide, by decide⟩, by decide +kernel⟩
theorem ms_bitCount : Ms yJ6_bitCount_0f7a4 cJ6_bitCount_0f7a4 1 ((some .int)) 1 := ⟨t4_47, t4_46, t1_19, ⟨by decide, by decide⟩, by decide +kernel⟩
