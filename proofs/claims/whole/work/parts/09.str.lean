/-! the two methods of the words' texts: length() and charAt(k), text i of 18 -/
def strCh (i j : Nat) : Int32 := ((((strBt.getD i []).getD j 0) &&& 255).toUInt32 % 65536).toInt32
theorem strCh_nar : ∀ i, i < 18 → ∀ j, j < strLn.getD i 0 → narrow .char (.int (strCh i j)) = .int (strCh i j) := by decide +kernel
theorem strLn_small : ∀ i, i < 18 → strLn.getD i 0 < 2 ^ 31 := by decide +kernel
theorem strLn_shr : ∀ i, i < 18 → nI (strLn.getD i 0) >>> ((0 : Int32) &&& 31) = nI (strLn.getD i 0) := by decide +kernel
section StrA
variable {p : Program} {l : Launch} {e : Env} {R : Room} {s : State} {m : MethodId} {args : Array Value} {below : List Frame} {meth : Method} {c : Code} {H : Heap} {locs : List Loc} {cells slots : Nat} {Q : State → Prop} {D : va_G} {cy : Nat → ClassId} {ad : Nat → Nat → Nat} {ns : List (Nat × Nat)} {A : Nat → Prop} {M M' : Mem} {own : String} {cc : ByteArray} {nL : Nat} {ret : Option FieldType} {pc : Nat} {ls : Array Slot} {rest : List Value}
theorem x_N {ty : FieldType} (X : Cx p s m args meth c D cy ad A own cc nL (some ty)) (hS : St D cy ad ns A M' s.heap H locs) {v : Int32} (hn : narrow ty (.int v) = .int v) (hdg : decode cc pc = .ok (.ireturn, 1)) : W p l e R s m args below meth c H locs 0 0 (MQ below (QC D cy ad ns A M' (some (.int v))) args s 0 0 A) (F0 m pc ls [.int v]) := by
  obtain ⟨hx, hb, hml, hown, hts, hK, hr, hlk, hA, hG⟩ := X
  exact W.zret hx hb hr hn (fun t ht hW => ⟨rfl, by rw [ht]; exact hS.1, va_K.moved hW.alike hK, hS.2.F ht⟩) hS.2.2.2 hdg hlk
/-- a call on a text -/
theorem r_callT {y : MethodName} {b : ByteArray} {nL' n i index : Nat} {ret' : Option FieldType} {rm : Room} {As rest st : List Value} {v : Value} (X : Cx p s m args meth c D cy ad A own cc nL ret) (hS : St D cy ad ns A M s.heap H locs) (hi : i < 18) (hM : Ct l y b nL' ret' rm D cy ad ns A (.ref (ad 200 i) :: As) M M' (some v)) (hy : Mv y "java/lang/String" b nL' ret' n) (hlink : Cond.methodLink own index y ∈ Tb) (hrm : rm.cells = 0 ∧ rm.slots = 0 ∧ rm.frames + 1 ≤ R.frames ∧ 8 + (nL' + 11) + rm.locals ≤ R.locals) (hn : As.length = n) (hls : ls.size = nL) (hst : st = As.reverse ++ .ref (ad 200 i) :: rest) (hcat : (rest.map fun v => v.category).sum ≤ 8) (hcs : cells ≤ R.cells ∧ slots ≤ R.slots) (hdg : decode cc pc = .ok (.invokevirtual index, 3))
    (kk : ∀ (H1 : Heap) (locs1 : List Loc), St D cy ad ns A M' s.heap H1 locs1 → W p l e R s m args below meth c H1 locs1 cells slots Q (F0 m (pc + 3) ls (v :: rest))) : W p l e R s m args below meth c H locs cells slots Q (F0 m pc ls st) := by
  obtain ⟨hx, hb, hml, hown, hts, hK, hr, hlk, hA, hG⟩ := id X
  obtain ⟨hW, hSS⟩ := id hS
  obtain ⟨g1, g2, g3, g4, g5, g6⟩ := hy
  have hrec := vk_recv (i := i) hG.2.2.2.1 hi hSS
  exact run_back (o1 := some v) X hS (va_runV (As := As) (rest := rest) (Ts := Tb) ⟨hx, hb, hml, hown, hts⟩ hM ⟨callB_of n hts (goodIn_Tb g1) rfl hrm.1 hrm.2.1 (hts _ g4) (hts _ hlink) ⟨g5.1, g5.2, g6⟩ hrm.2.2, hts _ g2, hts _ g3⟩ ⟨pc_blind, hrec, fun U hU hWm => ⟨rfl, by rw [hU]; exact hW, va_K.moved hWm.alike hK, fun q hq => hA q (Nat.le_trans hSS.1 (by rw [← hU]; exact hq)), by rw [hU]; exact Gx_warm hWm hSS.2.1 hG⟩⟩ rfl hn hls hst (lv_room hcat) hdg hcs) kk
def rm_j0 : Room := { frames := 0, cells := 0, slots := 0, locals := 0 }
def rm_j1 : Room := { frames := 1, cells := 0, slots := 0, locals := 30 }
def rm_j2 : Room := { frames := 2, cells := 0, slots := 0, locals := 60 }
def rm_j3 : Room := { frames := 3, cells := 0, slots := 0, locals := 90 }
theorem m_J0_coder {i : Nat} (hi : i < 18) : Ct l yJ0_coder_7d493 cJ0_coder_7d493 1 (some .byte) rm_j0 D cy ad ns A [.ref (ad 200 i)] M M (some (.int 0)) := by
  refine ct_of (lv := [(0, .ref (ad 200 i))]) (by decide) (Nat.le_of_ble_eq_true rfl) rfl ?_
  intro p e s m args below meth c ls X hl hS
  obtain ⟨hx, hb, hml, hown, hts, hK, hr, hlk, hA, hG⟩ := id X
  refine va_gets hx hb hG.2.2.2.2.1 hS.2 hown (hts _ t3_23) (fun _ h => h) dJ0_coder_7d493_0 ?_
  refine lv_if_eq (tgt := 13) hx hb dJ0_coder_7d493_3 (by decide) (fun c1 => absurd c1 (by decide)) (fun c1 => ?_)
  refine lv_aload_n hx hb dJ0_coder_7d493_6 rfl (lv_at hl 0 rfl) ?_
  refine vk_getf hx hb (hG.2.2.2.1.1 i hi).2.1 hS.2 hown (hts _ t8_124) (fun _ h => h) dJ0_coder_7d493_7 ?_
  refine lv_goto (tgt := 14) hx hb dJ0_coder_7d493_10 (by decide) ?_
  exact x_N (v := 0) X hS (by decide +kernel) dJ0_coder_7d493_14
theorem m_J0_isLatin1 {i : Nat} (hi : i < 18) : Ct l yJ0_isLatin1_aae02 cJ0_isLatin1_aae02 1 (some .boolean) rm_j0 D cy ad ns A [.ref (ad 200 i)] M M (some (.int 1)) := by
  refine ct_of (lv := [(0, .ref (ad 200 i))]) (by decide) (Nat.le_of_ble_eq_true rfl) rfl ?_
  intro p e s m args below meth c ls X hl hS
  obtain ⟨hx, hb, hml, hown, hts, hK, hr, hlk, hA, hG⟩ := id X
  refine va_gets hx hb hG.2.2.2.2.1 hS.2 hown (hts _ t3_23) (fun _ h => h) dJ0_isLatin1_aae02_0 ?_
  refine lv_if_eq (tgt := 17) hx hb dJ0_isLatin1_aae02_3 (by decide) (fun c1 => absurd c1 (by decide)) (fun c1 => ?_)
  refine lv_aload_n hx hb dJ0_isLatin1_aae02_6 rfl (lv_at hl 0 rfl) ?_
  refine vk_getf hx hb (hG.2.2.2.1.1 i hi).2.1 hS.2 hown (hts _ t8_124) (fun _ h => h) dJ0_isLatin1_aae02_7 ?_
  refine lv_if_ne (tgt := 17) hx hb dJ0_isLatin1_aae02_10 (by decide) (fun c2 => absurd rfl c2) (fun c2 => ?_)
  refine lv_iconst (v := 1) hx hb dJ0_isLatin1_aae02_13 (by decide) ?_
  refine lv_goto (tgt := 18) hx hb dJ0_isLatin1_aae02_14 (by decide) ?_
  exact x_N (v := 1) X hS (by decide +kernel) dJ0_isLatin1_aae02_18
theorem mv_J0_coder : Mv yJ0_coder_7d493 "java/lang/String" cJ0_coder_7d493 1 ((some .byte)) 0 := ⟨t3_22, t3_20, t3_21, t1_14, ⟨by decide, by decide⟩, by decide +kernel⟩
theorem mv_J0_isLatin1 : Mv yJ0_isLatin1_aae02 "java/lang/String" cJ0_isLatin1_aae02 1 ((some .boolean)) 0 := ⟨t3_32, t3_30, t3_31, t1_14, ⟨by decide, by decide⟩, by decide +kernel⟩
theorem mv_J0_length : Mv yJ0_length_8abf5 "java/lang/String" cJ0_length_8abf5 1 ((some .int)) 0 := ⟨t3_18, t3_16, t3_17, t1_14, ⟨by decide, by decide⟩, by decide +kernel⟩
theorem mv_J0_charAt : Mv yJ0_charAt_5068e "java/lang/String" cJ0_charAt_5068e 2 ((some .char)) 1 := ⟨t3_28, t3_26, t3_27, t1_14, ⟨by decide, by decide⟩, by decide +kernel⟩
theorem ms_J0_checkIndex : Ms yJ0_checkIndex_df160 cJ0_checkIndex_df160 2 ((none : Option Jvm.ClassFile.FieldType)) 2 := ⟨t3_38, t3_37, t1_14, ⟨by decide, by decide⟩, by decide +kernel⟩
theorem ms_J1_charAt : Ms yJ1_charAt_3b067 cJ1_charAt_3b067 2 ((some .char)) 2 := ⟨t3_35, t3_34, t1_15, ⟨by decide, by decide⟩, by decide +kernel⟩
theorem ms_J3_checkIndex : Ms yJ3_checkIndex_8e157 cJ3_checkIndex_8e157 3 ((some .int)) 3 := ⟨t3_43, t3_42, t1_16, ⟨by decide, by decide⟩, by decide +kernel⟩
theorem m_J0_length {i : Nat} (hi : i < 18) : Ct l yJ0_length_8abf5 cJ0_length_8abf5 1 (some .int) rm_j1 D cy ad ns A [.ref (ad 200 i)] M M (some (.int (nI (strLn.getD i 0)))) := by
  refine ct_of (lv := [(0, .ref (ad 200 i))]) (by decide) (Nat.le_of_ble_eq_true rfl) rfl ?_
  intro p e s m args below meth c ls X hl hS
  obtain ⟨hx, hb, hml, hown, hts, hK, hr, hlk, hA, hG⟩ := id X
  refine lv_aload_n hx hb dJ0_length_8abf5_0 rfl (lv_at hl 0 rfl) ?_
  refine vk_getf hx hb (hG.2.2.2.1.1 i hi).2.2.1 hS.2 hown (hts _ t8_123) (fun _ h => h) dJ0_length_8abf5_1 ?_
  refine va_tlen hx hb (hG.2.2.2.1.1 i hi).2.2.2 hS.2 rfl dJ0_length_8abf5_4 ?_
  refine lv_aload_n hx hb dJ0_length_8abf5_5 rfl (lv_at hl 0 rfl) ?_
  refine r_callT (v := .int 0) (As := []) (rest := [.int (nI (strLn.getD i 0))]) X hS hi (m_J0_coder hi) mv_J0_coder t3_19 ⟨rfl, rfl, Nat.le_of_ble_eq_true rfl, Nat.le_of_ble_eq_true rfl⟩ rfl hl.1 rfl (Nat.le_of_ble_eq_true rfl) ⟨Nat.zero_le _, Nat.zero_le _⟩ dJ0_length_8abf5_6 (fun H locs hS => ?_)
  refine lv_ishr hx hb dJ0_length_8abf5_9 ?_
  rw [strLn_shr i hi]
  exact x_I X hS dJ0_length_8abf5_10
theorem m_J3_checkIndex {i j : Int32} {v : Value} (h0 : ¬ i < 0) (h1 : i < j) : Ct l yJ3_checkIndex_8e157 cJ3_checkIndex_8e157 3 (some .int) rm_j0 D cy ad ns A [.int i, .int j, .null] M M (some (.int i)) := by
  refine ct_of (lv := [(0, .int i), (1, .int j), (2, .null)]) (by decide) (Nat.le_of_ble_eq_true rfl) rfl ?_
  intro p e s m args below meth c ls X hl hS
  obtain ⟨hx, hb, hml, hown, hts, hK, hr, hlk, hA, hG⟩ := id X
  refine lv_iload_n hx hb dJ3_checkIndex_8e157_0 rfl (lv_at hl 0 rfl) ?_
  refine lv_if_lt (tgt := 9) hx hb dJ3_checkIndex_8e157_1 (by decide) (fun c1 => absurd c1 h0) (fun c1 => ?_)
  refine lv_iload_n hx hb dJ3_checkIndex_8e157_4 rfl (lv_at hl 0 rfl) ?_
  refine lv_iload_n hx hb dJ3_checkIndex_8e157_5 rfl (lv_at hl 1 rfl) ?_
  refine lv_icmp_lt (tgt := 16) hx hb dJ3_checkIndex_8e157_6 (by decide) (fun c2 => ?_) (fun c2 => absurd h1 c2)
  refine lv_iload_n hx hb dJ3_checkIndex_8e157_16 rfl (lv_at hl 0 rfl) ?_
  exact x_I X hS dJ3_checkIndex_8e157_17
theorem m_J3_checkIndexR {i j : Int32} {t : Nat} (h0 : ¬ i < 0) (h1 : i < j) : Ct l yJ3_checkIndex_8e157 cJ3_checkIndex_8e157 3 (some .int) rm_j0 D cy ad ns A [.int i, .int j, .ref t] M M (some (.int i)) := by
  refine ct_of (lv := [(0, .int i), (1, .int j), (2, .ref t)]) (by decide) (Nat.le_of_ble_eq_true rfl) rfl ?_
  intro p e s m args below meth c ls X hl hS
  obtain ⟨hx, hb, hml, hown, hts, hK, hr, hlk, hA, hG⟩ := id X
  refine lv_iload_n hx hb dJ3_checkIndex_8e157_0 rfl (lv_at hl 0 rfl) ?_
  refine lv_if_lt (tgt := 9) hx hb dJ3_checkIndex_8e157_1 (by decide) (fun c1 => absurd c1 h0) (fun c1 => ?_)
  refine lv_iload_n hx hb dJ3_checkIndex_8e157_4 rfl (lv_at hl 0 rfl) ?_
  refine lv_iload_n hx hb dJ3_checkIndex_8e157_5 rfl (lv_at hl 1 rfl) ?_
  refine lv_icmp_lt (tgt := 16) hx hb dJ3_checkIndex_8e157_6 (by decide) (fun c2 => ?_) (fun c2 => absurd h1 c2)
  refine lv_iload_n hx hb dJ3_checkIndex_8e157_16 rfl (lv_at hl 0 rfl) ?_
  exact x_I X hS dJ3_checkIndex_8e157_17
theorem m_J0_checkIndex {i j : Int32} (h0 : ¬ i < 0) (h1 : i < j) : Ct l yJ0_checkIndex_df160 cJ0_checkIndex_df160 2 none rm_j1 D cy ad ns A [.int i, .int j] M M none := by
  refine ct_of (lv := [(0, .int i), (1, .int j)]) (by decide) (Nat.le_of_ble_eq_true rfl) rfl ?_
  intro p e s m args below meth c ls X hl hS
  obtain ⟨hx, hb, hml, hown, hts, hK, hr, hlk, hA, hG⟩ := id X
  refine lv_iload_n hx hb dJ0_checkIndex_df160_0 rfl (lv_at hl 0 rfl) ?_
  refine lv_iload_n hx hb dJ0_checkIndex_df160_1 rfl (lv_at hl 1 rfl) ?_
  rcases hG.2.2.2.2.2 with hz | ⟨t, hz⟩
  · refine va_gets hx hb hz hS.2 hown (hts _ t3_39) (fun _ h => h) dJ0_checkIndex_df160_2 ?_
    refine r_callS1 (v := .int i) (As := [.int i, .int j, .null]) (rest := []) X hS (m_J3_checkIndex (v := .null) h0 h1) ms_J3_checkIndex t3_41 ⟨rfl, rfl, Nat.le_of_ble_eq_true rfl, Nat.le_of_ble_eq_true rfl⟩ rfl hl.1 rfl (Nat.le_of_ble_eq_true rfl) ⟨Nat.zero_le _, Nat.zero_le _⟩ dJ0_checkIndex_df160_5 (fun H locs hS => ?_)
    refine lv_pop hx hb dJ0_checkIndex_df160_8 rfl ?_
    exact x_V X hS dJ0_checkIndex_df160_9
  · refine va_gets hx hb hz hS.2 hown (hts _ t3_39) (fun _ h => h) dJ0_checkIndex_df160_2 ?_
    refine r_callS1 (v := .int i) (As := [.int i, .int j, .ref t]) (rest := []) X hS (m_J3_checkIndexR h0 h1) ms_J3_checkIndex t3_41 ⟨rfl, rfl, Nat.le_of_ble_eq_true rfl, Nat.le_of_ble_eq_true rfl⟩ rfl hl.1 rfl (Nat.le_of_ble_eq_true rfl) ⟨Nat.zero_le _, Nat.zero_le _⟩ dJ0_checkIndex_df160_5 (fun H locs hS => ?_)
    refine lv_pop hx hb dJ0_checkIndex_df160_8 rfl ?_
    exact x_V X hS dJ0_checkIndex_df160_9
theorem m_J1_charAt {i : Nat} (hi : i < 18) {j : Int32} (hj : vp_in j (strLn.getD i 0)) : Ct l yJ1_charAt_3b067 cJ1_charAt_3b067 2 (some .char) rm_j2 D cy ad ns A [.ref (ad 201 i), .int j] M M (some (.int (strCh i (ix j)))) := by
  refine ct_of (lv := [(0, .ref (ad 201 i)), (1, .int j)]) (by decide) (Nat.le_of_ble_eq_true rfl) rfl ?_
  intro p e s m args below meth c ls X hl hS
  obtain ⟨hx, hb, hml, hown, hts, hK, hr, hlk, hA, hG⟩ := id X
  have hT := (hG.2.2.2.1.1 i hi).2.2.2
  obtain ⟨n, hn1, hn2⟩ := vp_in_of hj (strLn_small i hi)
  refine lv_iload_n hx hb dJ1_charAt_3b067_0 rfl (lv_at hl 1 rfl) ?_
  refine lv_aload_n hx hb dJ1_charAt_3b067_1 rfl (lv_at hl 0 rfl) ?_
  refine va_tlen (v := nI (strLn.getD i 0)) hx hb hT hS.2 rfl dJ1_charAt_3b067_2 ?_
  have hs := strLn_small i hi
  refine r_callS0 (As := [.int j, .int (nI (strLn.getD i 0))]) (rest := []) X hS (m_J0_checkIndex (fun h => hj (Or.inl h)) (by rw [hn2]; exact nI_lt hn1 hs)) ms_J0_checkIndex t3_36 ⟨rfl, rfl, Nat.le_of_ble_eq_true rfl, Nat.le_of_ble_eq_true rfl⟩ rfl hl.1 rfl (Nat.le_of_ble_eq_true rfl) ⟨Nat.zero_le _, Nat.zero_le _⟩ dJ1_charAt_3b067_3 (fun H locs hS => ?_)
  refine lv_aload_n hx hb dJ1_charAt_3b067_6 rfl (lv_at hl 0 rfl) ?_
  refine lv_iload_n hx hb dJ1_charAt_3b067_7 rfl (lv_at hl 1 rfl) ?_
  refine va_tb hx hb hT hS.2 hj rfl dJ1_charAt_3b067_8 ?_
  refine lv_sipush (v := 255) hx hb dJ1_charAt_3b067_9 (by decide) ?_
  refine lv_iand hx hb dJ1_charAt_3b067_12 ?_
  refine lv_i2c (v := strCh i (ix j)) hx hb dJ1_charAt_3b067_13 rfl ?_
  exact x_N X hS (strCh_nar i hi _ (gin_lt hj)) dJ1_charAt_3b067_14
theorem m_J0_charAt {i : Nat} (hi : i < 18) {j : Int32} (hj : vp_in j (strLn.getD i 0)) : Ct l yJ0_charAt_5068e cJ0_charAt_5068e 2 (some .char) rm_j3 D cy ad ns A [.ref (ad 200 i), .int j] M M (some (.int (strCh i (ix j)))) := by
  refine ct_of (lv := [(0, .ref (ad 200 i)), (1, .int j)]) (by decide) (Nat.le_of_ble_eq_true rfl) rfl ?_
  intro p e s m args below meth c ls X hl hS
  obtain ⟨hx, hb, hml, hown, hts, hK, hr, hlk, hA, hG⟩ := id X
  refine lv_aload_n hx hb dJ0_charAt_5068e_0 rfl (lv_at hl 0 rfl) ?_
  refine r_callT (v := .int 1) (As := []) (rest := []) X hS hi (m_J0_isLatin1 hi) mv_J0_isLatin1 t3_29 ⟨rfl, rfl, Nat.le_of_ble_eq_true rfl, Nat.le_of_ble_eq_true rfl⟩ rfl hl.1 rfl (Nat.le_of_ble_eq_true rfl) ⟨Nat.zero_le _, Nat.zero_le _⟩ dJ0_charAt_5068e_1 (fun H locs hS => ?_)
  refine lv_if_eq (tgt := 16) hx hb dJ0_charAt_5068e_4 (by decide) (fun c1 => absurd c1 (by decide)) (fun c1 => ?_)
  refine lv_aload_n hx hb dJ0_charAt_5068e_7 rfl (lv_at hl 0 rfl) ?_
  refine vk_getf hx hb (hG.2.2.2.1.1 i hi).2.2.1 hS.2 hown (hts _ t8_123) (fun _ h => h) dJ0_charAt_5068e_8 ?_
  refine lv_iload_n hx hb dJ0_charAt_5068e_11 rfl (lv_at hl 1 rfl) ?_
  refine r_callS1 (v := .int (strCh i (ix j))) (As := [.ref (ad 201 i), .int j]) (rest := []) X hS (m_J1_charAt hi hj) ms_J1_charAt t3_33 ⟨rfl, rfl, Nat.le_of_ble_eq_true rfl, Nat.le_of_ble_eq_true rfl⟩ rfl hl.1 rfl (Nat.le_of_ble_eq_true rfl) ⟨Nat.zero_le _, Nat.zero_le _⟩ dJ0_charAt_5068e_12 (fun H locs hS => ?_)
  exact x_N X hS (strCh_nar i hi _ (gin_lt hj)) dJ0_charAt_5068e_15
theorem r_callV_length {i index : Nat} (X : Cx p s m args meth c D cy ad A own cc nL ret) (hS : St D cy ad ns A M s.heap H locs) (hi : i < 18) (rest : List Value) (hlink : Cond.methodLink own index yJ0_length_8abf5 ∈ Tb) (hls : ls.size = nL) (hcat : (rest.map fun v => v.category).sum ≤ 8) (hf : rm_j1.frames + 1 ≤ R.frames) (hlo : 8 + (1 + 11) + rm_j1.locals ≤ R.locals) (hdg : decode cc pc = .ok (.invokevirtual index, 3))
    (kk : ∀ (H1 : Heap) (locs1 : List Loc), St D cy ad ns A M s.heap H1 locs1 → W p l e R s m args below meth c H1 locs1 0 0 Q (F0 m (pc + 3) ls (.int (nI (strLn.getD i 0)) :: rest))) : W p l e R s m args below meth c H locs 0 0 Q (F0 m pc ls (.ref (ad 200 i) :: rest)) :=
  r_callT (v := .int (nI (strLn.getD i 0))) (As := []) (rest := rest) X hS hi (m_J0_length hi) mv_J0_length hlink ⟨rfl, rfl, hf, hlo⟩ rfl hls rfl hcat ⟨Nat.zero_le _, Nat.zero_le _⟩ hdg kk
theorem r_callV_charAt {i index : Nat} (X : Cx p s m args meth c D cy ad A own cc nL ret) (hS : St D cy ad ns A M s.heap H locs) (hi : i < 18) {j : Int32} (hj : vp_in j (strLn.getD i 0)) (rest : List Value) (hlink : Cond.methodLink own index yJ0_charAt_5068e ∈ Tb) (hls : ls.size = nL) (hcat : (rest.map fun v => v.category).sum ≤ 8) (hf : rm_j3.frames + 1 ≤ R.frames) (hlo : 8 + (2 + 11) + rm_j3.locals ≤ R.locals) (hdg : decode cc pc = .ok (.invokevirtual index, 3))
    (kk : ∀ (H1 : Heap) (locs1 : List Loc), St D cy ad ns A M s.heap H1 locs1 → W p l e R s m args below meth c H1 locs1 0 0 Q (F0 m (pc + 3) ls (.int (strCh i (ix j)) :: rest))) : W p l e R s m args below meth c H locs 0 0 Q (F0 m pc ls (.int j :: .ref (ad 200 i) :: rest)) :=
  r_callT (v := .int (strCh i (ix j))) (As := [.int j]) (rest := rest) X hS hi (m_J0_charAt hi hj) mv_J0_charAt hlink ⟨rfl, rfl, hf, hlo⟩ rfl hls rfl hcat ⟨Nat.zero_le _, Nat.zero_le _⟩ hdg kk
end StrA
