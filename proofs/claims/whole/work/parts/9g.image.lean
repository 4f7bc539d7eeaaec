/-! image: the class's method, with the Told that it may make -/
theorem gA_img1 (M : Mem) (j : Nat) : gA (sA M 0 1 j 1) 0 1 j = 1 := by rw [gA_sA, if_pos ⟨rfl, rfl, rfl⟩]
theorem gA_img0 (M : Mem) {i j : Nat} (h : ¬ i = j) : gA (sA M 0 1 j 1) 0 1 i = gA M 0 1 i := by rw [gA_sA, if_neg (fun y => h y.2.2)]
theorem rt_imgst {p : Program} {l : Launch} {e : Env} {R : Room} {s : State} {m : MethodId} {args : Array Value} {below : List Frame} {meth : Method} {c : Code} {H : Heap} {locs : List Loc} {cells slots : Nat} {Q : State → Prop} {D : va_G} {cy : Nat → ClassId} {ad : Nat → Nat → Nat} {ns : List (Nat × Nat)} {A : Nat → Prop} {M : Mem} {own : String} {cc : ByteArray} {nL : Nat} {ret : Option FieldType} {pc : Nat} {ls : Array Slot} {rest : List Value} (X : Cx p s m args meth c D cy ad A own cc nL ret) (hP : va_P D vwCl (wo cy ad M ns) H) (hD : va_D A (wo cy ad M ns)) (hSS : va_S A s.heap H locs) (ho : Ob ns 9 0) {j : Nat} (hj : j < 3) (ht : Ob ns 5 (21 + 9 * j)) (hdg : decode cc pc = .ok (.aastore, 1))
    (kk : ∀ (H1 : Heap) (locs1 : List Loc), va_P D vwCl (wo cy ad (sA M 0 1 j 1) ns) H1 → va_D A (wo cy ad (sA M 0 1 j 1) ns) → va_S A s.heap H1 locs1 → W p l e R s m args below meth c H1 locs1 cells slots Q (F0 m (pc + 1) ls rest)) : W p l e R s m args below meth c H locs cells slots Q (F0 m pc ls (.ref (ad (21 + 9 * j) 0) :: .int (nI j) :: .ref (ad 0 (1 + 1)) :: rest)) := by
  obtain ⟨hx, hb, hml, hown, hts, hK, hr, hlk, hA, hG⟩ := X
  obtain ⟨i, hi0, hi⟩ := wo_get (cy := cy) (ad := ad) (M := M) (ho.2.2 1 (by decide))
  obtain ⟨i2, hi20, hi2⟩ := wo_get (cy := cy) (ad := ad) (M := M) ht.2.1
  have hce : cel cy ad M (0, 1 + 1) = (ad 0 (1 + 1), .inl (cy 8, 3, .inr (.inr (.inr (.inr (fun j => if gA M 0 1 j = 0 then none else some (ad (21 + 9 * j) 0))))))) := rfl
  rw [hce] at hi
  have hv : (wo cy ad M ns)[i2]? = some (ad (21 + 9 * j) 0, .inr (5, (List.range (nf 5)).map (fv ad M (21 + 9 * j)))) := by
    rw [hi2]
    show some (ad (21 + 9 * j) 0, Sum.inr (oc (21 + 9 * j), (List.range (nf (oc (21 + 9 * j)))).map (fv ad M (21 + 9 * j)))) = _
    rw [ht.1]
  refine va_astq (r := (RX5, TX5, 9)) hx hb hK hP hD hSS i 8 i2 5 hi rfl hv rfl (vp_in_nI hj (by omega)) hdg (fun H1 locs1 hP1 hD1 hS1 => ?_)
  have he : cel cy ad (sA M 0 1 j 1) (0, 1 + 1) = (ad 0 (1 + 1), .inl (cy 8, 3, .inr (.inr (.inr (.inr (va_up (fun j => if gA M 0 1 j = 0 then none else some (ad (21 + 9 * j) 0)) (nI j).toNatClampNeg (some (ad (21 + 9 * j) 0)))))))) := by
    show (ad 0 (1 + 1), Sum.inl (cy 8, 3, Sum.inr (Sum.inr (Sum.inr (Sum.inr (fun i => if gA (sA M 0 1 j 1) 0 1 i = 0 then none else some (ad (21 + 9 * i) 0))))))) = _
    have hf : (fun i => if gA (sA M 0 1 j 1) 0 1 i = 0 then none else some (ad (21 + 9 * i) 0)) = va_up (fun j => if gA M 0 1 j = 0 then none else some (ad (21 + 9 * j) 0)) (nI j).toNatClampNeg (some (ad (21 + 9 * j) 0)) := by
      funext i
      have hjj : (nI j).toNatClampNeg = j := ix_n (by omega)
      unfold va_up
      rw [hjj]
      by_cases z : i = j
      · subst z
        rw [gA_img1, if_neg (by decide), if_pos rfl]
      · rw [gA_img0 M z, if_neg z]
    rw [hf]
  have hset := wo_set (M' := sA M 0 1 j 1) hD hi0 he (fun q' hq => cel_wA' hq)
  erw [hset] at hP1 hD1
  exact kk H1 locs1 hP1 hD1 hS1
theorem wo_app {cy : Nat → ClassId} {ad : Nat → Nat → Nat} {M : Mem} {a b : List (Nat × Nat)} : wo cy ad M (a ++ b) = wo cy ad M a ++ wo cy ad M b := List.map_append
theorem w5_j {cy : Nat → ClassId} {ad : Nat → Nat → Nat} {M : Mem} {j : Nat} (hj : j < 3) : EQ (made5 cy (ad (21 + 9 * j) 0) (v5 ad (21 + 9 * j))) (wo cy ad (nwM (21 + 9 * j) M) (ns5 (21 + 9 * j))) := by
  rcases (show j = 0 ∨ j = 1 ∨ j = 2 by omega) with rfl | rfl | rfl
  · exact w5_21
  · exact w5_30
  · exact w5_39
/-- the world with a new Told, as typed memory -/
theorem w_new {D : va_G} {cy : Nat → ClassId} {ad : Nat → Nat → Nat} {A : Nat → Prop} {ns : List (Nat × Nat)} {M : Mem} {j h : Nat} {u : Nat → Nat} {H : Heap} (h0 : (0, 0) ∈ ns) (hB : NB ns) (hj : j < 3) (hj0 : gA M 0 1 j = 0) (hW : WR ns M) (hF : FRE ns M) (hP : va_P D vwCl (wo cy ad M ns ++ made5 cy h u) H) (hD : va_D A (wo cy ad M ns ++ made5 cy h u)) : va_P D vwCl (wo cy (adT ad (21 + 9 * j) h u) (nwM (21 + 9 * j) M) (ns ++ ns5 (21 + 9 * j))) H ∧ va_D A (wo cy (adT ad (21 + 9 * j) h u) (nwM (21 + 9 * j) M) (ns ++ ns5 (21 + 9 * j))) := by
  have e1 := w_old (cy := cy) (ad := ad) (h := h) (u := u) h0 hB hj rfl hj0 hW hF
  have e2 := w5_j (cy := cy) (ad := adT ad (21 + 9 * j) h u) (M := M) hj
  rw [adT_in, ← made5_cg (fun i hi => v5_t (ad := ad) (t := 21 + 9 * j) (h := h) (u := u) hi)] at e2
  rw [wo_app]
  exact ⟨EQ_P (EQ_app e1 e2) hP, EQ_D (EQ_app e1 e2) hD⟩
def rm_img : Room := { frames := 3, cells := 47, slots := 1235, locals := 103 }
section Img
variable {l : Launch} {D : va_G} {cy : Nat → ClassId} {ad : Nat → Nat → Nat} {ns : List (Nat × Nat)} {A : Nat → Prop} {M : Mem}
theorem mv_X9_image : Mv yX9_image RX9 cX9_image 2 ((some .boolean)) 1 := ⟨t5_116, t5_114, t5_115, t1_1, ⟨by decide, by decide⟩, by decide +kernel⟩
set_option maxRecDepth 100000 in
set_option maxHeartbeats 4000000 in
theorem mi_out (hN : NsC ns) {a1 : Int32} (ha : a1 < 0 ∨ ¬ a1 < nI 3) : Ct l yX9_image cX9_image 2 ((some .boolean)) rm_X9_again D cy ad ns A [.ref (ad 0 0), .int a1] M M (some (.int (b2i false))) := by
  refine ct_of (lv := [(0, .ref (ad 0 0)), (1, .int a1)]) (by decide) (Nat.le_of_ble_eq_true rfl) rfl ?_
  intro p e s m args below meth c ls X hl hS
  obtain ⟨hx, hb, hml, hown, hts, hK, hr, hlk, hA, hG⟩ := id X
  refine lv_iload_n hx hb dX9_image_0 rfl (lv_at hl 1 rfl) ?_
  refine lv_if_lt (tgt := 9) hx hb dX9_image_1 (by decide) (fun c1 => ?_) (fun c1 => ?_)
  · refine lv_iconst (v := nI 0) hx hb dX9_image_9 (by decide) ?_
    exact x_Z (v := false) X hS dX9_image_10
  · refine lv_iload_n hx hb dX9_image_4 rfl (lv_at hl 1 rfl) ?_
    refine lv_iconst (v := nI 3) hx hb dX9_image_5 (by decide) ?_
    refine lv_icmp_lt (tgt := 11) hx hb dX9_image_6 (by decide) (fun c2 => ?_) (fun c2 => ?_)
    · rcases ha with ha | ha
      · exact absurd ha c1
      · exact absurd c2 ha
    · refine lv_iconst (v := nI 0) hx hb dX9_image_9 (by decide) ?_
      exact x_Z (v := false) X hS dX9_image_10
set_option maxRecDepth 100000 in
set_option maxHeartbeats 4000000 in
theorem mi_has (hN : NsC ns) {j : Nat} (hj : j < 3) (hj0 : ¬ gA M 0 1 j = 0) {M1 : Mem} (hX : f_X5_take M (21 + 9 * j) 1 = some M1) : Ct l yX9_image cX9_image 2 ((some .boolean)) rm_X9_again D cy ad ns A [.ref (ad 0 0), .int (nI j)] M M1 (some (.int (b2i true))) := by
  refine ct_of (lv := [(0, .ref (ad 0 0)), (1, .int (nI j))]) (by decide) (Nat.le_of_ble_eq_true rfl) rfl ?_
  intro p e s m args below meth c ls X hl hS
  obtain ⟨hx, hb, hml, hown, hts, hK, hr, hlk, hA, hG⟩ := id X
  obtain ⟨H, hH⟩ : ∃ z, z = s.heap := ⟨_, rfl⟩
  obtain ⟨locs, hlo⟩ : ∃ z : List Loc, z = [] := ⟨_, rfl⟩
  have hS : St D cy ad ns A M s.heap H locs := by rw [hH, hlo]; exact hS
  have hgoal : W p l e rm_X9_again s m args below meth c H locs 0 0 (MQ below (QC D cy ad ns A M1 (some (.int (b2i true)))) args s 0 0 A) (F0 m 0 ls []) := by
    have g3 : vp_in (nI j) 3 := vp_in_nI hj (by omega)
    have ho4 : imgAt M (ix (nI j)) = some (21 + 9 * j) := by
      unfold imgAt
      rw [ix_n (by omega), if_neg hj0]
    refine lv_iload_n hx hb dX9_image_0 rfl (lv_at hl 1 rfl) ?_
    refine lv_if_lt (tgt := 9) hx hb dX9_image_1 (by decide) (fun c1 => absurd c1 (n_nneg (by omega))) (fun _ => ?_)
    refine lv_iload_n hx hb dX9_image_4 rfl (lv_at hl 1 rfl) ?_
    refine lv_iconst (v := nI 3) hx hb dX9_image_5 (by decide) ?_
    refine lv_icmp_lt (tgt := 11) hx hb dX9_image_6 (by decide) (fun _ => ?_) (fun c2 => absurd (nI_lt hj (by omega)) c2)
    refine lv_aload_n hx hb dX9_image_11 rfl (lv_at hl 0 rfl) ?_
    refine fg_X9_16 X hS (o_of hN (o := 0) (c := 9) (by decide) rfl) dX9_image_12 ?_
    refine lv_iload_n hx hb dX9_image_15 rfl (lv_at hl 1 rfl) ?_
    refine r_imgld X hS (o_of hN (o := 0) (c := 9) (by decide) rfl) g3 dX9_image_16 ?_
    rw [ho4]
    refine lv_ifnonnull (tgt := 33) hx hb dX9_image_17 (by decide) ?_
    refine lv_aload_n hx hb dX9_image_33 rfl (lv_at hl 0 rfl) ?_
    refine fg_X9_16 X hS (o_of hN (o := 0) (c := 9) (by decide) rfl) dX9_image_34 ?_
    refine lv_iload_n hx hb dX9_image_37 rfl (lv_at hl 1 rfl) ?_
    refine r_imgld X hS (o_of hN (o := 0) (c := 9) (by decide) rfl) g3 dX9_image_38 ?_
    rw [ho4]
    refine lv_aload_n hx hb dX9_image_39 rfl (lv_at hl 0 rfl) ?_
    refine fg_X9_12 X hS (o_of hN (o := 0) (c := 9) (by decide) rfl) dX9_image_40 ?_
    refine r_callV0 (As := [.ref (ad 1 0)]) (rest := []) X hS (m_X5_take hN (wr_img hN hS g3 ho4) (o_of hN (o := 1) (c := 5) (by decide) rfl) hX) mv_X5_take rfl (wr_img hN hS g3 ho4) t5_117 ⟨rfl, rfl, Nat.le_of_ble_eq_true rfl, Nat.le_of_ble_eq_true rfl⟩ rfl hl.1 rfl (Nat.le_of_ble_eq_true rfl) ⟨Nat.zero_le _, Nat.zero_le _⟩ dX9_image_43 (fun H locs hS => ?_)
    refine lv_iconst (v := nI 1) hx hb dX9_image_46 (by decide) ?_
    exact x_Z (v := true) X hS dX9_image_47
  rw [hH, hlo] at hgoal
  exact hgoal
/-- the end of an image that made its Told -/
def Qmk (D : va_G) (cy : Nat → ClassId) (ad : Nat → Nat → Nat) (ns : List (Nat × Nat)) (A : Nat → Prop) (j : Nat) (M1 : Mem) : Array Value → State → Outcome → State → Prop := fun _ st o t => ∃ (h : Nat) (u : Nat → Nat), o = .returned (some (.int (b2i true))) ∧ Wd D cy (adT ad (21 + 9 * j) h u) (ns ++ ns5 (21 + 9 * j)) A M1 t.heap ∧ va_K D vwCl (tysE cy) t ∧ va_F A st t
set_option maxRecDepth 100000 in
set_option maxHeartbeats 4000000 in
theorem mi_new (hN : NsC ns) (hB : NB ns) (hF : FRE ns M) {j : Nat} (hj : j < 3) (hj0 : gA M 0 1 j = 0) {M1 : Mem} (hX : f_X5_take (sA (nwM (21 + 9 * j) M) 0 1 j 1) (21 + 9 * j) 1 = some M1) : Met l yX9_image (Cond.code yX9_image cX9_image 2 (some .boolean) :: Tb) rm_img (va_Pc [.ref (ad 0 0), .int (nI j)] (fun U => Wd D cy ad ns A M U.heap ∧ va_K D vwCl (tysE cy) U ∧ (∀ q, U.heap.size ≤ q → A q) ∧ Gx ad A U U.heap)) (Qmk D cy ad ns A j M1) 47 1235 A := by
  refine Met.ofW (cc := cX9_image) (maxL := 2) (ret := some .boolean) (by decide) rfl ?_
  intro p e s m args below meth c s₁ B hml hv
  obtain ⟨rfl, hW, hK, hA, hG⟩ := hv
  have hts : ∀ w ∈ Tb, w.before [Value.ref (ad 0 0), .int (nI j)].toArray s = true := fun w hw => atoms_spec (ws := Cond.code yX9_image cX9_image 2 (some .boolean) :: Tb) B.pre w (List.mem_cons_of_mem _ hw)
  have hown : s.vm.findClass yX9_image.cls = some m.cls := findClass_of_methodNamed B.named
  have hl := lv_entry [Value.ref (ad 0 0), .int (nI j)] (n := 2) (Nat.le_of_ble_eq_true rfl)
  rw [lg_entry_eq]
  generalize (lg_sl ([Value.ref (ad 0 0), .int (nI j)]) ++ List.replicate (2 - (lg_sl ([Value.ref (ad 0 0), .int (nI j)])).length) Slot.unset).toArray = ls at hl ⊢
  have hl : lv_has ls 2 [(0, .ref (ad 0 0)), (1, .int (nI j))] := hl
  have X : Cx p s m [Value.ref (ad 0 0), .int (nI j)].toArray meth c D cy ad A RX9 cX9_image 2 (some .boolean) := ⟨B.exec, B.bytes, hml, hown, hts, hK, B.returns, B.notSynchronized, hA, hG⟩
  generalize [Value.ref (ad 0 0), .int (nI j)].toArray = args at X hts ⊢
  obtain ⟨hx, hb, -, -, -, -, hr, hlk, -, -⟩ := id X
  have hS : St D cy ad ns A M s.heap s.heap [] := ⟨hW, va_S.rf⟩
  show W p l e rm_img s m args below meth c s.heap [] 0 0 (MQ below (Qmk D cy ad ns A j M1) args s 47 1235 A) (F0 m 0 ls [])
  obtain ⟨H, hH⟩ : ∃ z, z = s.heap := ⟨_, rfl⟩
  obtain ⟨locs, hlo⟩ : ∃ z : List Loc, z = [] := ⟨_, rfl⟩
  have hS : St D cy ad ns A M s.heap H locs := by rw [hH, hlo]; exact hS
  have hgoal : W p l e rm_img s m args below meth c H locs 0 0 (MQ below (Qmk D cy ad ns A j M1) args s 47 1235 A) (F0 m 0 ls []) := by
    have g3 : vp_in (nI j) 3 := vp_in_nI hj (by omega)
    have ho4 : imgAt M (ix (nI j)) = none := by
      unfold imgAt
      rw [ix_n (by omega), if_pos hj0]
    have o0 : Ob ns 9 0 := o_of hN (o := 0) (c := 9) (by decide) rfl
    refine lv_iload_n hx hb dX9_image_0 rfl (lv_at hl 1 rfl) ?_
    refine lv_if_lt (tgt := 9) hx hb dX9_image_1 (by decide) (fun c1 => absurd c1 (n_nneg (by omega))) (fun _ => ?_)
    refine lv_iload_n hx hb dX9_image_4 rfl (lv_at hl 1 rfl) ?_
    refine lv_iconst (v := nI 3) hx hb dX9_image_5 (by decide) ?_
    refine lv_icmp_lt (tgt := 11) hx hb dX9_image_6 (by decide) (fun _ => ?_) (fun c2 => absurd (nI_lt hj (by omega)) c2)
    refine lv_aload_n hx hb dX9_image_11 rfl (lv_at hl 0 rfl) ?_
    refine fg_X9_16 X hS o0 dX9_image_12 ?_
    refine lv_iload_n hx hb dX9_image_15 rfl (lv_at hl 1 rfl) ?_
    refine r_imgld X hS o0 g3 dX9_image_16 ?_
    rw [ho4]
    refine lv_ifnonnullN hx hb dX9_image_17 ?_
    refine lv_aload_n hx hb dX9_image_20 rfl (lv_at hl 0 rfl) ?_
    refine fg_X9_16 X hS o0 dX9_image_21 ?_
    refine lv_iload_n hx hb dX9_image_24 rfl (lv_at hl 1 rfl) ?_
    obtain ⟨⟨hP, hD, hWR⟩, hSS⟩ := hS
    refine va_new (ci := 5) (fs := [.null, .int 0, .int 0, .int 0, .null, .null, .null, .null, .null]) (C := RX5) (T := TX5) (N := 9) hx hb hts tf5 tyX5 tyX5_ok hown (hts _ t1_28) (hts _ t1_29) (hts _ t1_2) hK hP hD hSS hA rfl (fun j hj => by rcases (show j = 0 ∨ j = 1 ∨ j = 2 ∨ j = 3 ∨ j = 4 ∨ j = 5 ∨ j = 6 ∨ j = 7 ∨ j = 8 by omega) with rfl | rfl | rfl | rfl | rfl | rfl | rfl | rfl | rfl <;> rfl) (Nat.le_of_ble_eq_true rfl) (Nat.le_of_ble_eq_true rfl) dX9_image_25 (fun q5 H hP hD hSS => ?_)
    refine lv_dup hx hb dX9_image_28 rfl ?_
    have hP : va_P D vwCl (new5 q5 ++ wo cy ad M ns) H := P_swap hP
    have hD : va_D A (new5 q5 ++ wo cy ad M ns) := D_swap hD
    have hPc := P_l hP
    have hDc := D_l hD
    have hFc := free_l hD hSS hA
    obtain ⟨hNe, hAO, -⟩ := id hG
    refine va_callv (va_runIN (host := "SewnYear") (As := []) (rest := [.ref q5, .int (nI j), .ref (ad 0 (1 + 1))]) (Ts := Tb) ⟨hx, hb, hml, hown, hts⟩ (c_X5_init l D cy q5 H.size) ⟨va_cnB 0 hts (goodIn_Tb t1_32) rfl rfl rfl (hNe (RX9, 11, yX5_init) (by decide +kernel)) (hts _ t1_2) ⟨by decide, by decide, by decide +kernel⟩ ⟨Nat.le_of_ble_eq_true rfl, Nat.le_of_ble_eq_true rfl⟩, rfl, hts _ t1_31⟩ ⟨fun a U g mk q => by obtain ⟨q0, q1, qP, qK, qD, qN, qO⟩ := q; exact ⟨q0, q1, qP, va_K.moved (u := U) (U := U.calling g mk a) (Vm.Alike.refl U.vm) qK, qD, fun w hw => va_Nw.same (u := U) (U := U.calling g mk a) rfl rfl (qN w hw), fun w hw => (qO w hw).moved (u := U) (U := U.calling g mk a) (Vm.Alike.refl U.vm)⟩, fun U hU hW => ⟨rfl, by rw [hU], by rw [hU]; exact hPc, va_K.moved hW.alike hK, hDc.weaken (fun _ _ _ _ => trivial), fun w hw => va_Nw.warmM hW (hNe w hw), fun w hw => (hAO w hw).moved hW.alike⟩⟩ rfl rfl hl.1 rfl (lv_room (Nat.le_of_ble_eq_true rfl)) dX9_image_29 ⟨Nat.le_of_ble_eq_true rfl, Nat.le_of_ble_eq_true rfl⟩) hSS (fun q _ h => hFc q h) hFc (fun u t H1 locs ht hvm _ hB2 hz1 hk1 hSS => ?_)
    obtain ⟨hP1, hK1, hD1⟩ := hB2
    rw [ht] at hP1
    obtain ⟨hP, hD⟩ := back_l hP hD hk1 hFc hP1 hD1
    generalize H1 = H at hP hSS ⊢
    obtain ⟨hP, hD⟩ := w_new (o_t hN) hB hj hj0 hWR hF (P_swap hP) (D_swap hD)
    have ht3 : 21 + 9 * j = 21 ∨ 21 + 9 * j = 30 ∨ 21 + 9 * j = 39 := by omega
    have hN' := NsC_add ht3 hN
    have hT : Ob (ns ++ ns5 (21 + 9 * j)) 5 (21 + 9 * j) := Ob_mono mem_r (obb_o (ns5_in _ ht3).2.1)
    have ad00 : ad 0 (1 + 1) = adT ad (21 + 9 * j) q5 u 0 (1 + 1) := (adT_out (by omega) _).symm
    have adq : q5 = adT ad (21 + 9 * j) q5 u (21 + 9 * j) 0 := adT_in.symm
    have X' : Cx p s m args meth c D cy (adT ad (21 + 9 * j) q5 u) A RX9 cX9_image 2 (some .boolean) := by
      obtain ⟨y1, y2, y3, y4, y5, y6, y7, y8, y9, y10⟩ := X
      refine ⟨y1, y2, y3, y4, y5, y6, y7, y8, y9, Gx_ad y10 ?_ ?_⟩
      · funext k; exact adT_out (by omega) k
      · funext k; exact adT_out (by omega) k
    have hl : lv_has ls 2 [(0, .ref (adT ad (21 + 9 * j) q5 u 0 0)), (1, .int (nI j))] := by
      rw [adT_out (by omega)]
      exact hl
    have hst : W p l e rm_img s m args below meth c H locs (0 + 1 + 46) (0 + 9 + 1226) (MQ below (Qmk D cy ad ns A j M1) args s 47 1235 A) (F0 m 32 ls (.ref (adT ad (21 + 9 * j) q5 u (21 + 9 * j) 0) :: .int (nI j) :: .ref (adT ad (21 + 9 * j) q5 u 0 (1 + 1)) :: [])) := by
      refine rt_imgst X' hP hD hSS (Ob_mono mem_l o0) hj hT dX9_image_32 (fun H locs hP hD hSS => ?_)
      have hWR' : WR (ns ++ ns5 (21 + 9 * j)) (sA (nwM (21 + 9 * j) M) 0 1 j 1) := by
        obtain ⟨w1, w2, w3, w4⟩ := hWR.1 (o_t hN)
        refine ⟨fun _ => ⟨Ob_mono mem_l w1, Ob_mono mem_l w2, Ob_mono mem_l w3, w4.imp id (Ob_mono mem_l)⟩, fun _ i hi hne => ?_⟩
        by_cases z : i = j
        · subst z; exact hT
        · rw [gA_sA, if_neg (fun y => z y.2.2), gA_nw (by omega)] at hne
          exact Ob_mono mem_l (hWR.2 (o_t hN) i hi hne)
      have hS : St D cy (adT ad (21 + 9 * j) q5 u) (ns ++ ns5 (21 + 9 * j)) A (sA (nwM (21 + 9 * j) M) 0 1 j 1) s.heap H locs := ⟨⟨hP, hD, hWR'⟩, hSS⟩
      have ho5 : imgAt (sA (nwM (21 + 9 * j) M) 0 1 j 1) (ix (nI j)) = some (21 + 9 * j) := by
        unfold imgAt
        rw [ix_n (by omega), gA_img1, if_neg (by decide)]
      refine lv_aload_n hx hb dX9_image_33 rfl (lv_at hl 0 rfl) ?_
      refine fg_X9_16 X' hS (o_of hN' (o := 0) (c := 9) (by decide) rfl) dX9_image_34 ?_
      refine lv_iload_n hx hb dX9_image_37 rfl (lv_at hl 1 rfl) ?_
      refine r_imgld X' hS (o_of hN' (o := 0) (c := 9) (by decide) rfl) g3 dX9_image_38 ?_
      rw [ho5]
      refine lv_aload_n hx hb dX9_image_39 rfl (lv_at hl 0 rfl) ?_
      refine fg_X9_12 X' hS (o_of hN' (o := 0) (c := 9) (by decide) rfl) dX9_image_40 ?_
      refine r_callV0 (As := [.ref (adT ad (21 + 9 * j) q5 u 1 0)]) (rest := []) X' hS (m_X5_take hN' hT (o_of hN' (o := 1) (c := 5) (by decide) rfl) hX) mv_X5_take rfl hT t5_117 ⟨rfl, rfl, Nat.le_of_ble_eq_true rfl, Nat.le_of_ble_eq_true rfl⟩ rfl hl.1 rfl (Nat.le_of_ble_eq_true rfl) ⟨Nat.le_of_ble_eq_true rfl, Nat.le_of_ble_eq_true rfl⟩ dX9_image_43 (fun H locs hS => ?_)
      refine lv_iconst (v := nI 1) hx hb dX9_image_46 (by decide) ?_
      exact W.zret hx hb hr (b2i_nar true) (fun t ht hW => ⟨q5, u, rfl, by rw [ht]; exact hS.1, va_K.moved hW.alike hK, hS.2.F ht⟩) hS.2.2.2 dX9_image_47 hlk
    rw [← ad00, ← adq] at hst
    exact hst
  rw [hH, hlo] at hgoal
  exact hgoal
end Img
