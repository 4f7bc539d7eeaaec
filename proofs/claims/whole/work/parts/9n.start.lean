/-! THE LAW'S START: what the tables and the start's premises give -/
theorem tin1 {i : Nat} {w : Cond} (h : tables_1_1[i]? = some w) : w ∈ lw_tbl := List.mem_append_right _ (List.mem_append_left _ (List.mem_of_getElem? h))
theorem tin2 {i : Nat} {w : Cond} (h : tables_1_2[i]? = some w) : w ∈ lw_tbl := List.mem_append_right _ (List.mem_append_right _ (List.mem_append_left _ (List.mem_of_getElem? h)))
theorem tin3 {i : Nat} {w : Cond} (h : tables_1_3[i]? = some w) : w ∈ lw_tbl := List.mem_append_right _ (List.mem_append_right _ (List.mem_append_right _ (List.mem_append_left _ (List.mem_of_getElem? h))))
theorem tin4 {i : Nat} {w : Cond} (h : tables_1_4[i]? = some w) : w ∈ lw_tbl := List.mem_append_right _ (List.mem_append_right _ (List.mem_append_right _ (List.mem_append_right _ (List.mem_append_left _ (List.mem_of_getElem? h)))))
theorem tin5 {i : Nat} {w : Cond} (h : tables_1_5[i]? = some w) : w ∈ lw_tbl := List.mem_append_right _ (List.mem_append_right _ (List.mem_append_right _ (List.mem_append_right _ (List.mem_append_right _ (List.mem_append_left _ (List.mem_of_getElem? h))))))
theorem tin6 {i : Nat} {w : Cond} (h : tables_1_6[i]? = some w) : w ∈ lw_tbl := List.mem_append_right _ (List.mem_append_right _ (List.mem_append_right _ (List.mem_append_right _ (List.mem_append_right _ (List.mem_append_right _ (List.mem_append_left _ (List.mem_of_getElem? h)))))))
theorem tin7 {i : Nat} {w : Cond} (h : tables_1_7[i]? = some w) : w ∈ lw_tbl := List.mem_append_right _ (List.mem_append_right _ (List.mem_append_right _ (List.mem_append_right _ (List.mem_append_right _ (List.mem_append_right _ (List.mem_append_right _ (List.mem_append_left _ (List.mem_of_getElem? h))))))))
theorem tin8 {i : Nat} {w : Cond} (h : tables_1_8[i]? = some w) : w ∈ lw_tbl := List.mem_append_right _ (List.mem_append_right _ (List.mem_append_right _ (List.mem_append_right _ (List.mem_append_right _ (List.mem_append_right _ (List.mem_append_right _ (List.mem_append_right _ (List.mem_of_getElem? h))))))))
theorem nest_in : ∀ q ∈ nestL, Cond.methodLinkNest q.1 q.2.1 q.2.2 "SewnYear" ∈ lw_tbl := List.forall_mem_cons.mpr ⟨tin1 (i := 30) (by decide +kernel), List.forall_mem_cons.mpr ⟨tin1 (i := 37) (by decide +kernel), List.forall_mem_cons.mpr ⟨tin1 (i := 88) (by decide +kernel), List.forall_mem_cons.mpr ⟨tin1 (i := 110) (by decide +kernel), List.forall_mem_cons.mpr ⟨tin1 (i := 167) (by decide +kernel), List.forall_mem_cons.mpr ⟨tin1 (i := 229) (by decide +kernel), List.forall_mem_cons.mpr ⟨tin1 (i := 234) (by decide +kernel), List.forall_mem_cons.mpr ⟨tin1 (i := 236) (by decide +kernel), List.forall_mem_cons.mpr ⟨tin1 (i := 238) (by decide +kernel), List.forall_mem_cons.mpr ⟨tin2 (i := 0) (by decide +kernel), List.forall_mem_cons.mpr ⟨tin2 (i := 52) (by decide +kernel), List.forall_mem_cons.mpr ⟨tin2 (i := 57) (by decide +kernel), List.forall_mem_cons.mpr ⟨tin2 (i := 88) (by decide +kernel), List.forall_mem_cons.mpr ⟨tin2 (i := 93) (by decide +kernel), List.forall_mem_cons.mpr ⟨tin2 (i := 128) (by decide +kernel), List.forall_mem_cons.mpr ⟨tin2 (i := 133) (by decide +kernel), List.forall_mem_cons.mpr ⟨tin4 (i := 90) (by decide +kernel), List.forall_mem_cons.mpr ⟨tin4 (i := 153) (by decide +kernel), fun _ h => absurd h List.not_mem_nil⟩⟩⟩⟩⟩⟩⟩⟩⟩⟩⟩⟩⟩⟩⟩⟩⟩⟩
theorem ao_in : ∀ C ∈ aoL, Cond.arrayOver (.object C) ∈ lw_tbl := List.forall_mem_cons.mpr ⟨tin1 (i := 35) (by decide +kernel), List.forall_mem_cons.mpr ⟨tin1 (i := 86) (by decide +kernel), List.forall_mem_cons.mpr ⟨tin1 (i := 108) (by decide +kernel), List.forall_mem_cons.mpr ⟨tin1 (i := 165) (by decide +kernel), List.forall_mem_cons.mpr ⟨tin1 (i := 226) (by decide +kernel), fun _ h => absurd h List.not_mem_nil⟩⟩⟩⟩⟩
def srI : List Nat := [10, 63, 64, 65, 66, 67, 68, 69, 70, 71, 72, 73, 74, 75, 76, 77, 78, 79]
theorem sr_in : ∀ i, i < 18 → tables_1_3[srI.getD i 0]? = some (Cond.stringRef "SewnYear$Reader" (strIx.getD i 0) (strTx.getD i "")) := by decide +kernel
def stI : List Nat := [64, 72, 82, 93, 104, 115, 130, 144, 159, 177, 193, 212, 232, 254, 277, 299, 324, 346]
abbrev stC : Cond := Jvm.Cond.and given_1 narrow_1
def stT (i : Nat) : Term := Term.string "SewnYear$Reader" (strIx.getD i 0)
theorem sx_ex : ∀ i, i < 18 → (flatC stC)[stI.getD i 0]? = some (Cond.exactly (stT i) "java/lang/String") := by decide +kernel
theorem sx_co : ∀ i, i < 18 → (flatC stC)[stI.getD i 0 + 1]? = some (Cond.eq (.field (stT i) "java/lang/String" "coder" "B") (.int 0)) := by decide +kernel
theorem sx_ar : ∀ i, i < 18 → (flatC stC)[stI.getD i 0 + 2]? = some (Cond.arrayOf (.field (stT i) "java/lang/String" "value" "[B") .byte) := by decide +kernel
theorem sx_le : ∀ i, i < 18 → (flatC stC)[stI.getD i 0 + 3]? = some (Cond.eq (.length (.field (stT i) "java/lang/String" "value" "[B")) (.int (Int32.ofNat (strLn.getD i 0)))) := by decide +kernel
theorem sx_el : ∀ i, i < 18 → ∀ j, j < strLn.getD i 0 → (flatC stC)[stI.getD i 0 + 4 + j]? = some (Cond.eq (.elem (.field (stT i) "java/lang/String" "value" "[B") (.int (Int32.ofNat j))) (.int ((strBt.getD i []).getD j 0))) := by decide +kernel
theorem sx_ne : ∀ i, i < 18 → ∀ j, j < i → (flatC stC)[stI.getD i 0 + 4 + strLn.getD i 0 + j]? = some (Cond.not (Cond.eq (stT j) (stT i))) := by decide +kernel
theorem sx_cs : (flatC stC)[4]? = some (Cond.eq (.static "java/lang/String" "COMPACT_STRINGS" "Z") (.int 1)) := by decide +kernel
theorem sx_sf : (flatC stC)[5]? = some (Cond.isRef (.static "jdk/internal/util/Preconditions" "SIOOBE_FORMATTER" "Ljava/util/function/BiFunction;")) := by decide +kernel
theorem start_gx {s : State} {b : Nat} (hts : ∀ w ∈ lw_tbl, w.before #[Value.ref b] s = true) (hgv : stC.before #[Value.ref b] s = true) : ∃ g : Nat → Nat → Nat, ∀ ad : Nat → Nat → Nat, ad 200 = g 200 → ad 201 = g 201 → Gx ad (A0 s) s s.heap := by
  have hf := flat_of_before _ hgv
  have at' : ∀ {i : Nat} {w : Cond}, (flatC stC)[i]? = some w → w.before #[Value.ref b] s = true := fun h => hf _ (List.mem_of_getElem? h)
  have hA : ∀ a : Nat, a < s.heap.size → ¬ A0 s a := fun a h => Nat.not_le.mpr h
  have htb : ∀ w ∈ Tb, w.before #[Value.ref b] s = true := fun w hw => hts w (List.mem_filter.mp hw).1
  have hln : ∀ i, i < 18 → strLn.getD i 0 < 2 ^ 31 := by decide +kernel
  obtain ⟨adK, adV, h1, h2⟩ := vk_Sof (args := #[Value.ref b]) (s := s) (N := 18) (tm := stT) (len := strLn) (byt := strBt) (A := A0 s) hln (fun i hi => at' (sx_ex i hi)) (fun i hi => at' (sx_co i hi)) (fun i hi => at' (sx_ar i hi)) (fun i hi => at' (sx_le i hi)) (fun i hi j hj => at' (sx_el i hi j hj)) (fun i j hi hj hij => by
    rcases Nat.lt_or_gt_of_ne hij with h | h
    · exact Or.inl (at' (sx_ne j hj i h))
    · exact Or.inr (at' (sx_ne i hi j h))) hA
  refine ⟨fun o i => if o = 200 then adK i else adV i, fun ad e0 e1 => ?_⟩
  have e0 : ad 200 = adK := by rw [e0]; funext i; exact if_pos rfl
  have e1 : ad 201 = adV := by rw [e1]; funext i; exact if_neg (by decide)
  unfold Gx
  rw [e0, e1]
  refine ⟨fun q hq => va_Nw.of rfl (hts _ (nest_in q hq)), fun C hC => va_AO.of (hts _ (ao_in C hC)), fun i hi => vk_R.of (hts _ (tin3 (sr_in i hi))) (h2 i hi), h1, ?_, ?_⟩
  · exact va_Zof (hts _ (tin3 (i := 24) (by decide +kernel))) (htb _ t1_14) (va_eqi (at' sx_cs)) hA
  · exact va_Zqof (hts _ (tin3 (i := 40) (by decide +kernel))) (htb _ t1_16) (at' sx_sf) hA
theorem ty_prim {s : State} {args : Array Value} {ty : FieldType} (h : (Cond.arrayClass ty).before args s = true) (ho : ∀ (c : ClassId), s.vm.findClass ("[" ++ ty.toString) = some c → va_RA s c ty) : ∃ c : ClassId, ArrOfT s c ty ∧ va_RA s c ty := by
  obtain ⟨c, k, comp, h1, h2, h3⟩ := Cond.arrayClass_spec h
  exact ⟨c, fun N z => ⟨(fun k h => by cases h), k, h2, comp, h3⟩, ho c h1⟩
theorem ty_obj {s : State} {args : Array Value} {C : String} (h : (Cond.arrayOver (.object C)).before args s = true) : ∃ c : ClassId, ArrOfT s c (.object C) ∧ va_RA s c (.object C) := by
  obtain ⟨comp, c, k, h1, -, h3, h4, h5⟩ := Cond.arrayOver_spec h
  exact ⟨c, fun N z => ⟨(fun k h => by cases h), k, h3, comp, h4⟩, k, comp, h3, h4, h1, h5⟩
theorem start_k {s : State} {b : Nat} (hts : ∀ w ∈ lw_tbl, w.before #[Value.ref b] s = true) : ∃ (D : va_G) (cy : Nat → ClassId), va_K D vwCl (tysE cy) s := by
  have htb : ∀ w ∈ Tb, w.before #[Value.ref b] s = true := fun w hw => hts w (List.mem_filter.mp hw).1
  obtain ⟨c0, i0, k0⟩ := u_known (C := RX0) (T := TX0) (N := 7) (n := 7) htb tf0 (htb _ t1_36)
  obtain ⟨c1, i1, k1⟩ := u_known (C := RX1) (T := TX1) (N := 3) (n := 3) htb tf1 (htb _ t1_87)
  obtain ⟨c2, i2, k2⟩ := u_known (C := RX2) (T := TX2) (N := 14) (n := 14) htb tf2 (htb _ t1_228)
  obtain ⟨c3, i3, k3⟩ := u_known (C := RX3) (T := TX3) (N := 10) (n := 10) htb tf3 (htb _ t2_87)
  obtain ⟨c4, i4, k4⟩ := u_known (C := RX4) (T := TX4) (N := 4) (n := 4) htb tf4 (htb _ t1_166)
  obtain ⟨c5, i5, k5⟩ := u_known (C := RX5) (T := TX5) (N := 9) (n := 9) htb tf5 (htb _ t1_29)
  obtain ⟨c6, i6, k6⟩ := u_known (C := RX6) (T := TX6) (N := 11) (n := 11) htb tf6 (htb _ t1_109)
  obtain ⟨c7, i7, k7⟩ := u_known (C := RX7) (T := TX7) (N := 10) (n := 10) htb tf7 (htb _ t2_127)
  obtain ⟨c8, i8, k8⟩ := u_known (C := RX8) (T := TX8) (N := 9) (n := 9) htb tf8 (htb _ t2_51)
  obtain ⟨c9, i9, k9⟩ := u_known (C := RX9) (T := TX9) (N := 6) (n := 6) htb tf9 (htb _ t1_21)
  obtain ⟨c10, i10, k10⟩ := u_known (C := RX10) (T := TX10) (N := 58) (n := 58) htb tf10 (htb _ t5_127)
  obtain ⟨y0, z0⟩ := ty_prim (htb _ t1_84) (fun c h => h)
  obtain ⟨y1, z1⟩ := ty_prim (htb _ t6_67) (fun c h => h)
  obtain ⟨y2, z2⟩ := ty_prim (htb _ t1_83) (fun c h => h)
  obtain ⟨y3, z3⟩ := ty_prim (htb _ t6_68) (fun c h => h)
  obtain ⟨y4, z4⟩ := ty_obj (hts _ (ao_in "SewnYear$Coat" (by decide +kernel)))
  obtain ⟨y5, z5⟩ := ty_obj (hts _ (ao_in "SewnYear$Life" (by decide +kernel)))
  obtain ⟨y6, z6⟩ := ty_obj (hts _ (ao_in "SewnYear$Town" (by decide +kernel)))
  obtain ⟨y7, z7⟩ := ty_obj (hts _ (ao_in "SewnYear$Sight" (by decide +kernel)))
  obtain ⟨y8, z8⟩ := ty_obj (hts _ (ao_in "SewnYear$Told" (by decide +kernel)))
  refine ⟨(fun c => match c with
    | 0 => c0
    | 1 => c1
    | 2 => c2
    | 3 => c3
    | 4 => c4
    | 5 => c5
    | 6 => c6
    | 7 => c7
    | 8 => c8
    | 9 => c9
    | _ => c10, fun c => match c with
    | 0 => i0
    | 1 => i1
    | 2 => i2
    | 3 => i3
    | 4 => i4
    | 5 => i5
    | 6 => i6
    | 7 => i7
    | 8 => i8
    | 9 => i9
    | _ => i10), fun k => match k with
    | 0 => y0
    | 1 => y1
    | 2 => y2
    | 3 => y3
    | 4 => y4
    | 5 => y5
    | 6 => y6
    | 7 => y7
    | _ => y8, ?_, ?_⟩
  · intro k q hq
    match k, hq with
    | 0, hq => cases hq; exact k0
    | 1, hq => cases hq; exact k1
    | 2, hq => cases hq; exact k2
    | 3, hq => cases hq; exact k3
    | 4, hq => cases hq; exact k4
    | 5, hq => cases hq; exact k5
    | 6, hq => cases hq; exact k6
    | 7, hq => cases hq; exact k7
    | 8, hq => cases hq; exact k8
    | 9, hq => cases hq; exact k9
    | 10, hq => cases hq; exact k10
    | n + 11, hq => simp [vwCl] at hq
  · intro k q hq
    match k, hq with
    | 0, hq => cases hq; exact z0
    | 1, hq => cases hq; exact z1
    | 2, hq => cases hq; exact z2
    | 3, hq => cases hq; exact z3
    | 4, hq => cases hq; exact z4
    | 5, hq => cases hq; exact z5
    | 6, hq => cases hq; exact z6
    | 7, hq => cases hq; exact z7
    | 8, hq => cases hq; exact z8
    | n + 9, hq => simp [tysE] at hq
