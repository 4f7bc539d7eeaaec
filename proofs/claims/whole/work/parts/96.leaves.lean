/-! NEW: SewnYear$Coat -/
def new0 (h0 : Nat) : va_W := [(h0, .inr (0, [.int 0, .int 0, .null, .null, .null, .null, .null]))]
def made0 (cy : Nat → ClassId) (h0 : Nat) (u : Nat → Nat) : va_W := [(h0, .inr (0, [.int 0, .int (nI 1), .ref (u 0), .ref (u 1), .ref (u 2), .ref (u 3), .ref (u 4)])), ((u 0), .inl (cy 0, 9, .inl fun _ => 0)), ((u 1), .inl (cy 0, 9, .inl fun _ => 0)), ((u 2), .inl (cy 0, 9, .inl fun _ => 0)), ((u 3), .inl (cy 0, 9, .inl fun _ => 0)), ((u 4), .inl (cy 0, 100, .inl fun _ => 0))]
set_option maxHeartbeats 4000000 in
set_option maxRecDepth 100000 in
theorem c_X0_init (l : Launch) (D : va_G) (cy : Nat → ClassId) (h0 sz : Nat) : Met l yX0_init (Cond.code yX0_init cX0_init 1 none :: Tb) ({ frames := 1, cells := 5, slots := 136, locals := 12 }) (va_Pc [.ref h0] (fun U => U.heap.size = sz ∧ va_P D vwCl (new0 h0) U.heap ∧ va_K D vwCl (tysE cy) U ∧ va_D (fun _ => True) (new0 h0))) (va_Qv (fun _ : Nat → Nat => True) (fun u t => va_P D vwCl (made0 cy h0 u) t.heap ∧ va_K D vwCl (tysE cy) t ∧ va_D (va_A (new0 h0) sz) (made0 cy h0 u)) (va_A (new0 h0) sz)) 5 136 (va_A (new0 h0) sz) := by
  refine Met.ofW (cc := cX0_init) (maxL := 1) (ret := none) (by decide) rfl ?_
  intro p e s m args below meth c s₁ B hml hv
  obtain ⟨rfl, hsz, hP, hK, hD0⟩ := hv
  have hx := B.exec
  have hb := B.bytes
  have hr := B.returns
  have hts : ∀ w ∈ Tb, w.before _ s = true := fun w hw => atoms_spec (ws := Cond.code yX0_init cX0_init 1 none :: Tb) B.pre w (List.mem_cons_of_mem _ hw)
  have hown : s.vm.findClass RX0 = some m.cls := findClass_of_methodNamed B.named
  have hin : meth.name = "<init>" := (name_of_methodNamed B.named B.method).1
  subst hsz
  have hD := hD0.self (sz := s.heap.size)
  generalize hAe : va_A (new0 h0) s.heap.size = A at hD ⊢
  have hA : ∀ q : Nat, s.heap.size ≤ q → A q := fun q h => by rw [← hAe]; exact Or.inr h
  have hS : va_S A s.heap s.heap [] := va_S.rf
  have hP : va_P D vwCl [(h0, .inr (0, [.int 0, .int 0, .null, .null, .null, .null, .null]))] s.heap := hP
  have hD : va_D A [(h0, .inr (0, [.int 0, .int 0, .null, .null, .null, .null, .null]))] := hD
  have hl := lv_entry ([.ref h0]) (n := 1) (Nat.le_of_ble_eq_true rfl)
  rw [lg_entry_eq]
  generalize (lg_sl ([.ref h0]) ++ List.replicate (1 - (lg_sl ([.ref h0])).length) Slot.unset).toArray = ls at hl ⊢
  have hl : lv_has ls 1 [(0, .ref h0)] := hl
  refine lv_aload_n hx hb dX0_init_0 rfl (lv_at hl 0 rfl) ?_
  refine W.objInit hx hb hown (hts _ t1_40) (hts _ t1_26) (hts _ t1_27) rfl (by rw [hml]; exact hl.1) rfl dX0_init_1 (Nat.le_of_ble_eq_true rfl) (Nat.le_of_ble_eq_true rfl) ?_
  refine W.eq (g2 := F0 m 4 ls []) rfl ?_
  refine lv_aload_n hx hb dX0_init_4 rfl (lv_at hl 0 rfl) ?_
  refine lv_iconst (v := nI 1) hx hb dX0_init_5 (by decide) ?_
  refine va_put (D := D) (ci := 0) (v := .int (nI 1)) (ty := .int) (C := RX0) (T := TX0) (N := 7) hx hb hts tf0 tyX0 tyX0_ok nmX0 hown hK hP hD hS 0 rfl rfl 1 (by decide) (hts _ t1_46) (fun _ h9 => h9) rfl (by decide +kernel) rfl rfl (Nat.le_of_ble_eq_true rfl) dX0_init_6 (fun H locs hP hD hS => ?_)
  have hP : va_P D vwCl [(h0, .inr (0, [.int 0, .int (nI 1), .null, .null, .null, .null, .null]))] H := hP
  have hD : va_D A [(h0, .inr (0, [.int 0, .int (nI 1), .null, .null, .null, .null, .null]))] := hD
  refine lv_aload_n hx hb dX0_init_9 rfl (lv_at hl 0 rfl) ?_
  refine lv_bipush (v := nI 9) hx hb dX0_init_10 (by decide) ?_
  refine rn_newa (atype := .int) (ty := .int) (k := 0) (N' := 9) (a0 := (9, .inl fun _ => 0)) hx hb (hts _ t1_84) rfl hK hP hD hS hA rfl (fun _ => rfl) (by decide) rfl (Nat.le_of_ble_eq_true rfl) (Nat.le_of_ble_eq_true rfl) (Nat.le_of_ble_eq_true rfl) dX0_init_12 (fun q12 H hP hD hS => ?_)
  have hP : va_P D vwCl [(h0, .inr (0, [.int 0, .int (nI 1), .null, .null, .null, .null, .null])), (q12, .inl (cy 0, 9, .inl fun _ => 0))] H := hP
  have hD : va_D A [(h0, .inr (0, [.int 0, .int (nI 1), .null, .null, .null, .null, .null])), (q12, .inl (cy 0, 9, .inl fun _ => 0))] := hD
  refine va_putF (D := D) (ci := 0) (v := .ref q12) (ty := .array .int) (C := RX0) (T := TX0) (N := 7) hx hb hts tf0 tyX0 tyX0_ok nmX0 hown hK hP hD hS 0 rfl rfl 2 (by decide) (hts _ t1_51) (fun _ h9 => h9) rfl hin rfl (by decide +kernel) rfl rfl (Nat.le_of_ble_eq_true rfl) dX0_init_14 (fun H locs hP hD hS => ?_)
  have hP : va_P D vwCl [(h0, .inr (0, [.int 0, .int (nI 1), .ref q12, .null, .null, .null, .null])), (q12, .inl (cy 0, 9, .inl fun _ => 0))] H := hP
  have hD : va_D A [(h0, .inr (0, [.int 0, .int (nI 1), .ref q12, .null, .null, .null, .null])), (q12, .inl (cy 0, 9, .inl fun _ => 0))] := hD
  refine lv_aload_n hx hb dX0_init_17 rfl (lv_at hl 0 rfl) ?_
  refine lv_bipush (v := nI 9) hx hb dX0_init_18 (by decide) ?_
  refine rn_newa (atype := .int) (ty := .int) (k := 0) (N' := 9) (a0 := (9, .inl fun _ => 0)) hx hb (hts _ t1_84) rfl hK hP hD hS hA rfl (fun _ => rfl) (by decide) rfl (Nat.le_of_ble_eq_true rfl) (Nat.le_of_ble_eq_true rfl) (Nat.le_of_ble_eq_true rfl) dX0_init_20 (fun q20 H hP hD hS => ?_)
  have hP : va_P D vwCl [(h0, .inr (0, [.int 0, .int (nI 1), .ref q12, .null, .null, .null, .null])), (q12, .inl (cy 0, 9, .inl fun _ => 0)), (q20, .inl (cy 0, 9, .inl fun _ => 0))] H := hP
  have hD : va_D A [(h0, .inr (0, [.int 0, .int (nI 1), .ref q12, .null, .null, .null, .null])), (q12, .inl (cy 0, 9, .inl fun _ => 0)), (q20, .inl (cy 0, 9, .inl fun _ => 0))] := hD
  refine va_putF (D := D) (ci := 0) (v := .ref q20) (ty := .array .int) (C := RX0) (T := TX0) (N := 7) hx hb hts tf0 tyX0 tyX0_ok nmX0 hown hK hP hD hS 0 rfl rfl 3 (by decide) (hts _ t1_54) (fun _ h9 => h9) rfl hin rfl (by decide +kernel) rfl rfl (Nat.le_of_ble_eq_true rfl) dX0_init_22 (fun H locs hP hD hS => ?_)
  have hP : va_P D vwCl [(h0, .inr (0, [.int 0, .int (nI 1), .ref q12, .ref q20, .null, .null, .null])), (q12, .inl (cy 0, 9, .inl fun _ => 0)), (q20, .inl (cy 0, 9, .inl fun _ => 0))] H := hP
  have hD : va_D A [(h0, .inr (0, [.int 0, .int (nI 1), .ref q12, .ref q20, .null, .null, .null])), (q12, .inl (cy 0, 9, .inl fun _ => 0)), (q20, .inl (cy 0, 9, .inl fun _ => 0))] := hD
  refine lv_aload_n hx hb dX0_init_25 rfl (lv_at hl 0 rfl) ?_
  refine lv_bipush (v := nI 9) hx hb dX0_init_26 (by decide) ?_
  refine rn_newa (atype := .int) (ty := .int) (k := 0) (N' := 9) (a0 := (9, .inl fun _ => 0)) hx hb (hts _ t1_84) rfl hK hP hD hS hA rfl (fun _ => rfl) (by decide) rfl (Nat.le_of_ble_eq_true rfl) (Nat.le_of_ble_eq_true rfl) (Nat.le_of_ble_eq_true rfl) dX0_init_28 (fun q28 H hP hD hS => ?_)
  have hP : va_P D vwCl [(h0, .inr (0, [.int 0, .int (nI 1), .ref q12, .ref q20, .null, .null, .null])), (q12, .inl (cy 0, 9, .inl fun _ => 0)), (q20, .inl (cy 0, 9, .inl fun _ => 0)), (q28, .inl (cy 0, 9, .inl fun _ => 0))] H := hP
  have hD : va_D A [(h0, .inr (0, [.int 0, .int (nI 1), .ref q12, .ref q20, .null, .null, .null])), (q12, .inl (cy 0, 9, .inl fun _ => 0)), (q20, .inl (cy 0, 9, .inl fun _ => 0)), (q28, .inl (cy 0, 9, .inl fun _ => 0))] := hD
  refine va_putF (D := D) (ci := 0) (v := .ref q28) (ty := .array .int) (C := RX0) (T := TX0) (N := 7) hx hb hts tf0 tyX0 tyX0_ok nmX0 hown hK hP hD hS 0 rfl rfl 4 (by decide) (hts _ t1_56) (fun _ h9 => h9) rfl hin rfl (by decide +kernel) rfl rfl (Nat.le_of_ble_eq_true rfl) dX0_init_30 (fun H locs hP hD hS => ?_)
  have hP : va_P D vwCl [(h0, .inr (0, [.int 0, .int (nI 1), .ref q12, .ref q20, .ref q28, .null, .null])), (q12, .inl (cy 0, 9, .inl fun _ => 0)), (q20, .inl (cy 0, 9, .inl fun _ => 0)), (q28, .inl (cy 0, 9, .inl fun _ => 0))] H := hP
  have hD : va_D A [(h0, .inr (0, [.int 0, .int (nI 1), .ref q12, .ref q20, .ref q28, .null, .null])), (q12, .inl (cy 0, 9, .inl fun _ => 0)), (q20, .inl (cy 0, 9, .inl fun _ => 0)), (q28, .inl (cy 0, 9, .inl fun _ => 0))] := hD
  refine lv_aload_n hx hb dX0_init_33 rfl (lv_at hl 0 rfl) ?_
  refine lv_bipush (v := nI 9) hx hb dX0_init_34 (by decide) ?_
  refine rn_newa (atype := .int) (ty := .int) (k := 0) (N' := 9) (a0 := (9, .inl fun _ => 0)) hx hb (hts _ t1_84) rfl hK hP hD hS hA rfl (fun _ => rfl) (by decide) rfl (Nat.le_of_ble_eq_true rfl) (Nat.le_of_ble_eq_true rfl) (Nat.le_of_ble_eq_true rfl) dX0_init_36 (fun q36 H hP hD hS => ?_)
  have hP : va_P D vwCl [(h0, .inr (0, [.int 0, .int (nI 1), .ref q12, .ref q20, .ref q28, .null, .null])), (q12, .inl (cy 0, 9, .inl fun _ => 0)), (q20, .inl (cy 0, 9, .inl fun _ => 0)), (q28, .inl (cy 0, 9, .inl fun _ => 0)), (q36, .inl (cy 0, 9, .inl fun _ => 0))] H := hP
  have hD : va_D A [(h0, .inr (0, [.int 0, .int (nI 1), .ref q12, .ref q20, .ref q28, .null, .null])), (q12, .inl (cy 0, 9, .inl fun _ => 0)), (q20, .inl (cy 0, 9, .inl fun _ => 0)), (q28, .inl (cy 0, 9, .inl fun _ => 0)), (q36, .inl (cy 0, 9, .inl fun _ => 0))] := hD
  refine va_putF (D := D) (ci := 0) (v := .ref q36) (ty := .array .int) (C := RX0) (T := TX0) (N := 7) hx hb hts tf0 tyX0 tyX0_ok nmX0 hown hK hP hD hS 0 rfl rfl 5 (by decide) (hts _ t1_59) (fun _ h9 => h9) rfl hin rfl (by decide +kernel) rfl rfl (Nat.le_of_ble_eq_true rfl) dX0_init_38 (fun H locs hP hD hS => ?_)
  have hP : va_P D vwCl [(h0, .inr (0, [.int 0, .int (nI 1), .ref q12, .ref q20, .ref q28, .ref q36, .null])), (q12, .inl (cy 0, 9, .inl fun _ => 0)), (q20, .inl (cy 0, 9, .inl fun _ => 0)), (q28, .inl (cy 0, 9, .inl fun _ => 0)), (q36, .inl (cy 0, 9, .inl fun _ => 0))] H := hP
  have hD : va_D A [(h0, .inr (0, [.int 0, .int (nI 1), .ref q12, .ref q20, .ref q28, .ref q36, .null])), (q12, .inl (cy 0, 9, .inl fun _ => 0)), (q20, .inl (cy 0, 9, .inl fun _ => 0)), (q28, .inl (cy 0, 9, .inl fun _ => 0)), (q36, .inl (cy 0, 9, .inl fun _ => 0))] := hD
  refine lv_aload_n hx hb dX0_init_41 rfl (lv_at hl 0 rfl) ?_
  refine lv_bipush (v := nI 100) hx hb dX0_init_42 (by decide) ?_
  refine rn_newa (atype := .int) (ty := .int) (k := 0) (N' := 100) (a0 := (100, .inl fun _ => 0)) hx hb (hts _ t1_84) rfl hK hP hD hS hA rfl (fun _ => rfl) (by decide) rfl (Nat.le_of_ble_eq_true rfl) (Nat.le_of_ble_eq_true rfl) (Nat.le_of_ble_eq_true rfl) dX0_init_44 (fun q44 H hP hD hS => ?_)
  have hP : va_P D vwCl [(h0, .inr (0, [.int 0, .int (nI 1), .ref q12, .ref q20, .ref q28, .ref q36, .null])), (q12, .inl (cy 0, 9, .inl fun _ => 0)), (q20, .inl (cy 0, 9, .inl fun _ => 0)), (q28, .inl (cy 0, 9, .inl fun _ => 0)), (q36, .inl (cy 0, 9, .inl fun _ => 0)), (q44, .inl (cy 0, 100, .inl fun _ => 0))] H := hP
  have hD : va_D A [(h0, .inr (0, [.int 0, .int (nI 1), .ref q12, .ref q20, .ref q28, .ref q36, .null])), (q12, .inl (cy 0, 9, .inl fun _ => 0)), (q20, .inl (cy 0, 9, .inl fun _ => 0)), (q28, .inl (cy 0, 9, .inl fun _ => 0)), (q36, .inl (cy 0, 9, .inl fun _ => 0)), (q44, .inl (cy 0, 100, .inl fun _ => 0))] := hD
  refine va_putF (D := D) (ci := 0) (v := .ref q44) (ty := .array .int) (C := RX0) (T := TX0) (N := 7) hx hb hts tf0 tyX0 tyX0_ok nmX0 hown hK hP hD hS 0 rfl rfl 6 (by decide) (hts _ t1_63) (fun _ h9 => h9) rfl hin rfl (by decide +kernel) rfl rfl (Nat.le_of_ble_eq_true rfl) dX0_init_46 (fun H locs hP hD hS => ?_)
  have hP : va_P D vwCl [(h0, .inr (0, [.int 0, .int (nI 1), .ref q12, .ref q20, .ref q28, .ref q36, .ref q44])), (q12, .inl (cy 0, 9, .inl fun _ => 0)), (q20, .inl (cy 0, 9, .inl fun _ => 0)), (q28, .inl (cy 0, 9, .inl fun _ => 0)), (q36, .inl (cy 0, 9, .inl fun _ => 0)), (q44, .inl (cy 0, 100, .inl fun _ => 0))] H := hP
  have hD : va_D A [(h0, .inr (0, [.int 0, .int (nI 1), .ref q12, .ref q20, .ref q28, .ref q36, .ref q44])), (q12, .inl (cy 0, 9, .inl fun _ => 0)), (q20, .inl (cy 0, 9, .inl fun _ => 0)), (q28, .inl (cy 0, 9, .inl fun _ => 0)), (q36, .inl (cy 0, 9, .inl fun _ => 0)), (q44, .inl (cy 0, 100, .inl fun _ => 0))] := hD
  exact W.vret hx hb hr (fun t ht hW => ⟨⟨(fun i => if i = 0 then q12 else if i = 1 then q20 else if i = 2 then q28 else if i = 3 then q36 else q44), rfl, trivial, by rw [ht]; exact hP, va_K.moved hW.alike hK, hD⟩, hS.F ht⟩) hS.2.2 dX0_init_49
/-! NEW: SewnYear$Life -/
def new1 (h0 : Nat) : va_W := [(h0, .inr (1, [.int 0, .null, .null]))]
def made1 (cy : Nat → ClassId) (h0 : Nat) (u : Nat → Nat) : va_W := [(h0, .inr (1, [.int 0, .ref (u 0), .ref (u 1)])), ((u 0), .inl (cy 0, 40, .inl fun _ => 0)), ((u 1), .inl (cy 0, 40, .inl fun _ => 0))]
set_option maxHeartbeats 4000000 in
set_option maxRecDepth 100000 in
theorem c_X1_init (l : Launch) (D : va_G) (cy : Nat → ClassId) (h0 sz : Nat) : Met l yX1_init (Cond.code yX1_init cX1_init 1 none :: Tb) ({ frames := 1, cells := 2, slots := 80, locals := 12 }) (va_Pc [.ref h0] (fun U => U.heap.size = sz ∧ va_P D vwCl (new1 h0) U.heap ∧ va_K D vwCl (tysE cy) U ∧ va_D (fun _ => True) (new1 h0))) (va_Qv (fun _ : Nat → Nat => True) (fun u t => va_P D vwCl (made1 cy h0 u) t.heap ∧ va_K D vwCl (tysE cy) t ∧ va_D (va_A (new1 h0) sz) (made1 cy h0 u)) (va_A (new1 h0) sz)) 2 80 (va_A (new1 h0) sz) := by
  refine Met.ofW (cc := cX1_init) (maxL := 1) (ret := none) (by decide) rfl ?_
  intro p e s m args below meth c s₁ B hml hv
  obtain ⟨rfl, hsz, hP, hK, hD0⟩ := hv
  have hx := B.exec
  have hb := B.bytes
  have hr := B.returns
  have hts : ∀ w ∈ Tb, w.before _ s = true := fun w hw => atoms_spec (ws := Cond.code yX1_init cX1_init 1 none :: Tb) B.pre w (List.mem_cons_of_mem _ hw)
  have hown : s.vm.findClass RX1 = some m.cls := findClass_of_methodNamed B.named
  have hin : meth.name = "<init>" := (name_of_methodNamed B.named B.method).1
  subst hsz
  have hD := hD0.self (sz := s.heap.size)
  generalize hAe : va_A (new1 h0) s.heap.size = A at hD ⊢
  have hA : ∀ q : Nat, s.heap.size ≤ q → A q := fun q h => by rw [← hAe]; exact Or.inr h
  have hS : va_S A s.heap s.heap [] := va_S.rf
  have hP : va_P D vwCl [(h0, .inr (1, [.int 0, .null, .null]))] s.heap := hP
  have hD : va_D A [(h0, .inr (1, [.int 0, .null, .null]))] := hD
  have hl := lv_entry ([.ref h0]) (n := 1) (Nat.le_of_ble_eq_true rfl)
  rw [lg_entry_eq]
  generalize (lg_sl ([.ref h0]) ++ List.replicate (1 - (lg_sl ([.ref h0])).length) Slot.unset).toArray = ls at hl ⊢
  have hl : lv_has ls 1 [(0, .ref h0)] := hl
  refine lv_aload_n hx hb dX1_init_0 rfl (lv_at hl 0 rfl) ?_
  refine W.objInit hx hb hown (hts _ t1_91) (hts _ t1_26) (hts _ t1_27) rfl (by rw [hml]; exact hl.1) rfl dX1_init_1 (Nat.le_of_ble_eq_true rfl) (Nat.le_of_ble_eq_true rfl) ?_
  refine W.eq (g2 := F0 m 4 ls []) rfl ?_
  refine lv_aload_n hx hb dX1_init_4 rfl (lv_at hl 0 rfl) ?_
  refine lv_bipush (v := nI 40) hx hb dX1_init_5 (by decide) ?_
  refine rn_newa (atype := .int) (ty := .int) (k := 0) (N' := 40) (a0 := (40, .inl fun _ => 0)) hx hb (hts _ t1_84) rfl hK hP hD hS hA rfl (fun _ => rfl) (by decide) rfl (Nat.le_of_ble_eq_true rfl) (Nat.le_of_ble_eq_true rfl) (Nat.le_of_ble_eq_true rfl) dX1_init_7 (fun q7 H hP hD hS => ?_)
  have hP : va_P D vwCl [(h0, .inr (1, [.int 0, .null, .null])), (q7, .inl (cy 0, 40, .inl fun _ => 0))] H := hP
  have hD : va_D A [(h0, .inr (1, [.int 0, .null, .null])), (q7, .inl (cy 0, 40, .inl fun _ => 0))] := hD
  refine va_putF (D := D) (ci := 1) (v := .ref q7) (ty := .array .int) (C := RX1) (T := TX1) (N := 3) hx hb hts tf1 tyX1 tyX1_ok nmX1 hown hK hP hD hS 0 rfl rfl 1 (by decide) (hts _ t1_96) (fun _ h9 => h9) rfl hin rfl (by decide +kernel) rfl rfl (Nat.le_of_ble_eq_true rfl) dX1_init_9 (fun H locs hP hD hS => ?_)
  have hP : va_P D vwCl [(h0, .inr (1, [.int 0, .ref q7, .null])), (q7, .inl (cy 0, 40, .inl fun _ => 0))] H := hP
  have hD : va_D A [(h0, .inr (1, [.int 0, .ref q7, .null])), (q7, .inl (cy 0, 40, .inl fun _ => 0))] := hD
  refine lv_aload_n hx hb dX1_init_12 rfl (lv_at hl 0 rfl) ?_
  refine lv_bipush (v := nI 40) hx hb dX1_init_13 (by decide) ?_
  refine rn_newa (atype := .int) (ty := .int) (k := 0) (N' := 40) (a0 := (40, .inl fun _ => 0)) hx hb (hts _ t1_84) rfl hK hP hD hS hA rfl (fun _ => rfl) (by decide) rfl (Nat.le_of_ble_eq_true rfl) (Nat.le_of_ble_eq_true rfl) (Nat.le_of_ble_eq_true rfl) dX1_init_15 (fun q15 H hP hD hS => ?_)
  have hP : va_P D vwCl [(h0, .inr (1, [.int 0, .ref q7, .null])), (q7, .inl (cy 0, 40, .inl fun _ => 0)), (q15, .inl (cy 0, 40, .inl fun _ => 0))] H := hP
  have hD : va_D A [(h0, .inr (1, [.int 0, .ref q7, .null])), (q7, .inl (cy 0, 40, .inl fun _ => 0)), (q15, .inl (cy 0, 40, .inl fun _ => 0))] := hD
  refine va_putF (D := D) (ci := 1) (v := .ref q15) (ty := .array .int) (C := RX1) (T := TX1) (N := 3) hx hb hts tf1 tyX1 tyX1_ok nmX1 hown hK hP hD hS 0 rfl rfl 2 (by decide) (hts _ t1_98) (fun _ h9 => h9) rfl hin rfl (by decide +kernel) rfl rfl (Nat.le_of_ble_eq_true rfl) dX1_init_17 (fun H locs hP hD hS => ?_)
  have hP : va_P D vwCl [(h0, .inr (1, [.int 0, .ref q7, .ref q15])), (q7, .inl (cy 0, 40, .inl fun _ => 0)), (q15, .inl (cy 0, 40, .inl fun _ => 0))] H := hP
  have hD : va_D A [(h0, .inr (1, [.int 0, .ref q7, .ref q15])), (q7, .inl (cy 0, 40, .inl fun _ => 0)), (q15, .inl (cy 0, 40, .inl fun _ => 0))] := hD
  exact W.vret hx hb hr (fun t ht hW => ⟨⟨(fun i => if i = 0 then q7 else q15), rfl, trivial, by rw [ht]; exact hP, va_K.moved hW.alike hK, hD⟩, hS.F ht⟩) hS.2.2 dX1_init_20
/-! NEW: SewnYear$Sight -/
def new4 (h0 : Nat) : va_W := [(h0, .inr (4, [.int 0, .null, .null, .null]))]
def made4 (cy : Nat → ClassId) (h0 : Nat) (u : Nat → Nat) : va_W := [(h0, .inr (4, [.int 0, .ref (u 0), .ref (u 1), .ref (u 2)])), ((u 0), .inl (cy 0, 10, .inl fun _ => 0)), ((u 1), .inl (cy 0, 10, .inl fun _ => 0)), ((u 2), .inl (cy 0, 10, .inl fun _ => 0))]
set_option maxHeartbeats 4000000 in
set_option maxRecDepth 100000 in
theorem c_X4_init (l : Launch) (D : va_G) (cy : Nat → ClassId) (h0 sz : Nat) : Met l yX4_init (Cond.code yX4_init cX4_init 1 none :: Tb) ({ frames := 1, cells := 3, slots := 30, locals := 12 }) (va_Pc [.ref h0] (fun U => U.heap.size = sz ∧ va_P D vwCl (new4 h0) U.heap ∧ va_K D vwCl (tysE cy) U ∧ va_D (fun _ => True) (new4 h0))) (va_Qv (fun _ : Nat → Nat => True) (fun u t => va_P D vwCl (made4 cy h0 u) t.heap ∧ va_K D vwCl (tysE cy) t ∧ va_D (va_A (new4 h0) sz) (made4 cy h0 u)) (va_A (new4 h0) sz)) 3 30 (va_A (new4 h0) sz) := by
  refine Met.ofW (cc := cX4_init) (maxL := 1) (ret := none) (by decide) rfl ?_
  intro p e s m args below meth c s₁ B hml hv
  obtain ⟨rfl, hsz, hP, hK, hD0⟩ := hv
  have hx := B.exec
  have hb := B.bytes
  have hr := B.returns
  have hts : ∀ w ∈ Tb, w.before _ s = true := fun w hw => atoms_spec (ws := Cond.code yX4_init cX4_init 1 none :: Tb) B.pre w (List.mem_cons_of_mem _ hw)
  have hown : s.vm.findClass RX4 = some m.cls := findClass_of_methodNamed B.named
  have hin : meth.name = "<init>" := (name_of_methodNamed B.named B.method).1
  subst hsz
  have hD := hD0.self (sz := s.heap.size)
  generalize hAe : va_A (new4 h0) s.heap.size = A at hD ⊢
  have hA : ∀ q : Nat, s.heap.size ≤ q → A q := fun q h => by rw [← hAe]; exact Or.inr h
  have hS : va_S A s.heap s.heap [] := va_S.rf
  have hP : va_P D vwCl [(h0, .inr (4, [.int 0, .null, .null, .null]))] s.heap := hP
  have hD : va_D A [(h0, .inr (4, [.int 0, .null, .null, .null]))] := hD
  have hl := lv_entry ([.ref h0]) (n := 1) (Nat.le_of_ble_eq_true rfl)
  rw [lg_entry_eq]
  generalize (lg_sl ([.ref h0]) ++ List.replicate (1 - (lg_sl ([.ref h0])).length) Slot.unset).toArray = ls at hl ⊢
  have hl : lv_has ls 1 [(0, .ref h0)] := hl
  refine lv_aload_n hx hb dX4_init_0 rfl (lv_at hl 0 rfl) ?_
  refine W.objInit hx hb hown (hts _ t1_170) (hts _ t1_26) (hts _ t1_27) rfl (by rw [hml]; exact hl.1) rfl dX4_init_1 (Nat.le_of_ble_eq_true rfl) (Nat.le_of_ble_eq_true rfl) ?_
  refine W.eq (g2 := F0 m 4 ls []) rfl ?_
  refine lv_aload_n hx hb dX4_init_4 rfl (lv_at hl 0 rfl) ?_
  refine lv_bipush (v := nI 10) hx hb dX4_init_5 (by decide) ?_
  refine rn_newa (atype := .int) (ty := .int) (k := 0) (N' := 10) (a0 := (10, .inl fun _ => 0)) hx hb (hts _ t1_84) rfl hK hP hD hS hA rfl (fun _ => rfl) (by decide) rfl (Nat.le_of_ble_eq_true rfl) (Nat.le_of_ble_eq_true rfl) (Nat.le_of_ble_eq_true rfl) dX4_init_7 (fun q7 H hP hD hS => ?_)
  have hP : va_P D vwCl [(h0, .inr (4, [.int 0, .null, .null, .null])), (q7, .inl (cy 0, 10, .inl fun _ => 0))] H := hP
  have hD : va_D A [(h0, .inr (4, [.int 0, .null, .null, .null])), (q7, .inl (cy 0, 10, .inl fun _ => 0))] := hD
  refine va_putF (D := D) (ci := 4) (v := .ref q7) (ty := .array .int) (C := RX4) (T := TX4) (N := 4) hx hb hts tf4 tyX4 tyX4_ok nmX4 hown hK hP hD hS 0 rfl rfl 1 (by decide) (hts _ t1_174) (fun _ h9 => h9) rfl hin rfl (by decide +kernel) rfl rfl (Nat.le_of_ble_eq_true rfl) dX4_init_9 (fun H locs hP hD hS => ?_)
  have hP : va_P D vwCl [(h0, .inr (4, [.int 0, .ref q7, .null, .null])), (q7, .inl (cy 0, 10, .inl fun _ => 0))] H := hP
  have hD : va_D A [(h0, .inr (4, [.int 0, .ref q7, .null, .null])), (q7, .inl (cy 0, 10, .inl fun _ => 0))] := hD
  refine lv_aload_n hx hb dX4_init_12 rfl (lv_at hl 0 rfl) ?_
  refine lv_bipush (v := nI 10) hx hb dX4_init_13 (by decide) ?_
  refine rn_newa (atype := .int) (ty := .int) (k := 0) (N' := 10) (a0 := (10, .inl fun _ => 0)) hx hb (hts _ t1_84) rfl hK hP hD hS hA rfl (fun _ => rfl) (by decide) rfl (Nat.le_of_ble_eq_true rfl) (Nat.le_of_ble_eq_true rfl) (Nat.le_of_ble_eq_true rfl) dX4_init_15 (fun q15 H hP hD hS => ?_)
  have hP : va_P D vwCl [(h0, .inr (4, [.int 0, .ref q7, .null, .null])), (q7, .inl (cy 0, 10, .inl fun _ => 0)), (q15, .inl (cy 0, 10, .inl fun _ => 0))] H := hP
  have hD : va_D A [(h0, .inr (4, [.int 0, .ref q7, .null, .null])), (q7, .inl (cy 0, 10, .inl fun _ => 0)), (q15, .inl (cy 0, 10, .inl fun _ => 0))] := hD
  refine va_putF (D := D) (ci := 4) (v := .ref q15) (ty := .array .int) (C := RX4) (T := TX4) (N := 4) hx hb hts tf4 tyX4 tyX4_ok nmX4 hown hK hP hD hS 0 rfl rfl 2 (by decide) (hts _ t1_176) (fun _ h9 => h9) rfl hin rfl (by decide +kernel) rfl rfl (Nat.le_of_ble_eq_true rfl) dX4_init_17 (fun H locs hP hD hS => ?_)
  have hP : va_P D vwCl [(h0, .inr (4, [.int 0, .ref q7, .ref q15, .null])), (q7, .inl (cy 0, 10, .inl fun _ => 0)), (q15, .inl (cy 0, 10, .inl fun _ => 0))] H := hP
  have hD : va_D A [(h0, .inr (4, [.int 0, .ref q7, .ref q15, .null])), (q7, .inl (cy 0, 10, .inl fun _ => 0)), (q15, .inl (cy 0, 10, .inl fun _ => 0))] := hD
  refine lv_aload_n hx hb dX4_init_20 rfl (lv_at hl 0 rfl) ?_
  refine lv_bipush (v := nI 10) hx hb dX4_init_21 (by decide) ?_
  refine rn_newa (atype := .int) (ty := .int) (k := 0) (N' := 10) (a0 := (10, .inl fun _ => 0)) hx hb (hts _ t1_84) rfl hK hP hD hS hA rfl (fun _ => rfl) (by decide) rfl (Nat.le_of_ble_eq_true rfl) (Nat.le_of_ble_eq_true rfl) (Nat.le_of_ble_eq_true rfl) dX4_init_23 (fun q23 H hP hD hS => ?_)
  have hP : va_P D vwCl [(h0, .inr (4, [.int 0, .ref q7, .ref q15, .null])), (q7, .inl (cy 0, 10, .inl fun _ => 0)), (q15, .inl (cy 0, 10, .inl fun _ => 0)), (q23, .inl (cy 0, 10, .inl fun _ => 0))] H := hP
  have hD : va_D A [(h0, .inr (4, [.int 0, .ref q7, .ref q15, .null])), (q7, .inl (cy 0, 10, .inl fun _ => 0)), (q15, .inl (cy 0, 10, .inl fun _ => 0)), (q23, .inl (cy 0, 10, .inl fun _ => 0))] := hD
  refine va_putF (D := D) (ci := 4) (v := .ref q23) (ty := .array .int) (C := RX4) (T := TX4) (N := 4) hx hb hts tf4 tyX4 tyX4_ok nmX4 hown hK hP hD hS 0 rfl rfl 3 (by decide) (hts _ t1_178) (fun _ h9 => h9) rfl hin rfl (by decide +kernel) rfl rfl (Nat.le_of_ble_eq_true rfl) dX4_init_25 (fun H locs hP hD hS => ?_)
  have hP : va_P D vwCl [(h0, .inr (4, [.int 0, .ref q7, .ref q15, .ref q23])), (q7, .inl (cy 0, 10, .inl fun _ => 0)), (q15, .inl (cy 0, 10, .inl fun _ => 0)), (q23, .inl (cy 0, 10, .inl fun _ => 0))] H := hP
  have hD : va_D A [(h0, .inr (4, [.int 0, .ref q7, .ref q15, .ref q23])), (q7, .inl (cy 0, 10, .inl fun _ => 0)), (q15, .inl (cy 0, 10, .inl fun _ => 0)), (q23, .inl (cy 0, 10, .inl fun _ => 0))] := hD
  exact W.vret hx hb hr (fun t ht hW => ⟨⟨(fun i => if i = 0 then q7 else if i = 1 then q15 else q23), rfl, trivial, by rw [ht]; exact hP, va_K.moved hW.alike hK, hD⟩, hS.F ht⟩) hS.2.2 dX4_init_28
/-! NEW: SewnYear$Town -/
def new6 (h0 : Nat) : va_W := [(h0, .inr (6, [.int 0, .int 0, .int 0, .int 0, .int 0, .null, .null, .null, .null, .null, .null]))]
def made6 (cy : Nat → ClassId) (h0 : Nat) (u : Nat → Nat) : va_W := [(h0, .inr (6, [.int 0, .int 0, .int (nI 3), .int (nI 2), .int 0, .ref (u 0), .ref (u 1), .ref (u 2), .ref (u 3), .ref (u 4), .ref (u 5)])), ((u 0), .inl (cy 0, 6, .inl fun _ => 0)), ((u 1), .inl (cy 0, 6, .inl fun _ => 0)), ((u 2), .inl (cy 0, 6, .inl fun _ => 0)), ((u 3), .inl (cy 0, 6, .inl fun _ => 0)), ((u 4), .inl (cy 0, 6, .inl fun _ => 0)), ((u 5), .inl (cy 0, 6, .inl fun _ => 0))]
set_option maxHeartbeats 4000000 in
set_option maxRecDepth 100000 in
theorem c_X6_init (l : Launch) (D : va_G) (cy : Nat → ClassId) (h0 sz : Nat) : Met l yX6_init (Cond.code yX6_init cX6_init 1 none :: Tb) ({ frames := 1, cells := 6, slots := 36, locals := 12 }) (va_Pc [.ref h0] (fun U => U.heap.size = sz ∧ va_P D vwCl (new6 h0) U.heap ∧ va_K D vwCl (tysE cy) U ∧ va_D (fun _ => True) (new6 h0))) (va_Qv (fun _ : Nat → Nat => True) (fun u t => va_P D vwCl (made6 cy h0 u) t.heap ∧ va_K D vwCl (tysE cy) t ∧ va_D (va_A (new6 h0) sz) (made6 cy h0 u)) (va_A (new6 h0) sz)) 6 36 (va_A (new6 h0) sz) := by
  refine Met.ofW (cc := cX6_init) (maxL := 1) (ret := none) (by decide) rfl ?_
  intro p e s m args below meth c s₁ B hml hv
  obtain ⟨rfl, hsz, hP, hK, hD0⟩ := hv
  have hx := B.exec
  have hb := B.bytes
  have hr := B.returns
  have hts : ∀ w ∈ Tb, w.before _ s = true := fun w hw => atoms_spec (ws := Cond.code yX6_init cX6_init 1 none :: Tb) B.pre w (List.mem_cons_of_mem _ hw)
  have hown : s.vm.findClass RX6 = some m.cls := findClass_of_methodNamed B.named
  have hin : meth.name = "<init>" := (name_of_methodNamed B.named B.method).1
  subst hsz
  have hD := hD0.self (sz := s.heap.size)
  generalize hAe : va_A (new6 h0) s.heap.size = A at hD ⊢
  have hA : ∀ q : Nat, s.heap.size ≤ q → A q := fun q h => by rw [← hAe]; exact Or.inr h
  have hS : va_S A s.heap s.heap [] := va_S.rf
  have hP : va_P D vwCl [(h0, .inr (6, [.int 0, .int 0, .int 0, .int 0, .int 0, .null, .null, .null, .null, .null, .null]))] s.heap := hP
  have hD : va_D A [(h0, .inr (6, [.int 0, .int 0, .int 0, .int 0, .int 0, .null, .null, .null, .null, .null, .null]))] := hD
  have hl := lv_entry ([.ref h0]) (n := 1) (Nat.le_of_ble_eq_true rfl)
  rw [lg_entry_eq]
  generalize (lg_sl ([.ref h0]) ++ List.replicate (1 - (lg_sl ([.ref h0])).length) Slot.unset).toArray = ls at hl ⊢
  have hl : lv_has ls 1 [(0, .ref h0)] := hl
  refine lv_aload_n hx hb dX6_init_0 rfl (lv_at hl 0 rfl) ?_
  refine W.objInit hx hb hown (hts _ t1_113) (hts _ t1_26) (hts _ t1_27) rfl (by rw [hml]; exact hl.1) rfl dX6_init_1 (Nat.le_of_ble_eq_true rfl) (Nat.le_of_ble_eq_true rfl) ?_
  refine W.eq (g2 := F0 m 4 ls []) rfl ?_
  refine lv_aload_n hx hb dX6_init_4 rfl (lv_at hl 0 rfl) ?_
  refine lv_iconst (v := nI 3) hx hb dX6_init_5 (by decide) ?_
  refine va_put (D := D) (ci := 6) (v := .int (nI 3)) (ty := .int) (C := RX6) (T := TX6) (N := 11) hx hb hts tf6 tyX6 tyX6_ok nmX6 hown hK hP hD hS 0 rfl rfl 2 (by decide) (hts _ t1_120) (fun _ h9 => h9) rfl (by decide +kernel) rfl rfl (Nat.le_of_ble_eq_true rfl) dX6_init_6 (fun H locs hP hD hS => ?_)
  have hP : va_P D vwCl [(h0, .inr (6, [.int 0, .int 0, .int (nI 3), .int 0, .int 0, .null, .null, .null, .null, .null, .null]))] H := hP
  have hD : va_D A [(h0, .inr (6, [.int 0, .int 0, .int (nI 3), .int 0, .int 0, .null, .null, .null, .null, .null, .null]))] := hD
  refine lv_aload_n hx hb dX6_init_9 rfl (lv_at hl 0 rfl) ?_
  refine lv_iconst (v := nI 2) hx hb dX6_init_10 (by decide) ?_
  refine va_put (D := D) (ci := 6) (v := .int (nI 2)) (ty := .int) (C := RX6) (T := TX6) (N := 11) hx hb hts tf6 tyX6 tyX6_ok nmX6 hown hK hP hD hS 0 rfl rfl 3 (by decide) (hts _ t1_122) (fun _ h9 => h9) rfl (by decide +kernel) rfl rfl (Nat.le_of_ble_eq_true rfl) dX6_init_11 (fun H locs hP hD hS => ?_)
  have hP : va_P D vwCl [(h0, .inr (6, [.int 0, .int 0, .int (nI 3), .int (nI 2), .int 0, .null, .null, .null, .null, .null, .null]))] H := hP
  have hD : va_D A [(h0, .inr (6, [.int 0, .int 0, .int (nI 3), .int (nI 2), .int 0, .null, .null, .null, .null, .null, .null]))] := hD
  refine lv_aload_n hx hb dX6_init_14 rfl (lv_at hl 0 rfl) ?_
  refine lv_bipush (v := nI 6) hx hb dX6_init_15 (by decide) ?_
  refine rn_newa (atype := .int) (ty := .int) (k := 0) (N' := 6) (a0 := (6, .inl fun _ => 0)) hx hb (hts _ t1_84) rfl hK hP hD hS hA rfl (fun _ => rfl) (by decide) rfl (Nat.le_of_ble_eq_true rfl) (Nat.le_of_ble_eq_true rfl) (Nat.le_of_ble_eq_true rfl) dX6_init_17 (fun q17 H hP hD hS => ?_)
  have hP : va_P D vwCl [(h0, .inr (6, [.int 0, .int 0, .int (nI 3), .int (nI 2), .int 0, .null, .null, .null, .null, .null, .null])), (q17, .inl (cy 0, 6, .inl fun _ => 0))] H := hP
  have hD : va_D A [(h0, .inr (6, [.int 0, .int 0, .int (nI 3), .int (nI 2), .int 0, .null, .null, .null, .null, .null, .null])), (q17, .inl (cy 0, 6, .inl fun _ => 0))] := hD
  refine va_putF (D := D) (ci := 6) (v := .ref q17) (ty := .array .int) (C := RX6) (T := TX6) (N := 11) hx hb hts tf6 tyX6 tyX6_ok nmX6 hown hK hP hD hS 0 rfl rfl 5 (by decide) (hts _ t1_128) (fun _ h9 => h9) rfl hin rfl (by decide +kernel) rfl rfl (Nat.le_of_ble_eq_true rfl) dX6_init_19 (fun H locs hP hD hS => ?_)
  have hP : va_P D vwCl [(h0, .inr (6, [.int 0, .int 0, .int (nI 3), .int (nI 2), .int 0, .ref q17, .null, .null, .null, .null, .null])), (q17, .inl (cy 0, 6, .inl fun _ => 0))] H := hP
  have hD : va_D A [(h0, .inr (6, [.int 0, .int 0, .int (nI 3), .int (nI 2), .int 0, .ref q17, .null, .null, .null, .null, .null])), (q17, .inl (cy 0, 6, .inl fun _ => 0))] := hD
  refine lv_aload_n hx hb dX6_init_22 rfl (lv_at hl 0 rfl) ?_
  refine lv_bipush (v := nI 6) hx hb dX6_init_23 (by decide) ?_
  refine rn_newa (atype := .int) (ty := .int) (k := 0) (N' := 6) (a0 := (6, .inl fun _ => 0)) hx hb (hts _ t1_84) rfl hK hP hD hS hA rfl (fun _ => rfl) (by decide) rfl (Nat.le_of_ble_eq_true rfl) (Nat.le_of_ble_eq_true rfl) (Nat.le_of_ble_eq_true rfl) dX6_init_25 (fun q25 H hP hD hS => ?_)
  have hP : va_P D vwCl [(h0, .inr (6, [.int 0, .int 0, .int (nI 3), .int (nI 2), .int 0, .ref q17, .null, .null, .null, .null, .null])), (q17, .inl (cy 0, 6, .inl fun _ => 0)), (q25, .inl (cy 0, 6, .inl fun _ => 0))] H := hP
  have hD : va_D A [(h0, .inr (6, [.int 0, .int 0, .int (nI 3), .int (nI 2), .int 0, .ref q17, .null, .null, .null, .null, .null])), (q17, .inl (cy 0, 6, .inl fun _ => 0)), (q25, .inl (cy 0, 6, .inl fun _ => 0))] := hD
  refine va_putF (D := D) (ci := 6) (v := .ref q25) (ty := .array .int) (C := RX6) (T := TX6) (N := 11) hx hb hts tf6 tyX6 tyX6_ok nmX6 hown hK hP hD hS 0 rfl rfl 6 (by decide) (hts _ t1_131) (fun _ h9 => h9) rfl hin rfl (by decide +kernel) rfl rfl (Nat.le_of_ble_eq_true rfl) dX6_init_27 (fun H locs hP hD hS => ?_)
  have hP : va_P D vwCl [(h0, .inr (6, [.int 0, .int 0, .int (nI 3), .int (nI 2), .int 0, .ref q17, .ref q25, .null, .null, .null, .null])), (q17, .inl (cy 0, 6, .inl fun _ => 0)), (q25, .inl (cy 0, 6, .inl fun _ => 0))] H := hP
  have hD : va_D A [(h0, .inr (6, [.int 0, .int 0, .int (nI 3), .int (nI 2), .int 0, .ref q17, .ref q25, .null, .null, .null, .null])), (q17, .inl (cy 0, 6, .inl fun _ => 0)), (q25, .inl (cy 0, 6, .inl fun _ => 0))] := hD
  refine lv_aload_n hx hb dX6_init_30 rfl (lv_at hl 0 rfl) ?_
  refine lv_bipush (v := nI 6) hx hb dX6_init_31 (by decide) ?_
  refine rn_newa (atype := .int) (ty := .int) (k := 0) (N' := 6) (a0 := (6, .inl fun _ => 0)) hx hb (hts _ t1_84) rfl hK hP hD hS hA rfl (fun _ => rfl) (by decide) rfl (Nat.le_of_ble_eq_true rfl) (Nat.le_of_ble_eq_true rfl) (Nat.le_of_ble_eq_true rfl) dX6_init_33 (fun q33 H hP hD hS => ?_)
  have hP : va_P D vwCl [(h0, .inr (6, [.int 0, .int 0, .int (nI 3), .int (nI 2), .int 0, .ref q17, .ref q25, .null, .null, .null, .null])), (q17, .inl (cy 0, 6, .inl fun _ => 0)), (q25, .inl (cy 0, 6, .inl fun _ => 0)), (q33, .inl (cy 0, 6, .inl fun _ => 0))] H := hP
  have hD : va_D A [(h0, .inr (6, [.int 0, .int 0, .int (nI 3), .int (nI 2), .int 0, .ref q17, .ref q25, .null, .null, .null, .null])), (q17, .inl (cy 0, 6, .inl fun _ => 0)), (q25, .inl (cy 0, 6, .inl fun _ => 0)), (q33, .inl (cy 0, 6, .inl fun _ => 0))] := hD
  refine va_putF (D := D) (ci := 6) (v := .ref q33) (ty := .array .int) (C := RX6) (T := TX6) (N := 11) hx hb hts tf6 tyX6 tyX6_ok nmX6 hown hK hP hD hS 0 rfl rfl 7 (by decide) (hts _ t1_134) (fun _ h9 => h9) rfl hin rfl (by decide +kernel) rfl rfl (Nat.le_of_ble_eq_true rfl) dX6_init_35 (fun H locs hP hD hS => ?_)
  have hP : va_P D vwCl [(h0, .inr (6, [.int 0, .int 0, .int (nI 3), .int (nI 2), .int 0, .ref q17, .ref q25, .ref q33, .null, .null, .null])), (q17, .inl (cy 0, 6, .inl fun _ => 0)), (q25, .inl (cy 0, 6, .inl fun _ => 0)), (q33, .inl (cy 0, 6, .inl fun _ => 0))] H := hP
  have hD : va_D A [(h0, .inr (6, [.int 0, .int 0, .int (nI 3), .int (nI 2), .int 0, .ref q17, .ref q25, .ref q33, .null, .null, .null])), (q17, .inl (cy 0, 6, .inl fun _ => 0)), (q25, .inl (cy 0, 6, .inl fun _ => 0)), (q33, .inl (cy 0, 6, .inl fun _ => 0))] := hD
  refine lv_aload_n hx hb dX6_init_38 rfl (lv_at hl 0 rfl) ?_
  refine lv_bipush (v := nI 6) hx hb dX6_init_39 (by decide) ?_
  refine rn_newa (atype := .int) (ty := .int) (k := 0) (N' := 6) (a0 := (6, .inl fun _ => 0)) hx hb (hts _ t1_84) rfl hK hP hD hS hA rfl (fun _ => rfl) (by decide) rfl (Nat.le_of_ble_eq_true rfl) (Nat.le_of_ble_eq_true rfl) (Nat.le_of_ble_eq_true rfl) dX6_init_41 (fun q41 H hP hD hS => ?_)
  have hP : va_P D vwCl [(h0, .inr (6, [.int 0, .int 0, .int (nI 3), .int (nI 2), .int 0, .ref q17, .ref q25, .ref q33, .null, .null, .null])), (q17, .inl (cy 0, 6, .inl fun _ => 0)), (q25, .inl (cy 0, 6, .inl fun _ => 0)), (q33, .inl (cy 0, 6, .inl fun _ => 0)), (q41, .inl (cy 0, 6, .inl fun _ => 0))] H := hP
  have hD : va_D A [(h0, .inr (6, [.int 0, .int 0, .int (nI 3), .int (nI 2), .int 0, .ref q17, .ref q25, .ref q33, .null, .null, .null])), (q17, .inl (cy 0, 6, .inl fun _ => 0)), (q25, .inl (cy 0, 6, .inl fun _ => 0)), (q33, .inl (cy 0, 6, .inl fun _ => 0)), (q41, .inl (cy 0, 6, .inl fun _ => 0))] := hD
  refine va_putF (D := D) (ci := 6) (v := .ref q41) (ty := .array .int) (C := RX6) (T := TX6) (N := 11) hx hb hts tf6 tyX6 tyX6_ok nmX6 hown hK hP hD hS 0 rfl rfl 8 (by decide) (hts _ t1_135) (fun _ h9 => h9) rfl hin rfl (by decide +kernel) rfl rfl (Nat.le_of_ble_eq_true rfl) dX6_init_43 (fun H locs hP hD hS => ?_)
  have hP : va_P D vwCl [(h0, .inr (6, [.int 0, .int 0, .int (nI 3), .int (nI 2), .int 0, .ref q17, .ref q25, .ref q33, .ref q41, .null, .null])), (q17, .inl (cy 0, 6, .inl fun _ => 0)), (q25, .inl (cy 0, 6, .inl fun _ => 0)), (q33, .inl (cy 0, 6, .inl fun _ => 0)), (q41, .inl (cy 0, 6, .inl fun _ => 0))] H := hP
  have hD : va_D A [(h0, .inr (6, [.int 0, .int 0, .int (nI 3), .int (nI 2), .int 0, .ref q17, .ref q25, .ref q33, .ref q41, .null, .null])), (q17, .inl (cy 0, 6, .inl fun _ => 0)), (q25, .inl (cy 0, 6, .inl fun _ => 0)), (q33, .inl (cy 0, 6, .inl fun _ => 0)), (q41, .inl (cy 0, 6, .inl fun _ => 0))] := hD
  refine lv_aload_n hx hb dX6_init_46 rfl (lv_at hl 0 rfl) ?_
  refine lv_bipush (v := nI 6) hx hb dX6_init_47 (by decide) ?_
  refine rn_newa (atype := .int) (ty := .int) (k := 0) (N' := 6) (a0 := (6, .inl fun _ => 0)) hx hb (hts _ t1_84) rfl hK hP hD hS hA rfl (fun _ => rfl) (by decide) rfl (Nat.le_of_ble_eq_true rfl) (Nat.le_of_ble_eq_true rfl) (Nat.le_of_ble_eq_true rfl) dX6_init_49 (fun q49 H hP hD hS => ?_)
  have hP : va_P D vwCl [(h0, .inr (6, [.int 0, .int 0, .int (nI 3), .int (nI 2), .int 0, .ref q17, .ref q25, .ref q33, .ref q41, .null, .null])), (q17, .inl (cy 0, 6, .inl fun _ => 0)), (q25, .inl (cy 0, 6, .inl fun _ => 0)), (q33, .inl (cy 0, 6, .inl fun _ => 0)), (q41, .inl (cy 0, 6, .inl fun _ => 0)), (q49, .inl (cy 0, 6, .inl fun _ => 0))] H := hP
  have hD : va_D A [(h0, .inr (6, [.int 0, .int 0, .int (nI 3), .int (nI 2), .int 0, .ref q17, .ref q25, .ref q33, .ref q41, .null, .null])), (q17, .inl (cy 0, 6, .inl fun _ => 0)), (q25, .inl (cy 0, 6, .inl fun _ => 0)), (q33, .inl (cy 0, 6, .inl fun _ => 0)), (q41, .inl (cy 0, 6, .inl fun _ => 0)), (q49, .inl (cy 0, 6, .inl fun _ => 0))] := hD
  refine va_putF (D := D) (ci := 6) (v := .ref q49) (ty := .array .int) (C := RX6) (T := TX6) (N := 11) hx hb hts tf6 tyX6 tyX6_ok nmX6 hown hK hP hD hS 0 rfl rfl 9 (by decide) (hts _ t1_137) (fun _ h9 => h9) rfl hin rfl (by decide +kernel) rfl rfl (Nat.le_of_ble_eq_true rfl) dX6_init_51 (fun H locs hP hD hS => ?_)
  have hP : va_P D vwCl [(h0, .inr (6, [.int 0, .int 0, .int (nI 3), .int (nI 2), .int 0, .ref q17, .ref q25, .ref q33, .ref q41, .ref q49, .null])), (q17, .inl (cy 0, 6, .inl fun _ => 0)), (q25, .inl (cy 0, 6, .inl fun _ => 0)), (q33, .inl (cy 0, 6, .inl fun _ => 0)), (q41, .inl (cy 0, 6, .inl fun _ => 0)), (q49, .inl (cy 0, 6, .inl fun _ => 0))] H := hP
  have hD : va_D A [(h0, .inr (6, [.int 0, .int 0, .int (nI 3), .int (nI 2), .int 0, .ref q17, .ref q25, .ref q33, .ref q41, .ref q49, .null])), (q17, .inl (cy 0, 6, .inl fun _ => 0)), (q25, .inl (cy 0, 6, .inl fun _ => 0)), (q33, .inl (cy 0, 6, .inl fun _ => 0)), (q41, .inl (cy 0, 6, .inl fun _ => 0)), (q49, .inl (cy 0, 6, .inl fun _ => 0))] := hD
  refine lv_aload_n hx hb dX6_init_54 rfl (lv_at hl 0 rfl) ?_
  refine lv_bipush (v := nI 6) hx hb dX6_init_55 (by decide) ?_
  refine rn_newa (atype := .int) (ty := .int) (k := 0) (N' := 6) (a0 := (6, .inl fun _ => 0)) hx hb (hts _ t1_84) rfl hK hP hD hS hA rfl (fun _ => rfl) (by decide) rfl (Nat.le_of_ble_eq_true rfl) (Nat.le_of_ble_eq_true rfl) (Nat.le_of_ble_eq_true rfl) dX6_init_57 (fun q57 H hP hD hS => ?_)
  have hP : va_P D vwCl [(h0, .inr (6, [.int 0, .int 0, .int (nI 3), .int (nI 2), .int 0, .ref q17, .ref q25, .ref q33, .ref q41, .ref q49, .null])), (q17, .inl (cy 0, 6, .inl fun _ => 0)), (q25, .inl (cy 0, 6, .inl fun _ => 0)), (q33, .inl (cy 0, 6, .inl fun _ => 0)), (q41, .inl (cy 0, 6, .inl fun _ => 0)), (q49, .inl (cy 0, 6, .inl fun _ => 0)), (q57, .inl (cy 0, 6, .inl fun _ => 0))] H := hP
  have hD : va_D A [(h0, .inr (6, [.int 0, .int 0, .int (nI 3), .int (nI 2), .int 0, .ref q17, .ref q25, .ref q33, .ref q41, .ref q49, .null])), (q17, .inl (cy 0, 6, .inl fun _ => 0)), (q25, .inl (cy 0, 6, .inl fun _ => 0)), (q33, .inl (cy 0, 6, .inl fun _ => 0)), (q41, .inl (cy 0, 6, .inl fun _ => 0)), (q49, .inl (cy 0, 6, .inl fun _ => 0)), (q57, .inl (cy 0, 6, .inl fun _ => 0))] := hD
  refine va_putF (D := D) (ci := 6) (v := .ref q57) (ty := .array .int) (C := RX6) (T := TX6) (N := 11) hx hb hts tf6 tyX6 tyX6_ok nmX6 hown hK hP hD hS 0 rfl rfl 10 (by decide) (hts _ t1_139) (fun _ h9 => h9) rfl hin rfl (by decide +kernel) rfl rfl (Nat.le_of_ble_eq_true rfl) dX6_init_59 (fun H locs hP hD hS => ?_)
  have hP : va_P D vwCl [(h0, .inr (6, [.int 0, .int 0, .int (nI 3), .int (nI 2), .int 0, .ref q17, .ref q25, .ref q33, .ref q41, .ref q49, .ref q57])), (q17, .inl (cy 0, 6, .inl fun _ => 0)), (q25, .inl (cy 0, 6, .inl fun _ => 0)), (q33, .inl (cy 0, 6, .inl fun _ => 0)), (q41, .inl (cy 0, 6, .inl fun _ => 0)), (q49, .inl (cy 0, 6, .inl fun _ => 0)), (q57, .inl (cy 0, 6, .inl fun _ => 0))] H := hP
  have hD : va_D A [(h0, .inr (6, [.int 0, .int 0, .int (nI 3), .int (nI 2), .int 0, .ref q17, .ref q25, .ref q33, .ref q41, .ref q49, .ref q57])), (q17, .inl (cy 0, 6, .inl fun _ => 0)), (q25, .inl (cy 0, 6, .inl fun _ => 0)), (q33, .inl (cy 0, 6, .inl fun _ => 0)), (q41, .inl (cy 0, 6, .inl fun _ => 0)), (q49, .inl (cy 0, 6, .inl fun _ => 0)), (q57, .inl (cy 0, 6, .inl fun _ => 0))] := hD
  exact W.vret hx hb hr (fun t ht hW => ⟨⟨(fun i => if i = 0 then q17 else if i = 1 then q25 else if i = 2 then q33 else if i = 3 then q41 else if i = 4 then q49 else q57), rfl, trivial, by rw [ht]; exact hP, va_K.moved hW.alike hK, hD⟩, hS.F ht⟩) hS.2.2 dX6_init_62
