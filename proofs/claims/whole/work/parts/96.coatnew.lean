/-! NEW: a COAT -/
def newC (h0 : Nat) : va_W := [(h0, .inr (0, [.int 0, .int 0, .null, .null, .null, .null, .null]))]
def arZ (cy : Nat → ClassId) (n : Nat) : va_E := .inl (cy 0, n, .inl fun _ => 0)
def madeC (cy : Nat → ClassId) (h0 : Nat) (u : Nat → Nat) : va_W := [(h0, .inr (0, [.int 0, .int 1, .ref (u 0), .ref (u 1), .ref (u 2), .ref (u 3), .ref (u 4)])), (u 0, arZ cy 9), (u 1, arZ cy 9), (u 2, arZ cy 9), (u 3, arZ cy 9), (u 4, arZ cy 100)]
set_option maxHeartbeats 4000000 in
set_option maxRecDepth 100000 in
theorem c_X0_init (l : Launch) (D : va_G) (cy : Nat → ClassId) (h0 sz : Nat) : Met l yX0_init (Cond.code yX0_init cX0_init 1 none :: Tb) ({ frames := 1, cells := 5, slots := 136, locals := 12 }) (va_Pc [.ref h0] (fun U => U.heap.size = sz ∧ va_P D vwCl (newC h0) U.heap ∧ va_K D vwCl (tysE cy) U ∧ va_D (fun _ => True) (newC h0))) (va_Qv (fun _ : Nat → Nat => True) (fun u t => va_P D vwCl (madeC cy h0 u) t.heap ∧ va_K D vwCl (tysE cy) t ∧ va_D (va_A (newC h0) sz) (madeC cy h0 u)) (va_A (newC h0) sz)) 5 136 (va_A (newC h0) sz) := by
  refine Met.ofW (cc := cX0_init) (maxL := 1) (ret := none) (by decide) rfl ?_
  intro p e s m args below meth c s₁ B hml hv
  obtain ⟨rfl, hsz, hP, hK, hD0⟩ := hv
  have hx := B.exec
  have hb := B.bytes
  have hr := B.returns
  have hts : ∀ w ∈ Tb, w.before _ s = true := fun w hw => atoms_spec (ws := Cond.code yX0_init cX0_init 1 none :: Tb) B.pre w (List.mem_cons_of_mem _ hw)
  have hown : s.vm.findClass RX0 = some m.cls := findClass_of_methodNamed B.named
  have hlocks := B.notSynchronized
  have hin : meth.name = "<init>" := (name_of_methodNamed B.named B.method).1
  subst hsz
  have hD := hD0.self (sz := s.heap.size)
  generalize hAe : va_A (newC h0) s.heap.size = A at hD ⊢
  have hA : ∀ q : Nat, s.heap.size ≤ q → A q := fun q h => by rw [← hAe]; exact Or.inr h
  have hS : va_S A s.heap s.heap [] := va_S.rf
  have hP : va_P D vwCl [(h0, .inr (0, [.int 0, .int 0, .null, .null, .null, .null, .null]))] s.heap := hP
  have hD : va_D A [(h0, .inr (0, [.int 0, .int 0, .null, .null, .null, .null, .null]))] := hD
  have hl := lv_entry ([.ref h0]) (n := 1) (Nat.le_of_ble_eq_true rfl)
  rw [lg_entry_eq]
  generalize (lg_sl ([.ref h0]) ++ List.replicate (1 - (lg_sl ([.ref h0])).length) Slot.unset).toArray = ls at hl ⊢
  have hl : lv_has ls 1 [(0, .ref h0)] := hl
  refine lv_aload_n hx hb dX0_init_0 rfl (lv_at hl 0 rfl) ?_
  refine W.objInit hx hb hown (hts _ t1_40) (hts _ t1_26) (hts _ t1_27) rfl (by rw [hml]; exact hl.1) rfl dX0_init_1 (Nat.le_of_ble_eq_true rfl) (Nat.le_of_ble_eq_true rfl) ?_
  refine W.eq (g2 := F0 m 4 ls []) rfl ?_
  refine lv_aload_n hx hb dX0_init_4 rfl (lv_at hl 0 rfl) ?_
  refine lv_iconst (v := nI 1) hx hb dX0_init_5 (by decide) ?_
  refine va_put (D := D) (ci := 0) (v := .int (nI 1)) (ty := .int) (C := RX0) (T := TX0) (N := 7) hx hb hts tf0 tyX0 tyX0_ok nmX0 hown hK hP hD hS 0 rfl rfl 1 (by decide) (hts _ t1_46) (fun _ h9 => h9) rfl (by decide +kernel) rfl rfl (Nat.le_of_ble_eq_true rfl) dX0_init_6 (fun H locs hP hD hS => ?_)
  have hP : va_P D vwCl [(h0, .inr (0, [.int 0, .int 1, .null, .null, .null, .null, .null]))] H := hP
  have hD : va_D A [(h0, .inr (0, [.int 0, .int 1, .null, .null, .null, .null, .null]))] := hD
  refine lv_aload_n hx hb dX0_init_9 rfl (lv_at hl 0 rfl) ?_
  refine lv_bipush (v := nI 9) hx hb dX0_init_10 (by decide) ?_
  refine rn_newa (atype := .int) (ty := .int) (k := 0) (N' := 9) (a0 := (9, .inl fun _ => 0)) hx hb (hts _ t1_84) rfl hK hP hD hS hA rfl (fun _ => rfl) (by decide) rfl (Nat.le_of_ble_eq_true rfl) (Nat.le_of_ble_eq_true rfl) (Nat.le_of_ble_eq_true rfl) dX0_init_12 (fun q12 H hP hD hS => ?_)
  have hP : va_P D vwCl [(h0, .inr (0, [.int 0, .int 1, .null, .null, .null, .null, .null])), (q12, arZ cy 9)] H := hP
  have hD : va_D A [(h0, .inr (0, [.int 0, .int 1, .null, .null, .null, .null, .null])), (q12, arZ cy 9)] := hD
  refine va_putF (D := D) (ci := 0) (v := .ref q12) (ty := .array .int) (C := RX0) (T := TX0) (N := 7) hx hb hts tf0 tyX0 tyX0_ok nmX0 hown hK hP hD hS 0 rfl rfl 2 (by decide) (hts _ t1_51) (fun _ h9 => h9) rfl hin rfl (by decide +kernel) rfl rfl (Nat.le_of_ble_eq_true rfl) dX0_init_14 (fun H locs hP hD hS => ?_)
  have hP : va_P D vwCl [(h0, .inr (0, [.int 0, .int 1, .ref q12, .null, .null, .null, .null])), (q12, arZ cy 9)] H := hP
  have hD : va_D A [(h0, .inr (0, [.int 0, .int 1, .ref q12, .null, .null, .null, .null])), (q12, arZ cy 9)] := hD
  refine lv_aload_n hx hb dX0_init_17 rfl (lv_at hl 0 rfl) ?_
  refine lv_bipush (v := nI 9) hx hb dX0_init_18 (by decide) ?_
  refine rn_newa (atype := .int) (ty := .int) (k := 0) (N' := 9) (a0 := (9, .inl fun _ => 0)) hx hb (hts _ t1_84) rfl hK hP hD hS hA rfl (fun _ => rfl) (by decide) rfl (Nat.le_of_ble_eq_true rfl) (Nat.le_of_ble_eq_true rfl) (Nat.le_of_ble_eq_true rfl) dX0_init_20 (fun q20 H hP hD hS => ?_)
  have hP : va_P D vwCl [(h0, .inr (0, [.int 0, .int 1, .ref q12, .null, .null, .null, .null])), (q12, arZ cy 9), (q20, arZ cy 9)] H := hP
  have hD : va_D A [(h0, .inr (0, [.int 0, .int 1, .ref q12, .null, .null, .null, .null])), (q12, arZ cy 9), (q20, arZ cy 9)] := hD
  refine va_putF (D := D) (ci := 0) (v := .ref q20) (ty := .array .int) (C := RX0) (T := TX0) (N := 7) hx hb hts tf0 tyX0 tyX0_ok nmX0 hown hK hP hD hS 0 rfl rfl 3 (by decide) (hts _ t1_54) (fun _ h9 => h9) rfl hin rfl (by decide +kernel) rfl rfl (Nat.le_of_ble_eq_true rfl) dX0_init_22 (fun H locs hP hD hS => ?_)
  have hP : va_P D vwCl [(h0, .inr (0, [.int 0, .int 1, .ref q12, .ref q20, .null, .null, .null])), (q12, arZ cy 9), (q20, arZ cy 9)] H := hP
  have hD : va_D A [(h0, .inr (0, [.int 0, .int 1, .ref q12, .ref q20, .null, .null, .null])), (q12, arZ cy 9), (q20, arZ cy 9)] := hD
  refine lv_aload_n hx hb dX0_init_25 rfl (lv_at hl 0 rfl) ?_
  refine lv_bipush (v := nI 9) hx hb dX0_init_26 (by decide) ?_
  refine rn_newa (atype := .int) (ty := .int) (k := 0) (N' := 9) (a0 := (9, .inl fun _ => 0)) hx hb (hts _ t1_84) rfl hK hP hD hS hA rfl (fun _ => rfl) (by decide) rfl (Nat.le_of_ble_eq_true rfl) (Nat.le_of_ble_eq_true rfl) (Nat.le_of_ble_eq_true rfl) dX0_init_28 (fun q28 H hP hD hS => ?_)
  have hP : va_P D vwCl [(h0, .inr (0, [.int 0, .int 1, .ref q12, .ref q20, .null, .null, .null])), (q12, arZ cy 9), (q20, arZ cy 9), (q28, arZ cy 9)] H := hP
  have hD : va_D A [(h0, .inr (0, [.int 0, .int 1, .ref q12, .ref q20, .null, .null, .null])), (q12, arZ cy 9), (q20, arZ cy 9), (q28, arZ cy 9)] := hD
  refine va_putF (D := D) (ci := 0) (v := .ref q28) (ty := .array .int) (C := RX0) (T := TX0) (N := 7) hx hb hts tf0 tyX0 tyX0_ok nmX0 hown hK hP hD hS 0 rfl rfl 4 (by decide) (hts _ t1_56) (fun _ h9 => h9) rfl hin rfl (by decide +kernel) rfl rfl (Nat.le_of_ble_eq_true rfl) dX0_init_30 (fun H locs hP hD hS => ?_)
  have hP : va_P D vwCl [(h0, .inr (0, [.int 0, .int 1, .ref q12, .ref q20, .ref q28, .null, .null])), (q12, arZ cy 9), (q20, arZ cy 9), (q28, arZ cy 9)] H := hP
  have hD : va_D A [(h0, .inr (0, [.int 0, .int 1, .ref q12, .ref q20, .ref q28, .null, .null])), (q12, arZ cy 9), (q20, arZ cy 9), (q28, arZ cy 9)] := hD
  refine lv_aload_n hx hb dX0_init_33 rfl (lv_at hl 0 rfl) ?_
  refine lv_bipush (v := nI 9) hx hb dX0_init_34 (by decide) ?_
  refine rn_newa (atype := .int) (ty := .int) (k := 0) (N' := 9) (a0 := (9, .inl fun _ => 0)) hx hb (hts _ t1_84) rfl hK hP hD hS hA rfl (fun _ => rfl) (by decide) rfl (Nat.le_of_ble_eq_true rfl) (Nat.le_of_ble_eq_true rfl) (Nat.le_of_ble_eq_true rfl) dX0_init_36 (fun q36 H hP hD hS => ?_)
  have hP : va_P D vwCl [(h0, .inr (0, [.int 0, .int 1, .ref q12, .ref q20, .ref q28, .null, .null])), (q12, arZ cy 9), (q20, arZ cy 9), (q28, arZ cy 9), (q36, arZ cy 9)] H := hP
  have hD : va_D A [(h0, .inr (0, [.int 0, .int 1, .ref q12, .ref q20, .ref q28, .null, .null])), (q12, arZ cy 9), (q20, arZ cy 9), (q28, arZ cy 9), (q36, arZ cy 9)] := hD
  refine va_putF (D := D) (ci := 0) (v := .ref q36) (ty := .array .int) (C := RX0) (T := TX0) (N := 7) hx hb hts tf0 tyX0 tyX0_ok nmX0 hown hK hP hD hS 0 rfl rfl 5 (by decide) (hts _ t1_59) (fun _ h9 => h9) rfl hin rfl (by decide +kernel) rfl rfl (Nat.le_of_ble_eq_true rfl) dX0_init_38 (fun H locs hP hD hS => ?_)
  have hP : va_P D vwCl [(h0, .inr (0, [.int 0, .int 1, .ref q12, .ref q20, .ref q28, .ref q36, .null])), (q12, arZ cy 9), (q20, arZ cy 9), (q28, arZ cy 9), (q36, arZ cy 9)] H := hP
  have hD : va_D A [(h0, .inr (0, [.int 0, .int 1, .ref q12, .ref q20, .ref q28, .ref q36, .null])), (q12, arZ cy 9), (q20, arZ cy 9), (q28, arZ cy 9), (q36, arZ cy 9)] := hD
  refine lv_aload_n hx hb dX0_init_41 rfl (lv_at hl 0 rfl) ?_
  refine lv_bipush (v := nI 100) hx hb dX0_init_42 (by decide) ?_
  refine rn_newa (atype := .int) (ty := .int) (k := 0) (N' := 100) (a0 := (100, .inl fun _ => 0)) hx hb (hts _ t1_84) rfl hK hP hD hS hA rfl (fun _ => rfl) (by decide) rfl (Nat.le_of_ble_eq_true rfl) (Nat.le_of_ble_eq_true rfl) (Nat.le_of_ble_eq_true rfl) dX0_init_44 (fun q44 H hP hD hS => ?_)
  have hP : va_P D vwCl [(h0, .inr (0, [.int 0, .int 1, .ref q12, .ref q20, .ref q28, .ref q36, .null])), (q12, arZ cy 9), (q20, arZ cy 9), (q28, arZ cy 9), (q36, arZ cy 9), (q44, arZ cy 100)] H := hP
  have hD : va_D A [(h0, .inr (0, [.int 0, .int 1, .ref q12, .ref q20, .ref q28, .ref q36, .null])), (q12, arZ cy 9), (q20, arZ cy 9), (q28, arZ cy 9), (q36, arZ cy 9), (q44, arZ cy 100)] := hD
  refine va_putF (D := D) (ci := 0) (v := .ref q44) (ty := .array .int) (C := RX0) (T := TX0) (N := 7) hx hb hts tf0 tyX0 tyX0_ok nmX0 hown hK hP hD hS 0 rfl rfl 6 (by decide) (hts _ t1_63) (fun _ h9 => h9) rfl hin rfl (by decide +kernel) rfl rfl (Nat.le_of_ble_eq_true rfl) dX0_init_46 (fun H locs hP hD hS => ?_)
  have hP : va_P D vwCl [(h0, .inr (0, [.int 0, .int 1, .ref q12, .ref q20, .ref q28, .ref q36, .ref q44])), (q12, arZ cy 9), (q20, arZ cy 9), (q28, arZ cy 9), (q36, arZ cy 9), (q44, arZ cy 100)] H := hP
  have hD : va_D A [(h0, .inr (0, [.int 0, .int 1, .ref q12, .ref q20, .ref q28, .ref q36, .ref q44])), (q12, arZ cy 9), (q20, arZ cy 9), (q28, arZ cy 9), (q36, arZ cy 9), (q44, arZ cy 100)] := hD
  exact W.vret hx hb hr (fun t ht hW => ⟨⟨(fun i => if i = 0 then q12 else if i = 1 then q20 else if i = 2 then q28 else if i = 3 then q36 else q44), rfl, trivial, by rw [ht]; exact hP, va_K.moved hW.alike hK, hD⟩, hS.F ht⟩) hS.2.2 dX0_init_49
