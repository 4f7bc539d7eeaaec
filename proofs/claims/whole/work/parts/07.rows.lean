/-! ROWS over the typed memory -/
section RowsA
variable {p : Program} {l : Launch} {e : Env} {R : Room} {s : State} {m : MethodId} {args : Array Value} {below : List Frame} {meth : Method} {c : Code} {H : Heap} {locs : List Loc} {cells slots : Nat} {Q : State → Prop} {D : va_G} {cy : Nat → ClassId} {ad : Nat → Nat → Nat} {ns : List (Nat × Nat)} {A : Nat → Prop} {M M' : Mem} {own : String} {cc : ByteArray} {nL : Nat} {ret : Option FieldType} {pc : Nat} {ls : Array Slot} {rest : List Value}
theorem r_get (X : Cx p s m args meth c D cy ad A own cc nL ret) (hS : St D cy ad ns A M s.heap H locs) {C : String} {T : u_T} {N ci index o k : Nat} (hin : ∀ w ∈ u_ws C T N, w ∈ Tb) (hs : vwCl[ci]? = some (C, T, N)) (hN : nf ci = N) (ho : Ob ns ci o) (hk : k < N) {ref nm d : String} (hlink : Cond.fieldLink own index ref nm d ∈ Tb) (hT : (T k).1 = ref ∧ (T k).2.1 = nm ∧ (T k).2.2.1 = d) {v : Value} (hv : fv ad M o k = v) (hdg : decode cc pc = .ok (.getfield index, 3))
    (kk : W p l e R s m args below meth c H locs cells slots Q (F0 m (pc + 3) ls (v :: rest))) : W p l e R s m args below meth c H locs cells slots Q (F0 m pc ls (.ref (ad o 0) :: rest)) := by
  obtain ⟨hx, hb, hml, hown, hts, hK, hr, hlk, hA, hG⟩ := X
  obtain ⟨⟨hP, hD, hW⟩, hSS⟩ := hS
  obtain ⟨rfl, hm, -⟩ := ho
  obtain ⟨rfl, rfl, rfl⟩ := hT
  subst hN
  obtain ⟨i, -, hi⟩ := wo_get (cy := cy) (ad := ad) (M := M) hm
  exact va_get hx hb hts hin hown hK hP i (fs := (List.range (nf (oc o))).map (fv ad M o)) hi hs k hk (hts _ hlink) (fun _ h => h) (by rw [List.getElem?_map, List.getElem?_range hk]; exact congrArg some hv) hdg kk
theorem r_put (X : Cx p s m args meth c D cy ad A own cc nL ret) (hS : St D cy ad ns A M s.heap H locs) {C : String} {T : u_T} {N ci index o k : Nat} (hin : ∀ w ∈ u_ws C T N, w ∈ Tb) (hs : vwCl[ci]? = some (C, T, N)) (hN : nf ci = N) (ty0 : Nat → FieldType) (hty : ∀ k, k < N → parseFieldDescriptor (T k).2.2.1 = some (ty0 k)) (hnm : ∀ a, a < N → ∀ b, b < N → a ≠ b → (T a).2.1 ≠ (T b).2.1) (ho : Ob ns ci o) (hk : k < N) {ref nm d : String} (hlink : Cond.fieldLink own index ref nm d ∈ Tb) (hT : (T k).1 = ref ∧ (T k).2.1 = nm ∧ (T k).2.2.1 = d) (hfin : (T k).2.2.2 = false) {ty : FieldType} {v : Value} (hd : parseFieldDescriptor (T k).2.2.1 = some ty) (hn : narrow ty v = v) (hfit : fits ty v = true)
    (hw : WR ns M') (h1 : cel cy ad M' (o, 0) = (ad o 0, .inr (oc o, ((List.range (nf (oc o))).map (fv ad M o)).set k v))) (h2 : ∀ q', q' ≠ (o, 0) → cel cy ad M' q' = cel cy ad M q')
    (hdg : decode cc pc = .ok (.putfield index, 3))
    (kk : ∀ (H1 : Heap) (locs1 : List Loc), St D cy ad ns A M' s.heap H1 locs1 → W p l e R s m args below meth c H1 locs1 cells slots Q (F0 m (pc + 3) ls rest)) : W p l e R s m args below meth c H locs cells slots Q (F0 m pc ls (v :: .ref (ad o 0) :: rest)) := by
  obtain ⟨hx, hb, hml, hown, hts, hK, hr, hlk, hA, hG⟩ := X
  obtain ⟨⟨hP, hD, hW⟩, hSS⟩ := hS
  obtain ⟨rfl, hm, -⟩ := ho
  obtain ⟨rfl, rfl, rfl⟩ := hT
  subst hN
  obtain ⟨i, hi0, hi⟩ := wo_get (cy := cy) (ad := ad) (M := M) hm
  refine va_put hx hb hts hin ty0 hty hnm hown hK hP hD hSS i (fs := (List.range (nf (oc o))).map (fv ad M o)) hi hs k hk (hts _ hlink) (fun _ h => h) hfin hd hn hfit (by simpa using hk) hdg (fun H1 locs1 hP1 hD1 hS1 => ?_)
  have hset := wo_set (M' := M') hD hi0 h1 h2
  rw [hset] at hP1 hD1
  exact kk H1 locs1 ⟨⟨hP1, hD1, hw⟩, hS1⟩
theorem r_iald (X : Cx p s m args meth c D cy ad A own cc nL ret) (hS : St D cy ad ns A M s.heap H locs) {ci o k n : Nat} (ho : Ob ns ci o) (hak : ak ci k = 0) (hn : ln ci k = n) {j : Int32} (hin : vp_in j n) (hdg : decode cc pc = .ok (.iaload, 1))
    (kk : W p l e R s m args below meth c H locs cells slots Q (F0 m (pc + 1) ls (.int (gA M o k (ix j)) :: rest))) : W p l e R s m args below meth c H locs cells slots Q (F0 m pc ls (.int j :: .ref (ad o (k + 1)) :: rest)) := by
  obtain ⟨hx, hb, hml, hown, hts, hK, hr, hlk, hA, hG⟩ := X
  obtain ⟨⟨hP, hD, hW⟩, hSS⟩ := hS
  obtain ⟨rfl, -, hm⟩ := ho
  subst hn
  obtain ⟨i, hi0, hi⟩ := wo_get (cy := cy) (ad := ad) (M := M) (hm k (by rw [hak]; decide))
  rw [cel_arr hak (Or.inl rfl)] at hi
  exact va_iald hx hb hK hP i 0 hi rfl hin hdg kk
theorem r_bald (X : Cx p s m args meth c D cy ad A own cc nL ret) (hS : St D cy ad ns A M s.heap H locs) {ci o k n : Nat} (ho : Ob ns ci o) (hak : ak ci k = 2) (hn : ln ci k = n) {j : Int32} (hin : vp_in j n) (hdg : decode cc pc = .ok (.baload, 1))
    (kk : W p l e R s m args below meth c H locs cells slots Q (F0 m (pc + 1) ls (.int (gA M o k (ix j)).toInt8.toInt32 :: rest))) : W p l e R s m args below meth c H locs cells slots Q (F0 m pc ls (.int j :: .ref (ad o (k + 1)) :: rest)) := by
  obtain ⟨hx, hb, hml, hown, hts, hK, hr, hlk, hA, hG⟩ := X
  obtain ⟨⟨hP, hD, hW⟩, hSS⟩ := hS
  obtain ⟨rfl, -, hm⟩ := ho
  subst hn
  obtain ⟨i, hi0, hi⟩ := wo_get (cy := cy) (ad := ad) (M := M) (hm k (by rw [hak]; decide))
  rw [cel_arrB hak] at hi
  exact va_bald hx hb hK hP i 2 hi rfl hin hdg kk
theorem r_zald (X : Cx p s m args meth c D cy ad A own cc nL ret) (hS : St D cy ad ns A M s.heap H locs) {ci o k n : Nat} (ho : Ob ns ci o) (hak : ak ci k = 3) (hn : ln ci k = n) {j : Int32} (hin : vp_in j n) (hdg : decode cc pc = .ok (.baload, 1))
    (kk : W p l e R s m args below meth c H locs cells slots Q (F0 m (pc + 1) ls (.int (gA M o k (ix j)) :: rest))) : W p l e R s m args below meth c H locs cells slots Q (F0 m pc ls (.int j :: .ref (ad o (k + 1)) :: rest)) := by
  obtain ⟨hx, hb, hml, hown, hts, hK, hr, hlk, hA, hG⟩ := X
  obtain ⟨⟨hP, hD, hW⟩, hSS⟩ := hS
  obtain ⟨rfl, -, hm⟩ := ho
  subst hn
  obtain ⟨i, hi0, hi⟩ := wo_get (cy := cy) (ad := ad) (M := M) (hm k (by rw [hak]; decide))
  rw [cel_arr hak (Or.inr rfl)] at hi
  exact va_zald hx hb hK hP i 3 hi rfl hin hdg kk
theorem r_lald (X : Cx p s m args meth c D cy ad A own cc nL ret) (hS : St D cy ad ns A M s.heap H locs) {ci o k n : Nat} (ho : Ob ns ci o) (hak : ak ci k = 1) (hn : ln ci k = n) {j : Int32} (hin : vp_in j n) (hdg : decode cc pc = .ok (.laload, 1))
    (kk : W p l e R s m args below meth c H locs cells slots Q (F0 m (pc + 1) ls (.long (gB M o k (ix j)) :: rest))) : W p l e R s m args below meth c H locs cells slots Q (F0 m pc ls (.int j :: .ref (ad o (k + 1)) :: rest)) := by
  obtain ⟨hx, hb, hml, hown, hts, hK, hr, hlk, hA, hG⟩ := X
  obtain ⟨⟨hP, hD, hW⟩, hSS⟩ := hS
  obtain ⟨rfl, -, hm⟩ := ho
  subst hn
  obtain ⟨i, hi0, hi⟩ := wo_get (cy := cy) (ad := ad) (M := M) (hm k (by rw [hak]; decide))
  rw [cel_arrL hak] at hi
  exact va_lald hx hb hK hP i 1 hi rfl hin hdg kk
theorem r_iast (X : Cx p s m args meth c D cy ad A own cc nL ret) (hS : St D cy ad ns A M s.heap H locs) {ci o k n : Nat} (ho : Ob ns ci o) (hak : ak ci k = 0) (hn : ln ci k = n) {j x : Int32} (hin : vp_in j n) (hdg : decode cc pc = .ok (.iastore, 1))
    (kk : ∀ (H1 : Heap) (locs1 : List Loc), St D cy ad ns A (sA M o k (ix j) x) s.heap H1 locs1 → W p l e R s m args below meth c H1 locs1 cells slots Q (F0 m (pc + 1) ls rest)) : W p l e R s m args below meth c H locs cells slots Q (F0 m pc ls (.int x :: .int j :: .ref (ad o (k + 1)) :: rest)) := by
  obtain ⟨hx, hb, hml, hown, hts, hK, hr, hlk, hA, hG⟩ := X
  obtain ⟨⟨hP, hD, hW⟩, hSS⟩ := hS
  obtain ⟨rfl, -, hm⟩ := ho
  subst hn
  obtain ⟨i, hi0, hi⟩ := wo_get (cy := cy) (ad := ad) (M := M) (hm k (by rw [hak]; decide))
  rw [cel_arr hak (Or.inl rfl)] at hi
  refine va_iast hx hb hK hP hD hSS i 0 hi rfl hin hdg (fun H1 locs1 hP1 hD1 hS1 => ?_)
  have hset := wo_set (M' := sA M o k (ix j) x) hD hi0 (cel_wA hak (Or.inl rfl)) (fun q' hq => cel_wA' hq)
  erw [hset] at hP1 hD1
  exact kk H1 locs1 ⟨⟨hP1, hD1, wr_wA hW (by rintro ⟨rfl, rfl⟩; exact absurd hak (by decide))⟩, hS1⟩
theorem r_bast (X : Cx p s m args meth c D cy ad A own cc nL ret) (hS : St D cy ad ns A M s.heap H locs) {ci o k n : Nat} (ho : Ob ns ci o) (hak : ak ci k = 2) (hn : ln ci k = n) {j x : Int32} (hin : vp_in j n) (hdg : decode cc pc = .ok (.bastore, 1))
    (kk : ∀ (H1 : Heap) (locs1 : List Loc), St D cy ad ns A (sA M o k (ix j) x) s.heap H1 locs1 → W p l e R s m args below meth c H1 locs1 cells slots Q (F0 m (pc + 1) ls rest)) : W p l e R s m args below meth c H locs cells slots Q (F0 m pc ls (.int x :: .int j :: .ref (ad o (k + 1)) :: rest)) := by
  obtain ⟨hx, hb, hml, hown, hts, hK, hr, hlk, hA, hG⟩ := X
  obtain ⟨⟨hP, hD, hW⟩, hSS⟩ := hS
  obtain ⟨rfl, -, hm⟩ := ho
  subst hn
  obtain ⟨i, hi0, hi⟩ := wo_get (cy := cy) (ad := ad) (M := M) (hm k (by rw [hak]; decide))
  rw [cel_arrB hak] at hi
  refine va_bast hx hb hK hP hD hSS i 2 hi rfl hin hdg (fun H1 locs1 hP1 hD1 hS1 => ?_)
  rw [vp_nar_byte] at hP1 hD1
  have hf : upd (fun j => (gA M o k j).toInt8.toInt32) j.toNatClampNeg x.toInt8.toInt32 = fun i => (upd (gA M o k) (ix j) x i).toInt8.toInt32 := by
    funext i
    unfold upd ix
    by_cases hi : i = j.toNatClampNeg
    · rw [if_pos hi, if_pos hi]
    · rw [if_neg hi, if_neg hi]
  rw [hf] at hP1 hD1
  have hset := wo_set (M' := sA M o k (ix j) x) hD hi0 (cel_wAB hak) (fun q' hq => cel_wA' hq)
  erw [hset] at hP1 hD1
  exact kk H1 locs1 ⟨⟨hP1, hD1, wr_wA hW (by rintro ⟨rfl, rfl⟩; exact absurd hak (by decide))⟩, hS1⟩
theorem r_zast (X : Cx p s m args meth c D cy ad A own cc nL ret) (hS : St D cy ad ns A M s.heap H locs) {ci o k n : Nat} (ho : Ob ns ci o) (hak : ak ci k = 3) (hn : ln ci k = n) {j : Int32} {x : Bool} (hin : vp_in j n) (hdg : decode cc pc = .ok (.bastore, 1))
    (kk : ∀ (H1 : Heap) (locs1 : List Loc), St D cy ad ns A (sA M o k (ix j) (b2i x)) s.heap H1 locs1 → W p l e R s m args below meth c H1 locs1 cells slots Q (F0 m (pc + 1) ls rest)) : W p l e R s m args below meth c H locs cells slots Q (F0 m pc ls (.int (b2i x) :: .int j :: .ref (ad o (k + 1)) :: rest)) := by
  obtain ⟨hx, hb, hml, hown, hts, hK, hr, hlk, hA, hG⟩ := X
  obtain ⟨⟨hP, hD, hW⟩, hSS⟩ := hS
  obtain ⟨rfl, -, hm⟩ := ho
  subst hn
  obtain ⟨i, hi0, hi⟩ := wo_get (cy := cy) (ad := ad) (M := M) (hm k (by rw [hak]; decide))
  rw [cel_arr hak (Or.inr rfl)] at hi
  refine va_zast hx hb hK hP hD hSS i 3 hi rfl hin hdg (fun H1 locs1 hP1 hD1 hS1 => ?_)
  have hz : vp_nar .boolean (b2i x) = b2i x := by cases x <;> decide +kernel
  rw [hz] at hP1 hD1
  have hset := wo_set (M' := sA M o k (ix j) (b2i x)) hD hi0 (cel_wA hak (Or.inr rfl)) (fun q' hq => cel_wA' hq)
  erw [hset] at hP1 hD1
  exact kk H1 locs1 ⟨⟨hP1, hD1, wr_wA hW (by rintro ⟨rfl, rfl⟩; exact absurd hak (by decide))⟩, hS1⟩
theorem r_last (X : Cx p s m args meth c D cy ad A own cc nL ret) (hS : St D cy ad ns A M s.heap H locs) {ci o k n : Nat} (ho : Ob ns ci o) (hak : ak ci k = 1) (hn : ln ci k = n) {j : Int32} {x : Int64} (hin : vp_in j n) (hdg : decode cc pc = .ok (.lastore, 1))
    (kk : ∀ (H1 : Heap) (locs1 : List Loc), St D cy ad ns A (sB M o k (ix j) x) s.heap H1 locs1 → W p l e R s m args below meth c H1 locs1 cells slots Q (F0 m (pc + 1) ls rest)) : W p l e R s m args below meth c H locs cells slots Q (F0 m pc ls (.long x :: .int j :: .ref (ad o (k + 1)) :: rest)) := by
  obtain ⟨hx, hb, hml, hown, hts, hK, hr, hlk, hA, hG⟩ := X
  obtain ⟨⟨hP, hD, hW⟩, hSS⟩ := hS
  obtain ⟨rfl, -, hm⟩ := ho
  subst hn
  obtain ⟨i, hi0, hi⟩ := wo_get (cy := cy) (ad := ad) (M := M) (hm k (by rw [hak]; decide))
  rw [cel_arrL hak] at hi
  refine va_last hx hb hK hP hD hSS i 1 hi rfl hin hdg (fun H1 locs1 hP1 hD1 hS1 => ?_)
  have hset := wo_set (M' := sB M o k (ix j) x) hD hi0 (cel_wB hak) (fun q' hq => cel_wB' hq)
  erw [hset] at hP1 hD1
  exact kk H1 locs1 ⟨⟨hP1, hD1, wr_wB hW⟩, hS1⟩
/-- a Told's arrays of references -/
theorem r_aald (X : Cx p s m args meth c D cy ad A own cc nL ret) (hS : St D cy ad ns A M s.heap H locs) {o k n : Nat} {C : String} (ho : Ob ns 5 o) (hak : ak 5 k = n) (hn : 4 ≤ n ∧ n ≤ 7) (hty : (tysE cy)[n]? = some (cy n, .object C)) (hl2 : ln 5 k = 2) {j : Int32} (hin : vp_in j 2) (hdg : decode cc pc = .ok (.aaload, 1))
    (kk : W p l e R s m args below meth c H locs cells slots Q (F0 m (pc + 1) ls (.ref (ad (o + (2 * n - 7) + ix j) 0) :: rest))) : W p l e R s m args below meth c H locs cells slots Q (F0 m pc ls (.int j :: .ref (ad o (k + 1)) :: rest)) := by
  obtain ⟨hx, hb, hml, hown, hts, hK, hr, hlk, hA, hG⟩ := X
  obtain ⟨⟨hP, hD, hW⟩, hSS⟩ := hS
  obtain ⟨ho, -, hm⟩ := ho
  obtain ⟨i, hi0, hi⟩ := wo_get (cy := cy) (ad := ad) (M := M) (hm k (by rw [hak]; omega))
  have hce : cel cy ad M (o, k + 1) = (ad o (k + 1), .inl (cy n, 2, .inr (.inr (.inr (.inr (fun j => some (ad (o + (2 * n - 7) + j) 0))))))) := by
    show (ad o (k + 1), ce cy ad M o k) = _
    obtain ⟨h1, h2⟩ := hn
    rcases (show n = 4 ∨ n = 5 ∨ n = 6 ∨ n = 7 by omega) with rfl | rfl | rfl | rfl <;> simp [ce, ho, hak, hl2]
  rw [hce] at hi
  exact va_aldq hx hb hK hP i n hi hty hin hdg kk
/-! a method's ends -/
theorem x_I (X : Cx p s m args meth c D cy ad A own cc nL (some .int)) (hS : St D cy ad ns A M' s.heap H locs) {v : Int32} (hdg : decode cc pc = .ok (.ireturn, 1)) : W p l e R s m args below meth c H locs 0 0 (MQ below (QC D cy ad ns A M' (some (.int v))) args s 0 0 A) (F0 m pc ls [.int v]) := by
  obtain ⟨hx, hb, hml, hown, hts, hK, hr, hlk, hA, hG⟩ := X
  exact W.iret hx hb hr (fun t ht hW => ⟨rfl, by rw [ht]; exact hS.1, va_K.moved hW.alike hK, hS.2.F ht⟩) hS.2.2.2 hdg hlk
theorem x_Z (X : Cx p s m args meth c D cy ad A own cc nL (some .boolean)) (hS : St D cy ad ns A M' s.heap H locs) {v : Bool} (hdg : decode cc pc = .ok (.ireturn, 1)) : W p l e R s m args below meth c H locs 0 0 (MQ below (QC D cy ad ns A M' (some (.int (b2i v)))) args s 0 0 A) (F0 m pc ls [.int (b2i v)]) := by
  obtain ⟨hx, hb, hml, hown, hts, hK, hr, hlk, hA, hG⟩ := X
  exact W.zret hx hb hr (b2i_nar v) (fun t ht hW => ⟨rfl, by rw [ht]; exact hS.1, va_K.moved hW.alike hK, hS.2.F ht⟩) hS.2.2.2 hdg hlk
theorem x_L (X : Cx p s m args meth c D cy ad A own cc nL (some .long)) (hS : St D cy ad ns A M' s.heap H locs) {v : Int64} (hdg : decode cc pc = .ok (.lreturn, 1)) : W p l e R s m args below meth c H locs 0 0 (MQ below (QC D cy ad ns A M' (some (.long v))) args s 0 0 A) (F0 m pc ls [.long v]) := by
  obtain ⟨hx, hb, hml, hown, hts, hK, hr, hlk, hA, hG⟩ := X
  exact W.lret hx hb hr (fun t ht hW => ⟨rfl, by rw [ht]; exact hS.1, va_K.moved hW.alike hK, hS.2.F ht⟩) hS.2.2.2 hdg hlk
theorem x_V (X : Cx p s m args meth c D cy ad A own cc nL none) (hS : St D cy ad ns A M' s.heap H locs) (hdg : decode cc pc = .ok (.return_, 1)) : W p l e R s m args below meth c H locs 0 0 (MQ below (QC D cy ad ns A M' none) args s 0 0 A) (F0 m pc ls []) := by
  obtain ⟨hx, hb, hml, hown, hts, hK, hr, hlk, hA, hG⟩ := X
  exact W.vret hx hb hr (fun t ht hW => ⟨rfl, by rw [ht]; exact hS.1, va_K.moved hW.alike hK, hS.2.F ht⟩) hS.2.2.2 hdg hlk
/-- a nullable reference, by its object -/
def rv (ad : Nat → Nat → Nat) (x : Option Nat) : Value := match x with
  | none => .null
  | some o => .ref (ad o 0)
theorem x_R {C : String} (X : Cx p s m args meth c D cy ad A own cc nL (some (.object C))) (hS : St D cy ad ns A M' s.heap H locs) {v : Option Nat} (hdg : decode cc pc = .ok (.areturn, 1)) : W p l e R s m args below meth c H locs 0 0 (MQ below (QC D cy ad ns A M' (some (rv ad v))) args s 0 0 A) (F0 m pc ls [rv ad v]) := by
  obtain ⟨hx, hb, hml, hown, hts, hK, hr, hlk, hA, hG⟩ := X
  exact W.aret hx hb hr (Or.inl ⟨C, rfl⟩) (by cases v with | none => exact Or.inl rfl | some o => exact Or.inr ⟨_, rfl⟩) (fun t ht hW => ⟨rfl, by rw [ht]; exact hS.1, va_K.moved hW.alike hK, hS.2.F ht⟩) hS.2.2.2 hdg hlk
/-! a contract out of its body -/
theorem ct_of {y : MethodName} {b : ByteArray} {rm : Room} {av : List Value} {lv : List (Nat × Value)} {o1 : Option Value} (hy : plainName y.cls = true) (hlen : (lg_sl av).length ≤ nL) (hlv : lv_args 0 av = lv)
    (body : ∀ p e s m args below meth c ls, Cx p s m args meth c D cy ad A y.cls b nL ret → lv_has ls nL lv → St D cy ad ns A M s.heap s.heap [] → W p l e rm s m args below meth c s.heap [] 0 0 (MQ below (QC D cy ad ns A M' o1) args s 0 0 A) (F0 m 0 ls [])) : Ct l y b nL ret rm D cy ad ns A av M M' o1 := by
  refine Met.ofW (cc := b) (maxL := nL) (ret := ret) hy rfl ?_
  intro p e s m args below meth c s₁ B hml hv
  obtain ⟨rfl, hW, hK, hA, hG⟩ := hv
  have hts : ∀ w ∈ Tb, w.before av.toArray s = true := fun w hw => atoms_spec (ws := Cond.code y b nL ret :: Tb) B.pre w (List.mem_cons_of_mem _ hw)
  have hown : s.vm.findClass y.cls = some m.cls := findClass_of_methodNamed B.named
  have hl := lv_entry av (n := nL) hlen
  rw [lg_entry_eq]
  rw [hlv] at hl
  exact body p e s m av.toArray below meth c _ ⟨B.exec, B.bytes, hml, hown, hts, hK, B.returns, B.notSynchronized, hA, hG⟩ hl ⟨hW, va_S.rf⟩
theorem pc_blind {av : List Value} : FrameBlind (va_Pc av (fun U => Wd D cy ad ns A M U.heap ∧ va_K D vwCl (tysE cy) U ∧ (∀ q, U.heap.size ≤ q → A q) ∧ Gx ad A U U.heap)) := fun a U g mk q => by
  obtain ⟨h1, h2, h3, h4, h5⟩ := q
  exact ⟨h1, h2, va_K.moved (u := U) (U := U.calling g mk a) (Vm.Alike.refl U.vm) h3, h4, Gx_same (u := U) rfl h5⟩
theorem goodTb : ∀ w ∈ Tb, goodWord w = true := fun w h => (List.mem_filter.mp h).2
theorem goodIn_Tb {y : MethodName} {b : ByteArray} {nL : Nat} {ret : Option FieldType} (h : Cond.code y b nL ret ∈ Tb) : GoodIn Tb (Cond.code y b nL ret :: Tb) := by
  intro w hw
  rcases List.mem_cons.mp hw with rfl | hw
  · exact ⟨h, good_of_word (goodTb _ h)⟩
  · exact ⟨hw, good_of_word (goodTb _ hw)⟩
/-! a call: from memory M to memory M' -/
theorem run_back {a : Array Value} {rest st0 : List Value} {o1 : Option Value} (X : Cx p s m args meth c D cy ad A own cc nL ret) (hS : St D cy ad ns A M s.heap H locs) (hr : va_Run p l e R s m args below meth c H locs cells slots 0 0 (F0 m pc ls st0) rest (QC D cy ad ns A M' o1 a) A)
    (kk : ∀ (H1 : Heap) (locs1 : List Loc), St D cy ad ns A M' s.heap H1 locs1 → W p l e R s m args below meth c H1 locs1 cells slots Q (F0 m (pc + 3) ls (o1.toList ++ rest))) : W p l e R s m args below meth c H locs cells slots Q (F0 m pc ls st0) := by
  intro T hT Z
  obtain ⟨v, st₀, t, T', L, h0, Z', hL, e1, e2, ⟨hv, hw, hk, hz, hq⟩, st⟩ := hr T hT Z
  cases hv
  rw [h0] at hz hq
  obtain ⟨hW, hSS⟩ := hS
  obtain ⟨t2, a1, b1⟩ := kk T'.heap (locs ++ L) ⟨by rw [e1]; exact hw, Nat.le_trans hSS.1 (by rw [e1]; exact hz), fun q h1 h2 => by rw [e1, hq q (Nat.lt_of_lt_of_le h1 hSS.1) h2]; exact hSS.2.1 q h1 h2, fun q hq => by
      rcases List.mem_append.mp hq with h | h
      · exact hSS.2.2 q h
      · exact hL q h⟩ T' rfl Z'
  exact ⟨t2, st t2 a1, b1⟩
theorem r_callV {y : MethodName} {C : String} {b : ByteArray} {nL' n ci o index : Nat} {ret' : Option FieldType} {rm : Room} {As rest st : List Value} {o1 : Option Value} {T : u_T} {N : Nat} (X : Cx p s m args meth c D cy ad A own cc nL ret) (hS : St D cy ad ns A M s.heap H locs) (hM : Ct l y b nL' ret' rm D cy ad ns A (.ref (ad o 0) :: As) M M' o1) (hy : Mv y C b nL' ret' n) (hs : vwCl[ci]? = some (C, T, N)) (ho : Ob ns ci o) (hlink : Cond.methodLink own index y ∈ Tb) (hrm : rm.cells = 0 ∧ rm.slots = 0 ∧ rm.frames + 1 ≤ R.frames ∧ 8 + (nL' + 11) + rm.locals ≤ R.locals) (hn : As.length = n) (hls : ls.size = nL) (hst : st = As.reverse ++ .ref (ad o 0) :: rest) (hcat : (rest.map fun v => v.category).sum ≤ 8) (hcs : cells ≤ R.cells ∧ slots ≤ R.slots) (hdg : decode cc pc = .ok (.invokevirtual index, 3))
    (kk : ∀ (H1 : Heap) (locs1 : List Loc), St D cy ad ns A M' s.heap H1 locs1 → W p l e R s m args below meth c H1 locs1 cells slots Q (F0 m (pc + 3) ls (o1.toList ++ rest))) : W p l e R s m args below meth c H locs cells slots Q (F0 m pc ls st) := by
  obtain ⟨hx, hb, hml, hown, hts, hK, hr, hlk, hA, hG⟩ := id X
  obtain ⟨hW, hSS⟩ := id hS
  obtain ⟨g1, g2, g3, g4, g5, g6⟩ := hy
  obtain ⟨i, -, hi⟩ := wo_get (cy := cy) (ad := ad) (M := M) ho.2.1
  have hoc := ho.1
  have hrec := va_recv (q := (C, T, N)) hK hW.1 (ci := oc o) (q0 := i) (by rw [hoc]; exact hs) hi
  refine run_back (o1 := o1) X hS (va_runV (As := As) (rest := rest) (Ts := Tb) ⟨hx, hb, hml, hown, hts⟩ hM ⟨callB_of n hts (goodIn_Tb g1) rfl hrm.1 hrm.2.1 (hts _ g4) (hts _ hlink) ⟨g5.1, g5.2, g6⟩ hrm.2.2, hts _ g2, hts _ g3⟩ ⟨pc_blind, hrec, fun U hU hWm => ⟨rfl, by rw [hU]; exact hW, va_K.moved hWm.alike hK, fun q hq => hA q (Nat.le_trans hSS.1 (by rw [← hU]; exact hq)), by rw [hU]; exact Gx_warm hWm hSS.2.1 hG⟩⟩ rfl hn hls hst (lv_room hcat) hdg hcs) kk
theorem r_callS {y : MethodName} {b : ByteArray} {nL' n index : Nat} {ret' : Option FieldType} {rm : Room} {As rest st : List Value} {o1 : Option Value} (X : Cx p s m args meth c D cy ad A own cc nL ret) (hS : St D cy ad ns A M s.heap H locs) (hM : Ct l y b nL' ret' rm D cy ad ns A As M M' o1) (hy : Ms y b nL' ret' n) (hlink : Cond.methodLink own index y ∈ Tb) (hrm : rm.cells = 0 ∧ rm.slots = 0 ∧ rm.frames + 1 ≤ R.frames ∧ 8 + (nL' + 11) + rm.locals ≤ R.locals) (hn : As.length = n) (hls : ls.size = nL) (hst : st = As.reverse ++ rest) (hcat : (rest.map fun v => v.category).sum ≤ 8) (hcs : cells ≤ R.cells ∧ slots ≤ R.slots) (hdg : decode cc pc = .ok (.invokestatic index, 3))
    (kk : ∀ (H1 : Heap) (locs1 : List Loc), St D cy ad ns A M' s.heap H1 locs1 → W p l e R s m args below meth c H1 locs1 cells slots Q (F0 m (pc + 3) ls (o1.toList ++ rest))) : W p l e R s m args below meth c H locs cells slots Q (F0 m pc ls st) := by
  obtain ⟨hx, hb, hml, hown, hts, hK, hr, hlk, hA, hG⟩ := id X
  obtain ⟨hW, hSS⟩ := id hS
  obtain ⟨g1, g2, g4, g5, g6⟩ := hy
  refine run_back (o1 := o1) X hS (va_runS (As := As) (rest := rest) (Ts := Tb) ⟨hx, hb, hml, hown, hts⟩ hM ⟨callB_of n hts (goodIn_Tb g1) rfl hrm.1 hrm.2.1 (hts _ g4) (hts _ hlink) ⟨g5.1, g5.2, g6⟩ hrm.2.2, hts _ g2⟩ ⟨pc_blind, fun U hU hWm => ⟨rfl, by rw [hU]; exact hW, va_K.moved hWm.alike hK, fun q hq => hA q (Nat.le_trans hSS.1 (by rw [← hU]; exact hq)), by rw [hU]; exact Gx_warm hWm hSS.2.1 hG⟩⟩ rfl hn hls hst (lv_room hcat) hdg hcs) kk
theorem r_callV1 {y : MethodName} {C : String} {b : ByteArray} {nL' n ci o index : Nat} {ret' : Option FieldType} {rm : Room} {As rest st : List Value} {v : Value} {T : u_T} {N : Nat} (X : Cx p s m args meth c D cy ad A own cc nL ret) (hS : St D cy ad ns A M s.heap H locs) (hM : Ct l y b nL' ret' rm D cy ad ns A (.ref (ad o 0) :: As) M M' (some v)) (hy : Mv y C b nL' ret' n) (hs : vwCl[ci]? = some (C, T, N)) (ho : Ob ns ci o) (hlink : Cond.methodLink own index y ∈ Tb) (hrm : rm.cells = 0 ∧ rm.slots = 0 ∧ rm.frames + 1 ≤ R.frames ∧ 8 + (nL' + 11) + rm.locals ≤ R.locals) (hn : As.length = n) (hls : ls.size = nL) (hst : st = As.reverse ++ .ref (ad o 0) :: rest) (hcat : (rest.map fun v => v.category).sum ≤ 8) (hcs : cells ≤ R.cells ∧ slots ≤ R.slots) (hdg : decode cc pc = .ok (.invokevirtual index, 3))
    (kk : ∀ (H1 : Heap) (locs1 : List Loc), St D cy ad ns A M' s.heap H1 locs1 → W p l e R s m args below meth c H1 locs1 cells slots Q (F0 m (pc + 3) ls (v :: rest))) : W p l e R s m args below meth c H locs cells slots Q (F0 m pc ls st) := r_callV X hS hM hy hs ho hlink hrm hn hls hst hcat hcs hdg kk
theorem r_callV0 {y : MethodName} {C : String} {b : ByteArray} {nL' n ci o index : Nat} {ret' : Option FieldType} {rm : Room} {As rest st : List Value} {T : u_T} {N : Nat} (X : Cx p s m args meth c D cy ad A own cc nL ret) (hS : St D cy ad ns A M s.heap H locs) (hM : Ct l y b nL' ret' rm D cy ad ns A (.ref (ad o 0) :: As) M M' none) (hy : Mv y C b nL' ret' n) (hs : vwCl[ci]? = some (C, T, N)) (ho : Ob ns ci o) (hlink : Cond.methodLink own index y ∈ Tb) (hrm : rm.cells = 0 ∧ rm.slots = 0 ∧ rm.frames + 1 ≤ R.frames ∧ 8 + (nL' + 11) + rm.locals ≤ R.locals) (hn : As.length = n) (hls : ls.size = nL) (hst : st = As.reverse ++ .ref (ad o 0) :: rest) (hcat : (rest.map fun v => v.category).sum ≤ 8) (hcs : cells ≤ R.cells ∧ slots ≤ R.slots) (hdg : decode cc pc = .ok (.invokevirtual index, 3))
    (kk : ∀ (H1 : Heap) (locs1 : List Loc), St D cy ad ns A M' s.heap H1 locs1 → W p l e R s m args below meth c H1 locs1 cells slots Q (F0 m (pc + 3) ls rest)) : W p l e R s m args below meth c H locs cells slots Q (F0 m pc ls st) := r_callV X hS hM hy hs ho hlink hrm hn hls hst hcat hcs hdg kk
theorem r_callS1 {y : MethodName} {b : ByteArray} {nL' n index : Nat} {ret' : Option FieldType} {rm : Room} {As rest st : List Value} {v : Value} (X : Cx p s m args meth c D cy ad A own cc nL ret) (hS : St D cy ad ns A M s.heap H locs) (hM : Ct l y b nL' ret' rm D cy ad ns A As M M' (some v)) (hy : Ms y b nL' ret' n) (hlink : Cond.methodLink own index y ∈ Tb) (hrm : rm.cells = 0 ∧ rm.slots = 0 ∧ rm.frames + 1 ≤ R.frames ∧ 8 + (nL' + 11) + rm.locals ≤ R.locals) (hn : As.length = n) (hls : ls.size = nL) (hst : st = As.reverse ++ rest) (hcat : (rest.map fun v => v.category).sum ≤ 8) (hcs : cells ≤ R.cells ∧ slots ≤ R.slots) (hdg : decode cc pc = .ok (.invokestatic index, 3))
    (kk : ∀ (H1 : Heap) (locs1 : List Loc), St D cy ad ns A M' s.heap H1 locs1 → W p l e R s m args below meth c H1 locs1 cells slots Q (F0 m (pc + 3) ls (v :: rest))) : W p l e R s m args below meth c H locs cells slots Q (F0 m pc ls st) := r_callS X hS hM hy hlink hrm hn hls hst hcat hcs hdg kk
theorem r_callS0 {y : MethodName} {b : ByteArray} {nL' n index : Nat} {ret' : Option FieldType} {rm : Room} {As rest st : List Value} (X : Cx p s m args meth c D cy ad A own cc nL ret) (hS : St D cy ad ns A M s.heap H locs) (hM : Ct l y b nL' ret' rm D cy ad ns A As M M' none) (hy : Ms y b nL' ret' n) (hlink : Cond.methodLink own index y ∈ Tb) (hrm : rm.cells = 0 ∧ rm.slots = 0 ∧ rm.frames + 1 ≤ R.frames ∧ 8 + (nL' + 11) + rm.locals ≤ R.locals) (hn : As.length = n) (hls : ls.size = nL) (hst : st = As.reverse ++ rest) (hcat : (rest.map fun v => v.category).sum ≤ 8) (hcs : cells ≤ R.cells ∧ slots ≤ R.slots) (hdg : decode cc pc = .ok (.invokestatic index, 3))
    (kk : ∀ (H1 : Heap) (locs1 : List Loc), St D cy ad ns A M' s.heap H1 locs1 → W p l e R s m args below meth c H1 locs1 cells slots Q (F0 m (pc + 3) ls rest)) : W p l e R s m args below meth c H locs cells slots Q (F0 m pc ls st) := r_callS X hS hM hy hlink hrm hn hls hst hcat hcs hdg kk
/-- a static call of the nest -/
theorem r_callN1 {y : MethodName} {b : ByteArray} {nL' n index : Nat} {ret' : Option FieldType} {rm : Room} {As rest st : List Value} {v : Value} (X : Cx p s m args meth c D cy ad A own cc nL ret) (hS : St D cy ad ns A M s.heap H locs) (hM : Ct l y b nL' ret' rm D cy ad ns A As M M' (some v)) (hy : Ms y b nL' ret' n) (hlink : (own, index, y) ∈ nestL) (hrm : rm.cells = 0 ∧ rm.slots = 0 ∧ rm.frames + 1 ≤ R.frames ∧ 8 + (nL' + 11) + rm.locals ≤ R.locals) (hn : As.length = n) (hls : ls.size = nL) (hst : st = As.reverse ++ rest) (hcat : (rest.map fun v => v.category).sum ≤ 8) (hcs : cells ≤ R.cells ∧ slots ≤ R.slots) (hdg : decode cc pc = .ok (.invokestatic index, 3))
    (kk : ∀ (H1 : Heap) (locs1 : List Loc), St D cy ad ns A M' s.heap H1 locs1 → W p l e R s m args below meth c H1 locs1 cells slots Q (F0 m (pc + 3) ls (v :: rest))) : W p l e R s m args below meth c H locs cells slots Q (F0 m pc ls st) := by
  obtain ⟨hx, hb, hml, hown, hts, hK, hr, hlk, hA, hG⟩ := id X
  obtain ⟨hW, hSS⟩ := id hS
  obtain ⟨g1, g2, g4, g5, g6⟩ := hy
  exact run_back (o1 := some v) X hS (va_runSN (host := "SewnYear") (As := As) (rest := rest) (Ts := Tb) ⟨hx, hb, hml, hown, hts⟩ hM ⟨va_cnB n hts (goodIn_Tb g1) rfl hrm.1 hrm.2.1 (hG.1 _ hlink) (hts _ g4) ⟨g5.1, g5.2, g6⟩ hrm.2.2, hts _ g2, trivial⟩ ⟨pc_blind, fun U hU hWm => ⟨rfl, by rw [hU]; exact hW, va_K.moved hWm.alike hK, fun q hq => hA q (Nat.le_trans hSS.1 (by rw [← hU]; exact hq)), by rw [hU]; exact Gx_warm hWm hSS.2.1 hG⟩⟩ rfl hn hls hst (lv_room hcat) hdg hcs) kk
/-! array copies: the first n places -/
def cpA (M : Mem) (o k o' k' n : Nat) : Mem := wA M o' k' (fun j => if j < n then gA M o k j else gA M o' k' j)
theorem cpy_eq {α : Type} (f g : Nat → α) (n : Nat) : va_cpy f g 0 0 n = fun j => if j < n then f j else g j := by
  funext j
  unfold va_cpy
  simp
theorem r_copy (X : Cx p s m args meth c D cy ad A own cc nL ret) (hS : St D cy ad ns A M s.heap H locs) {c0 c1 o k o' k' index n : Nat} (ho : Ob ns c0 o) (ho' : Ob ns c1 o') (hak : ak c0 k = 0) (hak' : ak c1 k' = 0) (hn0 : n ≤ ln c0 k) (hn1 : n ≤ ln c1 k') {nI : Int32} (hnI : ¬ nI < 0) (hnn : nI.toNatClampNeg = n) (hls : ls.size = nL) (hlink : Cond.methodLink own index arraycopyName ∈ Tb) (h1 : Cond.native arraycopyName ∈ Tb) (h2 : Cond.static arraycopyName ∈ Tb) (h3 : Cond.initialized "java/lang/System" ∈ Tb) (hfr : 1 ≤ R.frames) (hlo : (rest.map fun v => v.category).sum + (nativeFrameWords "java/lang/System" "arraycopy" 5 + 11) ≤ R.locals) (hdg : decode cc pc = .ok (.invokestatic index, 3))
    (kk : ∀ (H1 : Heap) (locs1 : List Loc), St D cy ad ns A (cpA M o k o' k' n) s.heap H1 locs1 → W p l e R s m args below meth c H1 locs1 cells slots Q (F0 m (pc + 3) ls rest)) : W p l e R s m args below meth c H locs cells slots Q (F0 m pc ls (.int nI :: .int 0 :: .ref (ad o' (k' + 1)) :: .int 0 :: .ref (ad o (k + 1)) :: rest)) := by
  obtain ⟨hx, hb, hml, hown, hts, hK, hr, hlk, hA, hG⟩ := X
  obtain ⟨⟨hP, hD, hW⟩, hSS⟩ := hS
  obtain ⟨rfl, -, hm⟩ := ho
  obtain ⟨rfl, -, hm'⟩ := ho'
  obtain ⟨i, hi0, hi⟩ := wo_get (cy := cy) (ad := ad) (M := M) (hm k (by rw [hak]; decide))
  obtain ⟨i', hi0', hi'⟩ := wo_get (cy := cy) (ad := ad) (M := M) (hm' k' (by rw [hak']; decide))
  rw [cel_arr hak (Or.inl rfl)] at hi
  rw [cel_arr hak' (Or.inl rfl)] at hi'
  have z : (0 : Int32).toNatClampNeg = 0 := by decide
  refine va_copyi hx hb (hml.trans hls.symm) hown (hts _ hlink) (hts _ h1) (hts _ h2) (hts _ h3) hK hP hD hSS i i' 0 0 hi hi' rfl rfl rfl (sp := 0) (dp := 0) (by decide) (by decide) hnI (by rw [z, hnn]; omega) (by rw [z, hnn]; omega) (fun _ _ => rfl) hfr hlo hdg (fun H1 locs1 hP1 hD1 hS1 => ?_)
  rw [z, hnn, cpy_eq] at hP1 hD1
  have hset := wo_set (M' := cpA M o k o' k' n) hD hi0' (cel_wA hak' (Or.inl rfl)) (fun q' hq => cel_wA' hq)
  erw [hset] at hP1 hD1
  exact kk H1 locs1 ⟨⟨hP1, hD1, wr_wA hW (by rintro ⟨rfl, rfl⟩; exact absurd hak' (by decide))⟩, hS1⟩
theorem fits_byte (x : Int32) : fits .byte (.int x.toInt8.toInt32) = true := by
  have h1 := Int8.le_toInt x.toInt8
  have h2 := Int8.toInt_lt x.toInt8
  have h3 : x.toInt8.toInt32.toInt = x.toInt8.toInt := by simp
  show (decide _ && decide _) = true
  rw [Bool.and_eq_true, decide_eq_true_eq, decide_eq_true_eq, Int32.le_iff_toInt_le, Int32.le_iff_toInt_le, h3]
  constructor
  · exact h1
  · exact Int.le_of_lt_add_one h2
theorem r_copyB (X : Cx p s m args meth c D cy ad A own cc nL ret) (hS : St D cy ad ns A M s.heap H locs) {c0 c1 o k o' k' index n : Nat} (ho : Ob ns c0 o) (ho' : Ob ns c1 o') (hak : ak c0 k = 2) (hak' : ak c1 k' = 2) (hn0 : n ≤ ln c0 k) (hn1 : n ≤ ln c1 k') {nI : Int32} (hnI : ¬ nI < 0) (hnn : nI.toNatClampNeg = n) (hls : ls.size = nL) (hlink : Cond.methodLink own index arraycopyName ∈ Tb) (h1 : Cond.native arraycopyName ∈ Tb) (h2 : Cond.static arraycopyName ∈ Tb) (h3 : Cond.initialized "java/lang/System" ∈ Tb) (hfr : 1 ≤ R.frames) (hlo : (rest.map fun v => v.category).sum + (nativeFrameWords "java/lang/System" "arraycopy" 5 + 11) ≤ R.locals) (hdg : decode cc pc = .ok (.invokestatic index, 3))
    (kk : ∀ (H1 : Heap) (locs1 : List Loc), St D cy ad ns A (cpA M o k o' k' n) s.heap H1 locs1 → W p l e R s m args below meth c H1 locs1 cells slots Q (F0 m (pc + 3) ls rest)) : W p l e R s m args below meth c H locs cells slots Q (F0 m pc ls (.int nI :: .int 0 :: .ref (ad o' (k' + 1)) :: .int 0 :: .ref (ad o (k + 1)) :: rest)) := by
  obtain ⟨hx, hb, hml, hown, hts, hK, hr, hlk, hA, hG⟩ := X
  obtain ⟨⟨hP, hD, hW⟩, hSS⟩ := hS
  obtain ⟨rfl, -, hm⟩ := ho
  obtain ⟨rfl, -, hm'⟩ := ho'
  obtain ⟨i, hi0, hi⟩ := wo_get (cy := cy) (ad := ad) (M := M) (hm k (by rw [hak]; decide))
  obtain ⟨i', hi0', hi'⟩ := wo_get (cy := cy) (ad := ad) (M := M) (hm' k' (by rw [hak']; decide))
  rw [cel_arrB hak] at hi
  rw [cel_arrB hak'] at hi'
  have z : (0 : Int32).toNatClampNeg = 0 := by decide
  refine va_copyi hx hb (hml.trans hls.symm) hown (hts _ hlink) (hts _ h1) (hts _ h2) (hts _ h3) hK hP hD hSS i i' 2 2 hi hi' rfl rfl rfl (sp := 0) (dp := 0) (by decide) (by decide) hnI (by rw [z, hnn]; omega) (by rw [z, hnn]; omega) (fun _ _ => fits_byte _) hfr hlo hdg (fun H1 locs1 hP1 hD1 hS1 => ?_)
  rw [z, hnn, cpy_eq] at hP1 hD1
  have hf : (fun j => if j < n then (gA M o k j).toInt8.toInt32 else (gA M o' k' j).toInt8.toInt32) = fun j => ((fun j => if j < n then gA M o k j else gA M o' k' j) j).toInt8.toInt32 := by
    funext j
    by_cases hj : j < n
    · rw [if_pos hj]; exact (congrArg (fun x : Int32 => x.toInt8.toInt32) (if_pos hj)).symm
    · rw [if_neg hj]; exact (congrArg (fun x : Int32 => x.toInt8.toInt32) (if_neg hj)).symm
  rw [hf] at hP1 hD1
  have hset := wo_set (M' := cpA M o k o' k' n) hD hi0' (cel_wAB hak') (fun q' hq => cel_wA' hq)
  erw [hset] at hP1 hD1
  exact kk H1 locs1 ⟨⟨hP1, hD1, wr_wA hW (by rintro ⟨rfl, rfl⟩; exact absurd hak' (by decide))⟩, hS1⟩
theorem r_alen (X : Cx p s m args meth c D cy ad A own cc nL ret) (hS : St D cy ad ns A M s.heap H locs) {ci o k n : Nat} (ho : Ob ns ci o) (hak : ak ci k = 2) (hn : ln ci k = n) {v : Int32} (hv : Int32.ofNat n = v) (hdg : decode cc pc = .ok (.arraylength, 1))
    (kk : W p l e R s m args below meth c H locs cells slots Q (F0 m (pc + 1) ls (.int v :: rest))) : W p l e R s m args below meth c H locs cells slots Q (F0 m pc ls (.ref (ad o (k + 1)) :: rest)) := by
  obtain ⟨hx, hb, hml, hown, hts, hK, hr, hlk, hA, hG⟩ := X
  obtain ⟨⟨hP, hD, hW⟩, hSS⟩ := hS
  obtain ⟨rfl, -, hm⟩ := ho
  subst hn
  obtain ⟨i, hi0, hi⟩ := wo_get (cy := cy) (ad := ad) (M := M) (hm k (by rw [hak]; decide))
  rw [cel_arrB hak] at hi
  exact va_alen hx hb hK hP i 2 hi rfl hv hdg kk
/-- the images' cells -/
def imgAt (M : Mem) (j : Nat) : Option Nat := if gA M 0 1 j = 0 then none else some (21 + 9 * j)
theorem r_imgld (X : Cx p s m args meth c D cy ad A own cc nL ret) (hS : St D cy ad ns A M s.heap H locs) (ho : Ob ns 9 0) {j : Int32} (hin : vp_in j 3) (hdg : decode cc pc = .ok (.aaload, 1))
    (kk : W p l e R s m args below meth c H locs cells slots Q (F0 m (pc + 1) ls (rv ad (imgAt M (ix j)) :: rest))) : W p l e R s m args below meth c H locs cells slots Q (F0 m pc ls (.int j :: .ref (ad 0 (1 + 1)) :: rest)) := by
  obtain ⟨hx, hb, hml, hown, hts, hK, hr, hlk, hA, hG⟩ := X
  obtain ⟨⟨hP, hD, hW⟩, hSS⟩ := hS
  obtain ⟨ho, -, hm⟩ := ho
  obtain ⟨i, hi0, hi⟩ := wo_get (cy := cy) (ad := ad) (M := M) (hm 1 (by decide))
  have hce : cel cy ad M (0, 1 + 1) = (ad 0 (1 + 1), .inl (cy 8, 3, .inr (.inr (.inr (.inr (fun j => if gA M 0 1 j = 0 then none else some (ad (21 + 9 * j) 0))))))) := rfl
  rw [hce] at hi
  refine va_aldq hx hb hK hP i 8 hi rfl hin hdg ?_
  have he : va_rf (if gA M 0 1 j.toNatClampNeg = 0 then none else some (ad (21 + 9 * j.toNatClampNeg) 0)) = rv ad (imgAt M (ix j)) := by
    unfold imgAt ix
    by_cases h : gA M 0 1 j.toNatClampNeg = 0
    · rw [if_pos h, if_pos h]; rfl
    · rw [if_neg h, if_neg h]; rfl
  rw [he]
  exact kk
theorem nm_mem {β : Type} {M1 : Mem} {k : Mem → Option β} {r : β} (hS : St D cy ad ns A M1 s.heap H locs) (h : nm M1 k = some r) : ∃ z, z = M1 ∧ St D cy ad ns A z s.heap H locs ∧ k z = some r := ⟨M1, rfl, hS, h⟩
theorem ts_out {x : Int32} {lo hi : Int} (h : ∀ k : Int, lo ≤ k → k ≤ hi → ¬ x.toInt = k) : x.toInt < lo ∨ hi < x.toInt := by
  rcases Int.lt_or_le x.toInt lo with h1 | h1
  · exact Or.inl h1
  · rcases Int.lt_or_le hi x.toInt with h2 | h2
    · exact Or.inr h2
    · exact absurd rfl (h _ h1 h2)
end RowsA
/-! loops, by steps -/
def lp {α β : Type} (F : (α → Option β) → α → Option β) : Nat → α → Option β
  | 0, _ => none
  | n + 1, a => F (lp F n) a
def FU : Nat := 5000
def ushr (x y : Int32) : Int32 := (x.toUInt32 >>> (y.toUInt32 &&& Int32.toUInt32 31)).toInt32
def mxI (x y : Int32) : Int32 := if x < y then y else x
def mnI (x y : Int32) : Int32 := if y < x then y else x
def abI (x : Int32) : Int32 := if 0 ≤ x then x else 0 - x
/-! the class's objects -/
theorem o_of {ns : List (Nat × Nat)} (hN : NsC ns) {o c : Nat} (h : o < 21) (hc : oc o = c) : Ob ns c o := by subst hc; exact hN.1 o h
theorem o_t {ns : List (Nat × Nat)} (hN : NsC ns) : (0, 0) ∈ ns := (hN.1 0 (by decide)).2.1
