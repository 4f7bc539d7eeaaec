/-! THE TYPED MEMORY: what the cells of a system hold, by object and field (never by address) -/
abbrev Mem : Type := (Nat → Nat → Int32) × (Nat → Nat → Int64) × (Nat → Nat → Nat → Int32) × (Nat → Nat → Nat → Int64) × (Nat → Nat → Nat)
def gI (M : Mem) (o k : Nat) : Int32 := M.1 o k
def gL (M : Mem) (o k : Nat) : Int64 := M.2.1 o k
def gA (M : Mem) (o k : Nat) : Nat → Int32 := M.2.2.1 o k
def gB (M : Mem) (o k : Nat) : Nat → Int64 := M.2.2.2.1 o k
def gR (M : Mem) (o k : Nat) : Nat := M.2.2.2.2 o k
def sI (M : Mem) (o k : Nat) (v : Int32) : Mem := (fun a b => if a = o ∧ b = k then v else M.1 a b, M.2)
def sL (M : Mem) (o k : Nat) (v : Int64) : Mem := (M.1, fun a b => if a = o ∧ b = k then v else M.2.1 a b, M.2.2)
def wA (M : Mem) (o k : Nat) (f : Nat → Int32) : Mem := (M.1, M.2.1, fun a b => if a = o ∧ b = k then f else M.2.2.1 a b, M.2.2.2)
def wB (M : Mem) (o k : Nat) (f : Nat → Int64) : Mem := (M.1, M.2.1, M.2.2.1, fun a b => if a = o ∧ b = k then f else M.2.2.2.1 a b, M.2.2.2.2)
def sR (M : Mem) (o k : Nat) (v : Nat) : Mem := (M.1, M.2.1, M.2.2.1, M.2.2.2.1, fun a b => if a = o ∧ b = k then v else M.2.2.2.2 a b)
def sA (M : Mem) (o k j : Nat) (v : Int32) : Mem := wA M o k (upd (gA M o k) j v)
def sB (M : Mem) (o k j : Nat) (v : Int64) : Mem := wB M o k (vp_updL (gB M o k) j v)
/-! the steps of the told functions -/
def bn {α β : Type} (x : Option α) (k : α → Option β) : Option β := match x with
  | none => none
  | some a => k a
def bp {α β γ : Type} (x : Option (α × β)) (k : α → β → Option γ) : Option γ := match x with
  | none => none
  | some q => k q.1 q.2
def nm {α β : Type} (e : α) (k : α → Option β) : Option β := k e
def gin {β : Type} (j : Int32) (n : Nat) (x : Option β) : Option β := if j < 0 ∨ n ≤ j.toNatClampNeg then none else x
def gnz {β : Type} (y : Int32) (x : Option β) : Option β := if y = 0 then none else x
def gnl {β : Type} (y : Int64) (x : Option β) : Option β := if y = 0 then none else x
def gbl {β : Type} (v : Int32) (k : Bool → Option β) : Option β := if v = 0 then k false else if v = 1 then k true else none
def b2i (b : Bool) : Int32 := match b with
  | false => 0
  | true => 1
def opt {β : Type} (x : Option Nat) (a : Option β) (k : Nat → Option β) : Option β := match x with
  | none => a
  | some o => k o
def ix (j : Int32) : Nat := j.toNatClampNeg
theorem bn_of {α β : Type} {x : Option α} {k : α → Option β} {r : β} (h : bn x k = some r) : ∃ a, x = some a ∧ k a = some r := by
  cases x with
  | none => cases h
  | some a => exact ⟨a, rfl, h⟩
theorem bp_of {α β γ : Type} {x : Option (α × β)} {k : α → β → Option γ} {r : γ} (h : bp x k = some r) : ∃ a b, x = some (a, b) ∧ k a b = some r := by
  cases x with
  | none => cases h
  | some q => exact ⟨q.1, q.2, rfl, h⟩
theorem nm_of {α β : Type} {y e : α} {k : α → Option β} {r : Option β} (ey : y = e) (h : nm e k = r) : k y = r := by subst ey; exact h
theorem gin_of {β : Type} {j : Int32} {n : Nat} {x : Option β} {r : β} (h : gin j n x = some r) : vp_in j n ∧ x = some r := by
  unfold gin at h
  by_cases c : j < 0 ∨ n ≤ j.toNatClampNeg
  · rw [if_pos c] at h; cases h
  · rw [if_neg c] at h; exact ⟨c, h⟩
theorem gnz_of {β : Type} {y : Int32} {x : Option β} {r : β} (h : gnz y x = some r) : ¬ y = 0 ∧ x = some r := by
  unfold gnz at h
  by_cases c : y = 0
  · rw [if_pos c] at h; cases h
  · rw [if_neg c] at h; exact ⟨c, h⟩
theorem gnl_of {β : Type} {y : Int64} {x : Option β} {r : β} (h : gnl y x = some r) : ¬ y = 0 ∧ x = some r := by
  unfold gnl at h
  by_cases c : y = 0
  · rw [if_pos c] at h; cases h
  · rw [if_neg c] at h; exact ⟨c, h⟩
theorem gbl_of {β : Type} {v : Int32} {k : Bool → Option β} {r : β} (h : gbl v k = some r) : ∃ b : Bool, v = b2i b ∧ k b = some r := by
  unfold gbl at h
  by_cases c : v = 0
  · rw [if_pos c] at h; exact ⟨false, c, h⟩
  · rw [if_neg c] at h
    by_cases c2 : v = 1
    · rw [if_pos c2] at h; exact ⟨true, c2, h⟩
    · rw [if_neg c2] at h; cases h
theorem if_t {β : Type} {c : Prop} {i : Decidable c} {a b r : β} (h : c) (g : (@ite β c i a b) = r) : a = r := by rw [if_pos h] at g; exact g
theorem if_f {β : Type} {c : Prop} {i : Decidable c} {a b r : β} (h : ¬ c) (g : (@ite β c i a b) = r) : b = r := by rw [if_neg h] at g; exact g
theorem if_bt {β : Type} {q : Bool} {a b r : β} (h : ¬ b2i q = 0) (g : (if q = true then a else b) = r) : a = r := by
  cases q with
  | false => exact absurd rfl h
  | true => exact g
theorem if_bf {β : Type} {q : Bool} {a b r : β} (h : b2i q = 0) (g : (if q = true then a else b) = r) : b = r := by
  cases q with
  | false => exact g
  | true => exact absurd h (by decide)
theorem some_of {β : Type} {a r : β} (h : some a = some r) : a = r := Option.some.inj h
theorem b2i_nar (b : Bool) : narrow .boolean (.int (b2i b)) = .int (b2i b) := by cases b <;> decide +kernel
/-! THE SHAPE: objects by number. 0 the SewnYear; 1 its Told (2,3 coats, 4,5 lives, 6,7 towns, 8,9 sights); 10 Reader (11 coat, 12 life, 13 town, 14 sight); 15 Wear (16 its first coat); 17 Sewing (18); 19 Walk (20 its first town); 21, 30, 39 the images' Tolds, each with its eight; 100 the reference -/
def ocT : List Nat := [9, 5, 0, 0, 1, 1, 6, 6, 4, 4, 2, 0, 1, 6, 4, 8, 0, 3, 0, 7, 6, 5, 0, 0, 1, 1, 6, 6, 4, 4, 5, 0, 0, 1, 1, 6, 6, 4, 4, 5, 0, 0, 1, 1, 6, 6, 4, 4]
def oc (o : Nat) : Nat := if o = 100 then 10 else ocT.getD o 0
def kdT : List (List Nat) := [[0, 0, 2, 2, 2, 2, 2], [0, 2, 2], [6, 7, 8, 9, 2, 2, 4, 0, 0, 0, 0, 0, 0, 0], [3, 0, 2, 2, 2, 2, 2, 2, 2, 2], [0, 2, 2, 2], [2, 0, 0, 0, 2, 2, 2, 2, 2], [0, 0, 0, 0, 0, 2, 2, 2, 2, 2, 2], [3, 0, 0, 0, 0, 0, 2, 2, 2, 2], [3, 0, 0, 0, 0, 0, 0, 2, 2], [6, 2, 15, 20, 22, 24], [0, 2, 2, 2, 2, 2, 2, 2, 2, 2, 0, 0, 0, 0, 0, 1, 0, 0, 0, 2, 2, 0, 0, 0, 0, 0, 0, 2, 2, 0, 0, 0, 0, 0, 2, 0, 2, 2, 2, 0, 0, 0, 0, 2, 2, 0, 0, 0, 2, 2, 0, 2, 2, 0, 2, 2, 2, 2]]
def akT : List (List Nat) := [[99, 99, 0, 0, 0, 0, 0], [99, 0, 0], [99, 99, 99, 99, 0, 0, 2, 99, 99, 99, 99, 99, 99, 99], [99, 99, 0, 0, 0, 0, 0, 0, 0, 0], [99, 0, 0, 0], [2, 99, 99, 99, 0, 4, 5, 6, 7], [99, 99, 99, 99, 99, 0, 0, 0, 0, 0, 0], [99, 99, 99, 99, 99, 99, 0, 0, 0, 0], [99, 99, 99, 99, 99, 99, 99, 0, 0], [99, 8, 99, 99, 99, 99], [99, 2, 0, 0, 0, 0, 0, 0, 0, 0, 99, 99, 99, 99, 99, 99, 99, 99, 99, 0, 0, 99, 99, 99, 99, 99, 99, 0, 0, 99, 99, 99, 99, 99, 1, 99, 0, 0, 0, 99, 99, 99, 99, 0, 0, 99, 99, 99, 0, 0, 99, 1, 1, 99, 0, 0, 0, 3]]
def lnT : List (List Nat) := [[0, 0, 9, 9, 9, 9, 100], [0, 40, 40], [0, 0, 0, 0, 4, 4, 0, 0, 0, 0, 0, 0, 0, 0], [0, 0, 9, 9, 9, 9, 4, 100, 512, 2048], [0, 10, 10, 10], [600, 0, 0, 0, 4, 2, 2, 2, 2], [0, 0, 0, 0, 0, 6, 6, 6, 6, 6, 6], [0, 0, 0, 0, 0, 0, 6, 6, 6, 6], [0, 0, 0, 0, 0, 0, 0, 9, 9], [0, 3, 0, 0, 0, 0], [0, 2400, 4, 4, 4, 16, 1104, 648, 328, 248, 0, 0, 0, 0, 0, 0, 0, 0, 0, 138, 4, 0, 0, 0, 0, 0, 0, 9, 9, 0, 0, 0, 0, 0, 512, 0, 512, 4608, 9, 0, 0, 0, 0, 6, 6, 0, 0, 0, 6, 6, 0, 512, 512, 0, 9, 4, 512, 3]]
def nfT : List Nat := [7, 3, 14, 10, 4, 9, 11, 10, 9, 6, 58]
def kd (c k : Nat) : Nat := (kdT.getD c []).getD k 0
def ak (c k : Nat) : Nat := (akT.getD c []).getD k 99
def ln (c k : Nat) : Nat := (lnT.getD c []).getD k 0
def nf (c : Nat) : Nat := nfT.getD c 0
def fv (ad : Nat → Nat → Nat) (M : Mem) (o k : Nat) : Value := match kd (oc o) k with
  | 0 => .int (gI M o k)
  | 1 => .long (gL M o k)
  | 2 => .ref (ad o (k + 1))
  | 3 => .ref (ad (gR M o k) 0)
  | 4 => .ref (if gR M o k = 0 then ad o (k + 1) else ad (gR M o k) 1)
  | n + 5 => .ref (ad (o + n) 0)
def ce (cy : Nat → ClassId) (ad : Nat → Nat → Nat) (M : Mem) (o k : Nat) : va_E := match ak (oc o) k with
  | 0 => .inl (cy 0, ln (oc o) k, .inl (gA M o k))
  | 1 => .inl (cy 1, ln (oc o) k, .inr (.inl (gB M o k)))
  | 2 => .inl (cy 2, ln (oc o) k, .inl (fun j => (gA M o k j).toInt8.toInt32))
  | 3 => .inl (cy 3, ln (oc o) k, .inl (gA M o k))
  | 8 => .inl (cy 8, ln (oc o) k, .inr (.inr (.inr (.inr (fun j => if gA M o k j = 0 then none else some (ad (21 + 9 * j) 0))))))
  | n => .inl (cy n, ln (oc o) k, .inr (.inr (.inr (.inr (fun j => some (ad (o + (2 * n - 7) + j) 0))))))
def cel (cy : Nat → ClassId) (ad : Nat → Nat → Nat) (M : Mem) (q : Nat × Nat) : Nat × va_E := (ad q.1 q.2, match q.2 with
  | 0 => .inr (oc q.1, (List.range (nf (oc q.1))).map (fv ad M q.1))
  | k + 1 => ce cy ad M q.1 k)
def wo (cy : Nat → ClassId) (ad : Nat → Nat → Nat) (M : Mem) (ns : List (Nat × Nat)) : va_W := ns.map (cel cy ad M)
def tysE (cy : Nat → ClassId) : List (ClassId × FieldType) := [(cy 0, .int), (cy 1, .long), (cy 2, .byte), (cy 3, .boolean), (cy 4, .object "SewnYear$Coat"), (cy 5, .object "SewnYear$Life"), (cy 6, .object "SewnYear$Town"), (cy 7, .object "SewnYear$Sight"), (cy 8, .object "SewnYear$Told")]
/-- object o is there, of class c, with all arrays of its own -/
def Ob (ns : List (Nat × Nat)) (c o : Nat) : Prop := oc o = c ∧ (o, 0) ∈ ns ∧ ∀ k, ak c k ≠ 99 → (o, k + 1) ∈ ns
/-- the references that change are good -/
def WR (ns : List (Nat × Nat)) (M : Mem) : Prop := ((0, 0) ∈ ns → Ob ns 0 (gR M 15 0) ∧ Ob ns 0 (gR M 17 0) ∧ Ob ns 6 (gR M 19 0) ∧ (gR M 10 6 = 0 ∨ Ob ns 5 (gR M 10 6))) ∧ ((0, 0) ∈ ns → ∀ j, j < 3 → ¬ gA M 0 1 j = 0 → Ob ns 5 (21 + 9 * j))
/-- the class's system is there -/
def NsC (ns : List (Nat × Nat)) : Prop := (∀ o, o < 21 → Ob ns (oc o) o) ∧ ∀ t, Ob ns 5 t → ∀ j, j < 2 → Ob ns 0 (t + 1 + j) ∧ Ob ns 1 (t + 3 + j) ∧ Ob ns 6 (t + 5 + j) ∧ Ob ns 4 (t + 7 + j)
def Wd (D : va_G) (cy : Nat → ClassId) (ad : Nat → Nat → Nat) (ns : List (Nat × Nat)) (A : Nat → Prop) (M : Mem) (H : Heap) : Prop := va_P D vwCl (wo cy ad M ns) H ∧ va_D A (wo cy ad M ns) ∧ WR ns M
def St (D : va_G) (cy : Nat → ClassId) (ad : Nat → Nat → Nat) (ns : List (Nat × Nat)) (A : Nat → Prop) (M : Mem) (H0 H : Heap) (locs : List Loc) : Prop := Wd D cy ad ns A M H ∧ va_S A H0 H locs
/-- the tables' words that no method keeps by itself: the nest's links, arrays of objects, the texts of the words, two statics of the JDK -/
def nestL : List (String × Nat × MethodName) := [("SewnYear", 11, yX5_init), ("SewnYear$Told", 25, yX0_init), ("SewnYear$Told", 32, yX1_init), ("SewnYear$Told", 39, yX6_init), ("SewnYear$Told", 46, yX4_init), ("SewnYear", 22, yX2_init), ("SewnYear$Reader", 11, yX0_init), ("SewnYear$Reader", 20, yX1_init), ("SewnYear$Reader", 27, yX6_init), ("SewnYear$Reader", 34, yX4_init), ("SewnYear", 29, yX8_init), ("SewnYear$Wear", 11, yX0_init), ("SewnYear", 36, yX3_init), ("SewnYear$Sewing", 11, yX0_init), ("SewnYear", 43, yX7_init), ("SewnYear$Walk", 11, yX6_init), ("SewnYear$Sewing", 123, yX9_begun), ("SewnYear$Town", 68, yX9_begun)]
def aoL : List String := ["SewnYear$Coat", "SewnYear$Life", "SewnYear$Town", "SewnYear$Sight", "SewnYear$Told"]
def strTx : List String := ["seam", "after", "grows", "pace", "sew", "unpick", "tear", "grow", "shrink", "day", "speed", "miles", "tailor", "wearer", "away", "before", "at", "not"]
def strIx : List Nat := [131, 137, 139, 141, 143, 145, 147, 149, 151, 153, 155, 157, 159, 161, 163, 165, 167, 169]
def strBt : List (List Int32) := [[115, 101, 97, 109], [97, 102, 116, 101, 114], [103, 114, 111, 119, 115], [112, 97, 99, 101], [115, 101, 119], [117, 110, 112, 105, 99, 107], [116, 101, 97, 114], [103, 114, 111, 119], [115, 104, 114, 105, 110, 107], [100, 97, 121], [115, 112, 101, 101, 100], [109, 105, 108, 101, 115], [116, 97, 105, 108, 111, 114], [119, 101, 97, 114, 101, 114], [97, 119, 97, 121], [98, 101, 102, 111, 114, 101], [97, 116], [110, 111, 116]]
def strLn : List Nat := [4, 5, 5, 4, 3, 6, 4, 4, 6, 3, 5, 5, 6, 6, 4, 6, 2, 3]
def Gx (ad : Nat → Nat → Nat) (A : Nat → Prop) (U : State) (H : Heap) : Prop := (∀ q ∈ nestL, va_Nw (.methodLinkNest q.1 q.2.1 q.2.2 "SewnYear") U) ∧ (∀ C ∈ aoL, va_AO C U) ∧ (∀ i, i < 18 → vk_R "SewnYear$Reader" (strIx.getD i 0) (strTx.getD i "") (ad 200 i) U) ∧ vk_S 18 strLn strBt (ad 200) (ad 201) A U H ∧ va_Z "java/lang/String" "COMPACT_STRINGS" "Z" (.int 1) A U H ∧ va_Zq "jdk/internal/util/Preconditions" "SIOOBE_FORMATTER" "Ljava/util/function/BiFunction;" A U H
theorem Gx_warm {ad : Nat → Nat → Nat} {A : Nat → Prop} {s U : State} {H H1 : Heap} (hW : s.WarmedH U.vm) (hq : ∀ a : Nat, a < H.size → ¬ A a → H1[a]? = H[a]?) (h : Gx ad A s H) : Gx ad A U H1 := by
  obtain ⟨h1, h2, h3, h4, h5, h6⟩ := h
  exact ⟨fun q hq => va_Nw.warmM hW (h1 q hq), fun C hC => (h2 C hC).moved hW.alike, fun i hi => (h3 i hi).warm hW, (h4.moved hW.alike).kept hq, (h5.moved hW.alike).kept hq, (h6.moved hW.alike).kept hq⟩
theorem Gx_same {ad : Nat → Nat → Nat} {A : Nat → Prop} {u U : State} {H : Heap} (hv : U.vm = u.vm) (h : Gx ad A u H) : Gx ad A U H := by
  obtain ⟨h1, h2, h3, h4, h5, h6⟩ := h
  have ha : u.vm.Alike U.vm := by rw [hv]; exact Vm.Alike.refl u.vm
  exact ⟨fun q hq => va_Nw.same rfl hv.symm (h1 q hq), fun C hC => (h2 C hC).moved ha, fun i hi => vk_R.same hv (h3 i hi), h4.moved ha, h5.moved ha, h6.moved ha⟩
/-- what stays the same throughout a method's run -/
def Cx (p : Program) (s : State) (m : MethodId) (args : Array Value) (meth : Method) (c : Code) (D : va_G) (cy : Nat → ClassId) (ad : Nat → Nat → Nat) (A : Nat → Prop) (own : String) (cc : ByteArray) (nL : Nat) (ret : Option FieldType) : Prop :=
  p.tables.exec = Jvm.exec ∧ c.code = cc ∧ c.maxLocals = nL ∧ s.vm.findClass own = some m.cls ∧ (∀ w ∈ Tb, w.before args s = true) ∧ va_K D vwCl (tysE cy) s ∧ meth.sig.returnType = ret ∧ meth.locks = false ∧ (∀ q, s.heap.size ≤ q → A q) ∧ Gx ad A s s.heap
/-- a method's end -/
def QC (D : va_G) (cy : Nat → ClassId) (ad : Nat → Nat → Nat) (ns : List (Nat × Nat)) (A : Nat → Prop) (M : Mem) (rv : Option Value) : Array Value → State → Outcome → State → Prop := fun _ st o t => o = .returned rv ∧ Wd D cy ad ns A M t.heap ∧ va_K D vwCl (tysE cy) t ∧ va_F A st t
/-- THE CONTRACT of a method that makes nothing: from memory M it comes to memory M' and answers rv -/
def Ct (l : Launch) (y : MethodName) (b : ByteArray) (nL : Nat) (ret : Option FieldType) (rm : Room) (D : va_G) (cy : Nat → ClassId) (ad : Nat → Nat → Nat) (ns : List (Nat × Nat)) (A : Nat → Prop) (av : List Value) (M M' : Mem) (rv : Option Value) : Prop :=
  Met l y (Cond.code y b nL ret :: Tb) rm (va_Pc av (fun U => Wd D cy ad ns A M U.heap ∧ va_K D vwCl (tysE cy) U ∧ (∀ q, U.heap.size ≤ q → A q) ∧ Gx ad A U U.heap)) (QC D cy ad ns A M' rv) 0 0 A
/-- what the tables say of a method: virtual, static -/
def Mv (y : MethodName) (C : String) (b : ByteArray) (nL : Nat) (ret : Option FieldType) (n : Nat) : Prop := Cond.code y b nL ret ∈ Tb ∧ Cond.instanceMethod y ∈ Tb ∧ Cond.selects C y y ∈ Tb ∧ Cond.initialized y.cls ∈ Tb ∧ (y.cls ≠ "java/lang/invoke/MethodHandle" ∧ y.cls ≠ "java/lang/invoke/VarHandle") ∧ (parseMethodDescriptor y.desc).map (fun d => d.parameters.length) = some n
def Ms (y : MethodName) (b : ByteArray) (nL : Nat) (ret : Option FieldType) (n : Nat) : Prop := Cond.code y b nL ret ∈ Tb ∧ Cond.static y ∈ Tb ∧ Cond.initialized y.cls ∈ Tb ∧ (y.cls ≠ "java/lang/invoke/MethodHandle" ∧ y.cls ≠ "java/lang/invoke/VarHandle") ∧ (parseMethodDescriptor y.desc).map (fun d => d.parameters.length) = some n
section CoreA
variable {D : va_G} {cy : Nat → ClassId} {ad : Nat → Nat → Nat} {ns : List (Nat × Nat)} {A : Nat → Prop} {M M' : Mem}
theorem wo_at {i : Nat} {q : Nat × Nat} (h : ns[i]? = some q) : (wo cy ad M ns)[i]? = some (cel cy ad M q) := by
  unfold wo
  rw [List.getElem?_map, h]
  rfl
theorem wo_get {q : Nat × Nat} (h : q ∈ ns) : ∃ i : Nat, ns[i]? = some q ∧ (wo cy ad M ns)[i]? = some (cel cy ad M q) := by
  obtain ⟨i, hi⟩ := List.getElem?_of_mem h
  exact ⟨i, hi, wo_at hi⟩
theorem wo_set (hD : va_D A (wo cy ad M ns)) {i : Nat} {q : Nat × Nat} {e : va_E} (hi : ns[i]? = some q) (h1 : cel cy ad M' q = (ad q.1 q.2, e)) (h2 : ∀ q', q' ≠ q → cel cy ad M' q' = cel cy ad M q') : (wo cy ad M ns).set i (ad q.1 q.2, e) = wo cy ad M' ns := by
  apply List.ext_getElem?
  intro j
  have hl : i < (wo cy ad M ns).length := (List.getElem?_eq_some_iff.mp (wo_at (cy := cy) (ad := ad) (M := M) hi)).1
  by_cases hj : j = i
  · subst hj
    rw [List.getElem?_set_self hl, wo_at hi, h1]
  · rw [List.getElem?_set_ne (Ne.symm hj)]
    cases hq : ns[j]? with
    | none =>
      unfold wo
      rw [List.getElem?_map, List.getElem?_map, hq]
      rfl
    | some q' =>
      rw [wo_at hq, wo_at hq]
      by_cases hqq : q' = q
      · subst hqq
        exact absurd (hD.1 j i _ _ (wo_at hq) (wo_at hi) rfl) hj
      · rw [h2 q' hqq]
theorem map_set {n k : Nat} {f f' : Nat → Value} {v : Value} (hk : k < n) (h1 : f' k = v) (h2 : ∀ j, j ≠ k → f' j = f j) : ((List.range n).map f).set k v = (List.range n).map f' := by
  apply List.ext_getElem?
  intro j
  by_cases hj : j = k
  · subst hj
    rw [List.getElem?_set_self (by simpa using hk), List.getElem?_map, List.getElem?_range hk, ← h1]
    rfl
  · rw [List.getElem?_set_ne (Ne.symm hj), List.getElem?_map, List.getElem?_map]
    by_cases hn : j < n
    · rw [List.getElem?_range hn]
      exact congrArg some (h2 j hj).symm
    · rw [List.getElem?_eq_none (by simpa using Nat.not_lt.mp hn)]
      rfl
theorem cel_sI {o k : Nat} {v : Int32} (hk : k < nf (oc o)) (h : kd (oc o) k = 0) : cel cy ad (sI M o k v) (o, 0) = (ad o 0, .inr (oc o, ((List.range (nf (oc o))).map (fv ad M o)).set k (.int v))) := by
  show (ad o 0, Sum.inr (oc o, _)) = _
  rw [map_set hk (f' := fv ad (sI M o k v) o)]
  · simp [fv, h, gI, sI]
  · intro j hj
    have h1 : gI (sI M o k v) o j = gI M o j := by simp [gI, sI, hj]
    unfold fv
    rw [h1]
    rfl
theorem cel_sI' {o k : Nat} {v : Int32} {q : Nat × Nat} (hq : q ≠ (o, 0)) : cel cy ad (sI M o k v) q = cel cy ad M q := by
  obtain ⟨a, b⟩ := q
  cases b with
  | zero =>
    have ha : ¬ a = o := fun h => hq (by rw [h])
    show (ad a 0, Sum.inr (oc a, _)) = (ad a 0, Sum.inr (oc a, _))
    have : fv ad (sI M o k v) a = fv ad M a := by
      funext j
      have h1 : gI (sI M o k v) a j = gI M a j := by simp [gI, sI, ha]
      unfold fv
      rw [h1]
      rfl
    rw [this]
  | succ b => rfl
theorem cel_sL {o k : Nat} {v : Int64} (hk : k < nf (oc o)) (h : kd (oc o) k = 1) : cel cy ad (sL M o k v) (o, 0) = (ad o 0, .inr (oc o, ((List.range (nf (oc o))).map (fv ad M o)).set k (.long v))) := by
  show (ad o 0, Sum.inr (oc o, _)) = _
  rw [map_set hk (f' := fv ad (sL M o k v) o)]
  · simp [fv, h, gL, sL]
  · intro j hj
    have h1 : gL (sL M o k v) o j = gL M o j := by simp [gL, sL, hj]
    unfold fv
    rw [h1]
    rfl
theorem cel_sL' {o k : Nat} {v : Int64} {q : Nat × Nat} (hq : q ≠ (o, 0)) : cel cy ad (sL M o k v) q = cel cy ad M q := by
  obtain ⟨a, b⟩ := q
  cases b with
  | zero =>
    have ha : ¬ a = o := fun h => hq (by rw [h])
    show (ad a 0, Sum.inr (oc a, _)) = (ad a 0, Sum.inr (oc a, _))
    have : fv ad (sL M o k v) a = fv ad M a := by
      funext j
      have h1 : gL (sL M o k v) a j = gL M a j := by simp [gL, sL, ha]
      unfold fv
      rw [h1]
      rfl
    rw [this]
  | succ b => rfl
theorem cel_sR {o k u : Nat} (hk : k < nf (oc o)) (h : kd (oc o) k = 3) : cel cy ad (sR M o k u) (o, 0) = (ad o 0, .inr (oc o, ((List.range (nf (oc o))).map (fv ad M o)).set k (.ref (ad u 0)))) := by
  show (ad o 0, Sum.inr (oc o, _)) = _
  rw [map_set hk (f' := fv ad (sR M o k u) o)]
  · simp [fv, h, gR, sR]
  · intro j hj
    have h1 : gR (sR M o k u) o j = gR M o j := by simp [gR, sR, hj]
    unfold fv
    rw [h1]
    rfl
theorem cel_sR4 {o k u : Nat} (hk : k < nf (oc o)) (h : kd (oc o) k = 4) (hu : ¬ u = 0) : cel cy ad (sR M o k u) (o, 0) = (ad o 0, .inr (oc o, ((List.range (nf (oc o))).map (fv ad M o)).set k (.ref (ad u 1)))) := by
  show (ad o 0, Sum.inr (oc o, _)) = _
  rw [map_set hk (f' := fv ad (sR M o k u) o)]
  · simp [fv, h, gR, sR, hu]
  · intro j hj
    have h1 : gR (sR M o k u) o j = gR M o j := by simp [gR, sR, hj]
    unfold fv
    rw [h1]
    rfl
theorem cel_sR' {o k u : Nat} {q : Nat × Nat} (hq : q ≠ (o, 0)) : cel cy ad (sR M o k u) q = cel cy ad M q := by
  obtain ⟨a, b⟩ := q
  cases b with
  | zero =>
    have ha : ¬ a = o := fun h => hq (by rw [h])
    show (ad a 0, Sum.inr (oc a, _)) = (ad a 0, Sum.inr (oc a, _))
    have : fv ad (sR M o k u) a = fv ad M a := by
      funext j
      have h1 : gR (sR M o k u) a j = gR M a j := by simp [gR, sR, ha]
      unfold fv
      rw [h1]
      rfl
    rw [this]
  | succ b => rfl
theorem cel_wA {o k n : Nat} {f : Nat → Int32} (h : ak (oc o) k = n) (hn : n = 0 ∨ n = 3) : cel cy ad (wA M o k f) (o, k + 1) = (ad o (k + 1), .inl (cy n, ln (oc o) k, .inl f)) := by
  subst h
  show (ad o (k + 1), ce cy ad (wA M o k f) o k) = _
  rcases hn with h | h <;> simp [ce, h, gA, wA]
theorem cel_wA' {o k : Nat} {f : Nat → Int32} {q : Nat × Nat} (hq : q ≠ (o, k + 1)) : cel cy ad (wA M o k f) q = cel cy ad M q := by
  obtain ⟨a, b⟩ := q
  cases b with
  | zero => rfl
  | succ b =>
    have ha : ¬ (a = o ∧ b = k) := fun h => hq (by rw [h.1, h.2])
    show (ad a (b + 1), ce cy ad (wA M o k f) a b) = (ad a (b + 1), ce cy ad M a b)
    have h : gA (wA M o k f) a b = gA M a b := by simp only [gA, wA, ha, if_false]
    have h2 : gB (wA M o k f) a b = gB M a b := rfl
    simp only [ce, h, h2]
theorem cel_wB {o k : Nat} {f : Nat → Int64} (h : ak (oc o) k = 1) : cel cy ad (wB M o k f) (o, k + 1) = (ad o (k + 1), .inl (cy 1, ln (oc o) k, .inr (.inl f))) := by
  show (ad o (k + 1), ce cy ad (wB M o k f) o k) = _
  simp [ce, h, gB, wB]
theorem cel_wB' {o k : Nat} {f : Nat → Int64} {q : Nat × Nat} (hq : q ≠ (o, k + 1)) : cel cy ad (wB M o k f) q = cel cy ad M q := by
  obtain ⟨a, b⟩ := q
  cases b with
  | zero => rfl
  | succ b =>
    have ha : ¬ (a = o ∧ b = k) := fun h => hq (by rw [h.1, h.2])
    show (ad a (b + 1), ce cy ad (wB M o k f) a b) = (ad a (b + 1), ce cy ad M a b)
    have h : gB (wB M o k f) a b = gB M a b := by simp only [gB, wB, ha, if_false]
    have h2 : gA (wB M o k f) a b = gA M a b := rfl
    simp only [ce, h, h2]
theorem cel_arr {o k n : Nat} (h : ak (oc o) k = n) (hn : n = 0 ∨ n = 3) : cel cy ad M (o, k + 1) = (ad o (k + 1), .inl (cy n, ln (oc o) k, .inl (gA M o k))) := by
  subst h
  show (ad o (k + 1), ce cy ad M o k) = _
  rcases hn with h | h <;> simp [ce, h]
theorem cel_arrB {o k : Nat} (h : ak (oc o) k = 2) : cel cy ad M (o, k + 1) = (ad o (k + 1), .inl (cy 2, ln (oc o) k, .inl (fun j => (gA M o k j).toInt8.toInt32))) := by
  show (ad o (k + 1), ce cy ad M o k) = _
  simp [ce, h]
theorem cel_wAB {o k : Nat} {f : Nat → Int32} (h : ak (oc o) k = 2) : cel cy ad (wA M o k f) (o, k + 1) = (ad o (k + 1), .inl (cy 2, ln (oc o) k, .inl (fun j => (f j).toInt8.toInt32))) := by
  show (ad o (k + 1), ce cy ad (wA M o k f) o k) = _
  simp [ce, h, gA, wA]
theorem cel_arrL {o k : Nat} (h : ak (oc o) k = 1) : cel cy ad M (o, k + 1) = (ad o (k + 1), .inl (cy 1, ln (oc o) k, .inr (.inl (gB M o k)))) := by
  show (ad o (k + 1), ce cy ad M o k) = _
  simp [ce, h]
theorem wr_sI {o k : Nat} {v : Int32} (h : WR ns M) : WR ns (sI M o k v) := h
theorem wr_sL {o k : Nat} {v : Int64} (h : WR ns M) : WR ns (sL M o k v) := h
theorem wr_wB {o k : Nat} {f : Nat → Int64} (h : WR ns M) : WR ns (wB M o k f) := h
theorem wr_wA {o k : Nat} {f : Nat → Int32} (h : WR ns M) (hk : ¬ (o = 0 ∧ k = 1)) : WR ns (wA M o k f) := by
  refine ⟨h.1, fun h0 j hj hne => h.2 h0 j hj ?_⟩
  have : gA (wA M o k f) 0 1 = gA M 0 1 := by
    simp only [gA, wA]
    rw [if_neg (fun q => hk ⟨q.1.symm, q.2.symm⟩)]
  rw [this] at hne
  exact hne
end CoreA
