/-! THE NEW WORLDS: what the constructors made, as typed memory -/
def n5L : List (Nat × Nat) := [(0, 0), (0, 1), (0, 5), (0, 6), (1, 0), (1, 3), (1, 4), (1, 5), (1, 6), (1, 7), (2, 0), (2, 3), (2, 4), (2, 5), (2, 6), (2, 7), (0, 7), (3, 0), (3, 2), (3, 3), (4, 0), (4, 2), (4, 3), (0, 8), (5, 0), (5, 6), (5, 7), (5, 8), (5, 9), (5, 10), (5, 11), (6, 0), (6, 6), (6, 7), (6, 8), (6, 9), (6, 10), (6, 11), (0, 9), (7, 0), (7, 2), (7, 3), (7, 4), (8, 0), (8, 2), (8, 3), (8, 4)]
def ns5 (t : Nat) : List (Nat × Nat) := n5L.map (fun q => (t + q.1, q.2))
def ns9 : List (Nat × Nat) := [(0, 0), (1, 0), (1, 1), (1, 5), (1, 6), (2, 0), (2, 3), (2, 4), (2, 5), (2, 6), (2, 7), (3, 0), (3, 3), (3, 4), (3, 5), (3, 6), (3, 7), (1, 7), (4, 0), (4, 2), (4, 3), (5, 0), (5, 2), (5, 3), (1, 8), (6, 0), (6, 6), (6, 7), (6, 8), (6, 9), (6, 10), (6, 11), (7, 0), (7, 6), (7, 7), (7, 8), (7, 9), (7, 10), (7, 11), (1, 9), (8, 0), (8, 2), (8, 3), (8, 4), (9, 0), (9, 2), (9, 3), (9, 4), (0, 2), (10, 0), (11, 0), (11, 3), (11, 4), (11, 5), (11, 6), (11, 7), (12, 0), (12, 2), (12, 3), (13, 0), (13, 6), (13, 7), (13, 8), (13, 9), (13, 10), (13, 11), (14, 0), (14, 2), (14, 3), (14, 4), (10, 5), (10, 6), (10, 7), (15, 0), (16, 0), (16, 3), (16, 4), (16, 5), (16, 6), (16, 7), (15, 8), (15, 9), (17, 0), (18, 0), (18, 3), (18, 4), (18, 5), (18, 6), (18, 7), (17, 3), (17, 4), (17, 5), (17, 6), (17, 7), (17, 8), (17, 9), (17, 10), (19, 0), (20, 0), (20, 6), (20, 7), (20, 8), (20, 9), (20, 10), (20, 11), (19, 7), (19, 8), (19, 9), (19, 10)]
def ns10 : List (Nat × Nat) := [(100, 0), (100, 2), (100, 3), (100, 4), (100, 5), (100, 6), (100, 7), (100, 8), (100, 9), (100, 10), (100, 20), (100, 21), (100, 28), (100, 29), (100, 35), (100, 37), (100, 38), (100, 39), (100, 44), (100, 45), (100, 49), (100, 50), (100, 52), (100, 53), (100, 55), (100, 56), (100, 57), (100, 58)]
def v5 (ad : Nat → Nat → Nat) (t i : Nat) : Nat := ad (t + (n5L.getD (i + 1) (0, 0)).1) (n5L.getD (i + 1) (0, 0)).2
def v9 (ad : Nat → Nat → Nat) (i : Nat) : Nat := ad (ns9.getD (i + 1) (0, 0)).1 (ns9.getD (i + 1) (0, 0)).2
def v10 (ad : Nat → Nat → Nat) (i : Nat) : Nat := ad (ns10.getD (i + 1) (0, 0)).1 (ns10.getD (i + 1) (0, 0)).2
def i0 (o k : Nat) : Int32 := match oc o, k with
  | 0, 1 => nI 1
  | 6, 2 => nI 3
  | 6, 3 => nI 2
  | 5, 3 => -1
  | _, _ => 0
/-- the memory of a new SewnYear -/
def I9 : Mem := (i0, fun _ _ => 0, fun _ _ _ => 0, fun _ _ _ => 0, fun o _ => match o with
  | 15 => 16
  | 17 => 18
  | 19 => 20
  | _ => 0)
/-- the memory of a new reference -/
def I10 : Mem := (fun _ _ => 0, fun _ _ => 0, fun _ k => match k with
  | 4 => upd (fun _ => 0) 0 (-1)
  | _ => fun _ => 0, fun _ _ _ => 0, fun _ _ => 0)
/-- the memory with a new Told at t -/
def nwM (t : Nat) (M : Mem) : Mem := (fun o k => if t ≤ o ∧ o < t + 9 then i0 o k else M.1 o k, M.2.1, fun o k => if t ≤ o ∧ o < t + 9 then fun _ => 0 else M.2.2.1 o k, M.2.2.2.1, M.2.2.2.2)
set_option maxRecDepth 100000 in
set_option maxHeartbeats 4000000 in
theorem w5_21 {cy : Nat → ClassId} {ad : Nat → Nat → Nat} {M : Mem} : EQ (made5 cy (ad 21 0) (v5 ad 21)) (wo cy ad (nwM 21 M) (ns5 21)) := by
  refine EQ_c (eqC_r rfl) ?_
  refine EQ_c (eqC_b rfl (fun _ => rfl)) ?_
  refine EQ_c (eqC_r rfl) ?_
  refine EQ_c (eqC_q rfl (fun j hj => by rcases (show j = 0 ∨ j = 1 by omega) with rfl | rfl <;> rfl)) ?_
  refine EQ_c (eqC_r rfl) ?_
  refine EQ_c (eqC_r rfl) ?_
  refine EQ_c (eqC_r rfl) ?_
  refine EQ_c (eqC_r rfl) ?_
  refine EQ_c (eqC_r rfl) ?_
  refine EQ_c (eqC_r rfl) ?_
  refine EQ_c (eqC_r rfl) ?_
  refine EQ_c (eqC_r rfl) ?_
  refine EQ_c (eqC_r rfl) ?_
  refine EQ_c (eqC_r rfl) ?_
  refine EQ_c (eqC_r rfl) ?_
  refine EQ_c (eqC_r rfl) ?_
  refine EQ_c (eqC_q rfl (fun j hj => by rcases (show j = 0 ∨ j = 1 by omega) with rfl | rfl <;> rfl)) ?_
  refine EQ_c (eqC_r rfl) ?_
  refine EQ_c (eqC_r rfl) ?_
  refine EQ_c (eqC_r rfl) ?_
  refine EQ_c (eqC_r rfl) ?_
  refine EQ_c (eqC_r rfl) ?_
  refine EQ_c (eqC_r rfl) ?_
  refine EQ_c (eqC_q rfl (fun j hj => by rcases (show j = 0 ∨ j = 1 by omega) with rfl | rfl <;> rfl)) ?_
  refine EQ_c (eqC_r rfl) ?_
  refine EQ_c (eqC_r rfl) ?_
  refine EQ_c (eqC_r rfl) ?_
  refine EQ_c (eqC_r rfl) ?_
  refine EQ_c (eqC_r rfl) ?_
  refine EQ_c (eqC_r rfl) ?_
  refine EQ_c (eqC_r rfl) ?_
  refine EQ_c (eqC_r rfl) ?_
  refine EQ_c (eqC_r rfl) ?_
  refine EQ_c (eqC_r rfl) ?_
  refine EQ_c (eqC_r rfl) ?_
  refine EQ_c (eqC_r rfl) ?_
  refine EQ_c (eqC_r rfl) ?_
  refine EQ_c (eqC_r rfl) ?_
  refine EQ_c (eqC_q rfl (fun j hj => by rcases (show j = 0 ∨ j = 1 by omega) with rfl | rfl <;> rfl)) ?_
  refine EQ_c (eqC_r rfl) ?_
  refine EQ_c (eqC_r rfl) ?_
  refine EQ_c (eqC_r rfl) ?_
  refine EQ_c (eqC_r rfl) ?_
  refine EQ_c (eqC_r rfl) ?_
  refine EQ_c (eqC_r rfl) ?_
  refine EQ_c (eqC_r rfl) ?_
  refine EQ_c (eqC_r rfl) ?_
  exact EQ_n
set_option maxRecDepth 100000 in
set_option maxHeartbeats 4000000 in
theorem w5_30 {cy : Nat → ClassId} {ad : Nat → Nat → Nat} {M : Mem} : EQ (made5 cy (ad 30 0) (v5 ad 30)) (wo cy ad (nwM 30 M) (ns5 30)) := by
  refine EQ_c (eqC_r rfl) ?_
  refine EQ_c (eqC_b rfl (fun _ => rfl)) ?_
  refine EQ_c (eqC_r rfl) ?_
  refine EQ_c (eqC_q rfl (fun j hj => by rcases (show j = 0 ∨ j = 1 by omega) with rfl | rfl <;> rfl)) ?_
  refine EQ_c (eqC_r rfl) ?_
  refine EQ_c (eqC_r rfl) ?_
  refine EQ_c (eqC_r rfl) ?_
  refine EQ_c (eqC_r rfl) ?_
  refine EQ_c (eqC_r rfl) ?_
  refine EQ_c (eqC_r rfl) ?_
  refine EQ_c (eqC_r rfl) ?_
  refine EQ_c (eqC_r rfl) ?_
  refine EQ_c (eqC_r rfl) ?_
  refine EQ_c (eqC_r rfl) ?_
  refine EQ_c (eqC_r rfl) ?_
  refine EQ_c (eqC_r rfl) ?_
  refine EQ_c (eqC_q rfl (fun j hj => by rcases (show j = 0 ∨ j = 1 by omega) with rfl | rfl <;> rfl)) ?_
  refine EQ_c (eqC_r rfl) ?_
  refine EQ_c (eqC_r rfl) ?_
  refine EQ_c (eqC_r rfl) ?_
  refine EQ_c (eqC_r rfl) ?_
  refine EQ_c (eqC_r rfl) ?_
  refine EQ_c (eqC_r rfl) ?_
  refine EQ_c (eqC_q rfl (fun j hj => by rcases (show j = 0 ∨ j = 1 by omega) with rfl | rfl <;> rfl)) ?_
  refine EQ_c (eqC_r rfl) ?_
  refine EQ_c (eqC_r rfl) ?_
  refine EQ_c (eqC_r rfl) ?_
  refine EQ_c (eqC_r rfl) ?_
  refine EQ_c (eqC_r rfl) ?_
  refine EQ_c (eqC_r rfl) ?_
  refine EQ_c (eqC_r rfl) ?_
  refine EQ_c (eqC_r rfl) ?_
  refine EQ_c (eqC_r rfl) ?_
  refine EQ_c (eqC_r rfl) ?_
  refine EQ_c (eqC_r rfl) ?_
  refine EQ_c (eqC_r rfl) ?_
  refine EQ_c (eqC_r rfl) ?_
  refine EQ_c (eqC_r rfl) ?_
  refine EQ_c (eqC_q rfl (fun j hj => by rcases (show j = 0 ∨ j = 1 by omega) with rfl | rfl <;> rfl)) ?_
  refine EQ_c (eqC_r rfl) ?_
  refine EQ_c (eqC_r rfl) ?_
  refine EQ_c (eqC_r rfl) ?_
  refine EQ_c (eqC_r rfl) ?_
  refine EQ_c (eqC_r rfl) ?_
  refine EQ_c (eqC_r rfl) ?_
  refine EQ_c (eqC_r rfl) ?_
  refine EQ_c (eqC_r rfl) ?_
  exact EQ_n
set_option maxRecDepth 100000 in
set_option maxHeartbeats 4000000 in
theorem w5_39 {cy : Nat → ClassId} {ad : Nat → Nat → Nat} {M : Mem} : EQ (made5 cy (ad 39 0) (v5 ad 39)) (wo cy ad (nwM 39 M) (ns5 39)) := by
  refine EQ_c (eqC_r rfl) ?_
  refine EQ_c (eqC_b rfl (fun _ => rfl)) ?_
  refine EQ_c (eqC_r rfl) ?_
  refine EQ_c (eqC_q rfl (fun j hj => by rcases (show j = 0 ∨ j = 1 by omega) with rfl | rfl <;> rfl)) ?_
  refine EQ_c (eqC_r rfl) ?_
  refine EQ_c (eqC_r rfl) ?_
  refine EQ_c (eqC_r rfl) ?_
  refine EQ_c (eqC_r rfl) ?_
  refine EQ_c (eqC_r rfl) ?_
  refine EQ_c (eqC_r rfl) ?_
  refine EQ_c (eqC_r rfl) ?_
  refine EQ_c (eqC_r rfl) ?_
  refine EQ_c (eqC_r rfl) ?_
  refine EQ_c (eqC_r rfl) ?_
  refine EQ_c (eqC_r rfl) ?_
  refine EQ_c (eqC_r rfl) ?_
  refine EQ_c (eqC_q rfl (fun j hj => by rcases (show j = 0 ∨ j = 1 by omega) with rfl | rfl <;> rfl)) ?_
  refine EQ_c (eqC_r rfl) ?_
  refine EQ_c (eqC_r rfl) ?_
  refine EQ_c (eqC_r rfl) ?_
  refine EQ_c (eqC_r rfl) ?_
  refine EQ_c (eqC_r rfl) ?_
  refine EQ_c (eqC_r rfl) ?_
  refine EQ_c (eqC_q rfl (fun j hj => by rcases (show j = 0 ∨ j = 1 by omega) with rfl | rfl <;> rfl)) ?_
  refine EQ_c (eqC_r rfl) ?_
  refine EQ_c (eqC_r rfl) ?_
  refine EQ_c (eqC_r rfl) ?_
  refine EQ_c (eqC_r rfl) ?_
  refine EQ_c (eqC_r rfl) ?_
  refine EQ_c (eqC_r rfl) ?_
  refine EQ_c (eqC_r rfl) ?_
  refine EQ_c (eqC_r rfl) ?_
  refine EQ_c (eqC_r rfl) ?_
  refine EQ_c (eqC_r rfl) ?_
  refine EQ_c (eqC_r rfl) ?_
  refine EQ_c (eqC_r rfl) ?_
  refine EQ_c (eqC_r rfl) ?_
  refine EQ_c (eqC_r rfl) ?_
  refine EQ_c (eqC_q rfl (fun j hj => by rcases (show j = 0 ∨ j = 1 by omega) with rfl | rfl <;> rfl)) ?_
  refine EQ_c (eqC_r rfl) ?_
  refine EQ_c (eqC_r rfl) ?_
  refine EQ_c (eqC_r rfl) ?_
  refine EQ_c (eqC_r rfl) ?_
  refine EQ_c (eqC_r rfl) ?_
  refine EQ_c (eqC_r rfl) ?_
  refine EQ_c (eqC_r rfl) ?_
  refine EQ_c (eqC_r rfl) ?_
  exact EQ_n
set_option maxRecDepth 100000 in
set_option maxHeartbeats 4000000 in
theorem w9 {cy : Nat → ClassId} {ad : Nat → Nat → Nat} : EQ (made9 cy (ad 0 0) (v9 ad)) (wo cy ad I9 ns9) := by
  refine EQ_c (eqC_r rfl) ?_
  refine EQ_c (eqC_r rfl) ?_
  refine EQ_c (eqC_b rfl (fun _ => rfl)) ?_
  refine EQ_c (eqC_r rfl) ?_
  refine EQ_c (eqC_q rfl (fun j hj => by rcases (show j = 0 ∨ j = 1 by omega) with rfl | rfl <;> rfl)) ?_
  refine EQ_c (eqC_r rfl) ?_
  refine EQ_c (eqC_r rfl) ?_
  refine EQ_c (eqC_r rfl) ?_
  refine EQ_c (eqC_r rfl) ?_
  refine EQ_c (eqC_r rfl) ?_
  refine EQ_c (eqC_r rfl) ?_
  refine EQ_c (eqC_r rfl) ?_
  refine EQ_c (eqC_r rfl) ?_
  refine EQ_c (eqC_r rfl) ?_
  refine EQ_c (eqC_r rfl) ?_
  refine EQ_c (eqC_r rfl) ?_
  refine EQ_c (eqC_r rfl) ?_
  refine EQ_c (eqC_q rfl (fun j hj => by rcases (show j = 0 ∨ j = 1 by omega) with rfl | rfl <;> rfl)) ?_
  refine EQ_c (eqC_r rfl) ?_
  refine EQ_c (eqC_r rfl) ?_
  refine EQ_c (eqC_r rfl) ?_
  refine EQ_c (eqC_r rfl) ?_
  refine EQ_c (eqC_r rfl) ?_
  refine EQ_c (eqC_r rfl) ?_
  refine EQ_c (eqC_q rfl (fun j hj => by rcases (show j = 0 ∨ j = 1 by omega) with rfl | rfl <;> rfl)) ?_
  refine EQ_c (eqC_r rfl) ?_
  refine EQ_c (eqC_r rfl) ?_
  refine EQ_c (eqC_r rfl) ?_
  refine EQ_c (eqC_r rfl) ?_
  refine EQ_c (eqC_r rfl) ?_
  refine EQ_c (eqC_r rfl) ?_
  refine EQ_c (eqC_r rfl) ?_
  refine EQ_c (eqC_r rfl) ?_
  refine EQ_c (eqC_r rfl) ?_
  refine EQ_c (eqC_r rfl) ?_
  refine EQ_c (eqC_r rfl) ?_
  refine EQ_c (eqC_r rfl) ?_
  refine EQ_c (eqC_r rfl) ?_
  refine EQ_c (eqC_r rfl) ?_
  refine EQ_c (eqC_q rfl (fun j hj => by rcases (show j = 0 ∨ j = 1 by omega) with rfl | rfl <;> rfl)) ?_
  refine EQ_c (eqC_r rfl) ?_
  refine EQ_c (eqC_r rfl) ?_
  refine EQ_c (eqC_r rfl) ?_
  refine EQ_c (eqC_r rfl) ?_
  refine EQ_c (eqC_r rfl) ?_
  refine EQ_c (eqC_r rfl) ?_
  refine EQ_c (eqC_r rfl) ?_
  refine EQ_c (eqC_r rfl) ?_
  refine EQ_c (eqC_q rfl (fun j _ => rfl)) ?_
  refine EQ_c (eqC_r rfl) ?_
  refine EQ_c (eqC_r rfl) ?_
  refine EQ_c (eqC_r rfl) ?_
  refine EQ_c (eqC_r rfl) ?_
  refine EQ_c (eqC_r rfl) ?_
  refine EQ_c (eqC_r rfl) ?_
  refine EQ_c (eqC_r rfl) ?_
  refine EQ_c (eqC_r rfl) ?_
  refine EQ_c (eqC_r rfl) ?_
  refine EQ_c (eqC_r rfl) ?_
  refine EQ_c (eqC_r rfl) ?_
  refine EQ_c (eqC_r rfl) ?_
  refine EQ_c (eqC_r rfl) ?_
  refine EQ_c (eqC_r rfl) ?_
  refine EQ_c (eqC_r rfl) ?_
  refine EQ_c (eqC_r rfl) ?_
  refine EQ_c (eqC_r rfl) ?_
  refine EQ_c (eqC_r rfl) ?_
  refine EQ_c (eqC_r rfl) ?_
  refine EQ_c (eqC_r rfl) ?_
  refine EQ_c (eqC_r rfl) ?_
  refine EQ_c (eqC_r rfl) ?_
  refine EQ_c (eqC_r rfl) ?_
  refine EQ_c (eqC_b rfl (fun _ => rfl)) ?_
  refine EQ_c (eqC_r rfl) ?_
  refine EQ_c (eqC_r rfl) ?_
  refine EQ_c (eqC_r rfl) ?_
  refine EQ_c (eqC_r rfl) ?_
  refine EQ_c (eqC_r rfl) ?_
  refine EQ_c (eqC_r rfl) ?_
  refine EQ_c (eqC_r rfl) ?_
  refine EQ_c (eqC_r rfl) ?_
  refine EQ_c (eqC_r rfl) ?_
  refine EQ_c (eqC_r rfl) ?_
  refine EQ_c (eqC_r rfl) ?_
  refine EQ_c (eqC_r rfl) ?_
  refine EQ_c (eqC_r rfl) ?_
  refine EQ_c (eqC_r rfl) ?_
  refine EQ_c (eqC_r rfl) ?_
  refine EQ_c (eqC_r rfl) ?_
  refine EQ_c (eqC_r rfl) ?_
  refine EQ_c (eqC_r rfl) ?_
  refine EQ_c (eqC_r rfl) ?_
  refine EQ_c (eqC_r rfl) ?_
  refine EQ_c (eqC_r rfl) ?_
  refine EQ_c (eqC_r rfl) ?_
  refine EQ_c (eqC_r rfl) ?_
  refine EQ_c (eqC_r rfl) ?_
  refine EQ_c (eqC_r rfl) ?_
  refine EQ_c (eqC_r rfl) ?_
  refine EQ_c (eqC_r rfl) ?_
  refine EQ_c (eqC_r rfl) ?_
  refine EQ_c (eqC_r rfl) ?_
  refine EQ_c (eqC_r rfl) ?_
  refine EQ_c (eqC_r rfl) ?_
  refine EQ_c (eqC_r rfl) ?_
  refine EQ_c (eqC_r rfl) ?_
  refine EQ_c (eqC_r rfl) ?_
  refine EQ_c (eqC_r rfl) ?_
  refine EQ_c (eqC_r rfl) ?_
  exact EQ_n
set_option maxRecDepth 100000 in
set_option maxHeartbeats 4000000 in
theorem w10 {cy : Nat → ClassId} {ad : Nat → Nat → Nat} : EQ (made10 cy (ad 100 0) (v10 ad)) (wo cy ad I10 ns10) := by
  refine EQ_c (eqC_r rfl) ?_
  refine EQ_c (eqC_b rfl (fun _ => rfl)) ?_
  refine EQ_c (eqC_r rfl) ?_
  refine EQ_c (eqC_r rfl) ?_
  refine EQ_c (eqC_r rfl) ?_
  refine EQ_c (eqC_r rfl) ?_
  refine EQ_c (eqC_r rfl) ?_
  refine EQ_c (eqC_r rfl) ?_
  refine EQ_c (eqC_r rfl) ?_
  refine EQ_c (eqC_r rfl) ?_
  refine EQ_c (eqC_r rfl) ?_
  refine EQ_c (eqC_r rfl) ?_
  refine EQ_c (eqC_r rfl) ?_
  refine EQ_c (eqC_r rfl) ?_
  refine EQ_c (eqC_r rfl) ?_
  refine EQ_c (eqC_r rfl) ?_
  refine EQ_c (eqC_r rfl) ?_
  refine EQ_c (eqC_r rfl) ?_
  refine EQ_c (eqC_r rfl) ?_
  refine EQ_c (eqC_r rfl) ?_
  refine EQ_c (eqC_r rfl) ?_
  refine EQ_c (eqC_r rfl) ?_
  refine EQ_c (eqC_r rfl) ?_
  refine EQ_c (eqC_r rfl) ?_
  refine EQ_c (eqC_r rfl) ?_
  refine EQ_c (eqC_r rfl) ?_
  refine EQ_c (eqC_r rfl) ?_
  refine EQ_c (eqC_r rfl) ?_
  exact EQ_n
