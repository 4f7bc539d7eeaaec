/-! THE LAW'S CASES, 1 of 3: each calls one side, then the other, and their answers are one -/
def LSt (D : va_G) (cy : Nat → ClassId) (ad : Nat → Nat → Nat) (nx : List (Nat × Nat)) (Mx Mm : Mem) (s : State) (H : Heap) (locs : List Loc) : Prop := Gx ad (A0 s) s s.heap ∧ NsC nx ∧ NB nx ∧ LI nx Mx Mm ∧ LW D cy ad nx Mx Mm s H locs
def LK (p : Program) (l : Launch) (e : Env) (s : State) (m : MethodId) (below : List Frame) (meth : Method) (c : Code) (b : Nat) (D : va_G) (cy : Nat → ClassId) (Q : State → Prop) (ls : Array Slot) (cells slots hX hM : Nat) : Prop := ∀ (ad : Nat → Nat → Nat) (nx : List (Nat × Nat)) (Mx Mm : Mem) (H : Heap) (locs : List Loc), LSt D cy ad nx Mx Mm s H locs → ad 0 0 = hX → ad 100 0 = hM → W p l e room_1 s m #[Value.ref b] below meth c H locs cells slots Q (F0 m 1390 ls [])
/-! image: which case -/
theorem img_cases (a : Int32) : (a < 0 ∨ ∃ j, 3 ≤ j ∧ j < 2147483648 ∧ a = nI j) ∨ ∃ j, j < 3 ∧ a = nI j := by
  rcases int_cases a with h | ⟨j, hj, e⟩
  · exact Or.inl (Or.inl h)
  · by_cases c : j < 3
    · exact Or.inr ⟨j, c, e⟩
    · exact Or.inl (Or.inr ⟨j, by omega, hj, e⟩)
theorem img_out {a : Int32} (h : a < 0 ∨ ∃ j, 3 ≤ j ∧ j < 2147483648 ∧ a = nI j) : a < 0 ∨ ¬ a < nI 3 := by
  rcases h with h | ⟨j, h1, h2, rfl⟩
  · exact Or.inl h
  · exact Or.inr (nI_nlt h1 h2)
theorem take_fl {M M' : Mem} {j : Nat} (hj : j < 3) (ex : f_X5_take M (21 + 9 * j) 1 = some M') : gA M' 0 1 = gA M 0 1 := by
  obtain ⟨M1, e1, -, -, -, -, y5⟩ := takeT_v (M := M) (o := 21 + 9 * j) (a := 1) (by omega)
  cases ex.symm.trans e1
  exact (y5 0 (by omega)).2 1
theorem img_has {Mx Mm : Mem} (H : Rl Mx Mm) {j : Nat} (hj : j < 3) (h : ¬ gA Mx 0 1 j = 0) : ∃ Mx' Mm', f_X5_take Mx (21 + 9 * j) 1 = some Mx' ∧ f_X10_image Mm (nI j) = some (true, Mm') ∧ Rl Mx' Mm' := q_img H hj (fun _ _ _ => ⟨fun _ => rfl, fun _ _ => rfl⟩) (fun _ _ => rfl) h
theorem img_new {Mx Mm : Mem} (H : Rl Mx Mm) {j : Nat} (hj : j < 3) : ∃ Mx' Mm', f_X5_take (sA (nwM (21 + 9 * j) Mx) 0 1 j 1) (21 + 9 * j) 1 = some Mx' ∧ f_X10_image Mm (nI j) = some (true, Mm') ∧ Rl Mx' Mm' := by
  refine q_img H hj (fun o _ ho => ⟨fun k => gI_nw (by omega) k, fun k hk => ?_⟩) (fun i hi => ?_) (by rw [gA_img1]; decide)
  · show gA (wA (nwM (21 + 9 * j) Mx) 0 1 _) o k = _
    rw [gA_wA', if_neg hk]
    exact gA_nw (by omega) k
  · rw [gA_img0 _ hi]
    exact congrFun (gA_nw (by omega) 1) i
theorem img_fre0 {nx : List (Nat × Nat)} {M M' : Mem} {j : Nat} (hj : j < 3) (ex : f_X5_take M (21 + 9 * j) 1 = some M') (hF : FRE nx M) : FRE nx M' := fun i hi h0 => hF i hi (by rw [← take_fl hj ex]; exact h0)
theorem img_fre {nx : List (Nat × Nat)} {M M' : Mem} {j : Nat} (hj : j < 3) (ex : f_X5_take (sA (nwM (21 + 9 * j) M) 0 1 j 1) (21 + 9 * j) 1 = some M') (hF : FRE nx M) : FRE (nx ++ ns5 (21 + 9 * j)) M' := by
  intro i hi h0 q hq
  rw [take_fl hj ex] at h0
  by_cases z : i = j
  · subst z
    rw [gA_img1] at h0
    exact absurd h0 (by decide)
  · rw [gA_img0 _ z] at h0
    have h0 : gA M 0 1 i = 0 := by rw [← congrFun (gA_nw (t := 21 + 9 * j) (M := M) (o := 0) (by omega) 1) i]; exact h0
    rcases List.mem_append.mp hq with g | g
    · exact hF i hi h0 q g
    · have := ((ns5_in (21 + 9 * j) (by omega)).1 q g).1
      omega
section Law0
variable {p : Program} {l : Launch} {e : Env} {s : State} {m : MethodId} {below : List Frame} {meth : Method} {c : Code} {b L : Nat} {xs : Nat → Int32} {D : va_G} {cy : Nat → ClassId} {ad : Nat → Nat → Nat} {nx : List (Nat × Nat)} {Mx Mm : Mem} {H : Heap} {locs : List Loc} {cells slots : Nat} {Q : State → Prop} {ls : Array Slot} {i : Nat}
set_option maxRecDepth 100000 in
set_option maxHeartbeats 4000000 in
theorem lw_feed (C : LC p s m c b L xs D cy) (hs : LSt D cy ad nx Mx Mm s H locs) (hi : i + 6 ≤ L) (hL : L ≤ 3072) (hl : lv_has ls 4 [(0, .ref b), (1, .ref (ad 0 0)), (2, .ref (ad 100 0)), (3, .int (nI i))]) (hcs : cells + 47 ≤ 600000 ∧ slots + 1235 ≤ 7302250) (kk : LK p l e s m below meth c b D cy Q ls (cells + 47) (slots + 1235) (ad 0 0) (ad 100 0)) : W p l e room_1 s m #[Value.ref b] below meth c H locs cells slots Q (F0 m 168 ls []) := by
  obtain ⟨hG, hN, hB, ⟨hR, hF⟩, hw⟩ := hs
  obtain ⟨hx, hb, -⟩ := id C
  have h0 : lv_has ls 4 [(0, .ref b), (3, .int (nI i))] := lv_sub hl [0, 3] rfl
  obtain ⟨r, Mx', Mm', ex, em, hR'⟩ := q_feed hR (xs (i + 1)) (xs (i + 2)) (xs (i + 3)) (xs (i + 4)) (xs (i + 5))
  have hF' := FRE_k hR hR' (kk_X10_feed (G := gA Mm 100 57) rfl _ em) hF
  have hS := hw.2.2
  refine lv_aload_n hx hb dl_168 rfl (lv_at hl 1 rfl) ?_
  refine lc_A (pc := 169) (k := 1) C hS (by omega) hL hl h0 (by decide) ⟨dl_169, dl_170, dl_171, dl_172, dl_173⟩ ?_
  refine lc_A (pc := 174) (k := 2) C hS (by omega) hL hl h0 (by decide) ⟨dl_174, dl_175, dl_176, dl_177, dl_178⟩ ?_
  refine lc_A (pc := 179) (k := 3) C hS (by omega) hL hl h0 (by decide) ⟨dl_179, dl_180, dl_181, dl_182, dl_183⟩ ?_
  refine lc_A (pc := 184) (k := 4) C hS (by omega) hL hl h0 (by decide) ⟨dl_184, dl_185, dl_186, dl_187, dl_188⟩ ?_
  refine lc_A (pc := 189) (k := 5) C hS (by omega) hL hl h0 (by decide) ⟨dl_189, dl_190, dl_191, dl_192, dl_193⟩ ?_
  refine lc_X (pc := 194) (Mx' := Mx') (v := .int r) (As := [.int (xs (i + 1)), .int (xs (i + 2)), .int (xs (i + 3)), .int (xs (i + 4)), .int (xs (i + 5))]) (rest := []) C hG hN hw (fun A => m_X9_feed hN ex) mv_X9_feed t2_186 ⟨rfl, rfl, Nat.le_of_ble_eq_true rfl, Nat.le_of_ble_eq_true rfl⟩ rfl hl.1 rfl (Nat.le_of_ble_eq_true rfl) ⟨by omega, by omega⟩ dl_194 (fun H locs hw => ?_)
  have hS := hw.2.2
  refine lv_aload_n hx hb dl_197 rfl (lv_at hl 2 rfl) ?_
  refine lc_A (pc := 198) (k := 1) C hS (by omega) hL hl h0 (by decide) ⟨dl_198, dl_199, dl_200, dl_201, dl_202⟩ ?_
  refine lc_A (pc := 203) (k := 2) C hS (by omega) hL hl h0 (by decide) ⟨dl_203, dl_204, dl_205, dl_206, dl_207⟩ ?_
  refine lc_A (pc := 208) (k := 3) C hS (by omega) hL hl h0 (by decide) ⟨dl_208, dl_209, dl_210, dl_211, dl_212⟩ ?_
  refine lc_A (pc := 213) (k := 4) C hS (by omega) hL hl h0 (by decide) ⟨dl_213, dl_214, dl_215, dl_216, dl_217⟩ ?_
  refine lc_A (pc := 218) (k := 5) C hS (by omega) hL hl h0 (by decide) ⟨dl_218, dl_219, dl_220, dl_221, dl_222⟩ ?_
  refine lc_M (pc := 223) (Mm' := Mm') (v := .int r) (As := [.int (xs (i + 1)), .int (xs (i + 2)), .int (xs (i + 3)), .int (xs (i + 4)), .int (xs (i + 5))]) (rest := [.int r]) C hG hw (fun A => m_X10_feed Ob_10 em) mv_X10_feed t6_69 ⟨rfl, rfl, Nat.le_of_ble_eq_true rfl, Nat.le_of_ble_eq_true rfl⟩ rfl hl.1 rfl (Nat.le_of_ble_eq_true rfl) ⟨by omega, by omega⟩ dl_223 (fun H locs hw => ?_)
  refine lv_icmp_eq (tgt := 1390) hx hb dl_226 (by decide) (fun _ => ?_) (fun q => absurd rfl q)
  refine W.widen (k := cells + 47) (n := slots + 1235) (by omega) (by omega) ?_
  exact kk ad nx Mx' Mm' H locs ⟨hG, hN, hB, ⟨hR', hF'⟩, hw⟩ rfl rfl
set_option maxRecDepth 100000 in
set_option maxHeartbeats 4000000 in
theorem lw_end (C : LC p s m c b L xs D cy) (hs : LSt D cy ad nx Mx Mm s H locs) (hi : i + 6 ≤ L) (hL : L ≤ 3072) (hl : lv_has ls 4 [(0, .ref b), (1, .ref (ad 0 0)), (2, .ref (ad 100 0)), (3, .int (nI i))]) (hcs : cells + 47 ≤ 600000 ∧ slots + 1235 ≤ 7302250) (kk : LK p l e s m below meth c b D cy Q ls (cells + 47) (slots + 1235) (ad 0 0) (ad 100 0)) : W p l e room_1 s m #[Value.ref b] below meth c H locs cells slots Q (F0 m 231 ls []) := by
  obtain ⟨hG, hN, hB, ⟨hR, hF⟩, hw⟩ := hs
  obtain ⟨hx, hb, -⟩ := id C
  have h0 : lv_has ls 4 [(0, .ref b), (3, .int (nI i))] := lv_sub hl [0, 3] rfl
  obtain ⟨r, Mx', Mm', ex, em, hR'⟩ := q_end hR (xs (i + 1))
  have hF' := FRE_k hR hR' (kk_X10_end (G := gA Mm 100 57) rfl _ em) hF
  have hS := hw.2.2
  refine lv_aload_n hx hb dl_231 rfl (lv_at hl 1 rfl) ?_
  refine lc_A (pc := 232) (k := 1) C hS (by omega) hL hl h0 (by decide) ⟨dl_232, dl_233, dl_234, dl_235, dl_236⟩ ?_
  refine lc_X (pc := 237) (Mx' := Mx') (v := .int r) (As := [.int (xs (i + 1))]) (rest := []) C hG hN hw (fun A => m_X9_end hN ex) mv_X9_end t2_194 ⟨rfl, rfl, Nat.le_of_ble_eq_true rfl, Nat.le_of_ble_eq_true rfl⟩ rfl hl.1 rfl (Nat.le_of_ble_eq_true rfl) ⟨by omega, by omega⟩ dl_237 (fun H locs hw => ?_)
  have hS := hw.2.2
  refine lv_aload_n hx hb dl_240 rfl (lv_at hl 2 rfl) ?_
  refine lc_A (pc := 241) (k := 1) C hS (by omega) hL hl h0 (by decide) ⟨dl_241, dl_242, dl_243, dl_244, dl_245⟩ ?_
  refine lc_M (pc := 246) (Mm' := Mm') (v := .int r) (As := [.int (xs (i + 1))]) (rest := [.int r]) C hG hw (fun A => m_X10_end Ob_10 em) mv_X10_end t6_77 ⟨rfl, rfl, Nat.le_of_ble_eq_true rfl, Nat.le_of_ble_eq_true rfl⟩ rfl hl.1 rfl (Nat.le_of_ble_eq_true rfl) ⟨by omega, by omega⟩ dl_246 (fun H locs hw => ?_)
  refine lv_icmp_eq (tgt := 1390) hx hb dl_249 (by decide) (fun _ => ?_) (fun q => absurd rfl q)
  refine W.widen (k := cells + 47) (n := slots + 1235) (by omega) (by omega) ?_
  exact kk ad nx Mx' Mm' H locs ⟨hG, hN, hB, ⟨hR', hF'⟩, hw⟩ rfl rfl
set_option maxRecDepth 100000 in
set_option maxHeartbeats 4000000 in
theorem lw_text (C : LC p s m c b L xs D cy) (hs : LSt D cy ad nx Mx Mm s H locs) (hi : i + 6 ≤ L) (hL : L ≤ 3072) (hl : lv_has ls 4 [(0, .ref b), (1, .ref (ad 0 0)), (2, .ref (ad 100 0)), (3, .int (nI i))]) (hcs : cells + 47 ≤ 600000 ∧ slots + 1235 ≤ 7302250) (kk : LK p l e s m below meth c b D cy Q ls (cells + 47) (slots + 1235) (ad 0 0) (ad 100 0)) : W p l e room_1 s m #[Value.ref b] below meth c H locs cells slots Q (F0 m 254 ls []) := by
  obtain ⟨hG, hN, hB, ⟨hR, hF⟩, hw⟩ := hs
  obtain ⟨hx, hb, -⟩ := id C
  have h0 : lv_has ls 4 [(0, .ref b), (3, .int (nI i))] := lv_sub hl [0, 3] rfl
  obtain ⟨r, Mx', Mm', ex, em, hR'⟩ := q_text hR (xs (i + 1)) (xs (i + 2))
  have hF' := FRE_k hR hR' (kk_X10_text (G := gA Mm 100 57) rfl _ em) hF
  have hS := hw.2.2
  refine lv_aload_n hx hb dl_254 rfl (lv_at hl 1 rfl) ?_
  refine lc_A (pc := 255) (k := 1) C hS (by omega) hL hl h0 (by decide) ⟨dl_255, dl_256, dl_257, dl_258, dl_259⟩ ?_
  refine lc_A (pc := 260) (k := 2) C hS (by omega) hL hl h0 (by decide) ⟨dl_260, dl_261, dl_262, dl_263, dl_264⟩ ?_
  refine lc_X (pc := 265) (Mx' := Mx') (v := .int r) (As := [.int (xs (i + 1)), .int (xs (i + 2))]) (rest := []) C hG hN hw (fun A => m_X9_text hN ex) mv_X9_text t2_198 ⟨rfl, rfl, Nat.le_of_ble_eq_true rfl, Nat.le_of_ble_eq_true rfl⟩ rfl hl.1 rfl (Nat.le_of_ble_eq_true rfl) ⟨by omega, by omega⟩ dl_265 (fun H locs hw => ?_)
  have hS := hw.2.2
  refine lv_aload_n hx hb dl_268 rfl (lv_at hl 2 rfl) ?_
  refine lc_A (pc := 269) (k := 1) C hS (by omega) hL hl h0 (by decide) ⟨dl_269, dl_270, dl_271, dl_272, dl_273⟩ ?_
  refine lc_A (pc := 274) (k := 2) C hS (by omega) hL hl h0 (by decide) ⟨dl_274, dl_275, dl_276, dl_277, dl_278⟩ ?_
  refine lc_M (pc := 279) (Mm' := Mm') (v := .int r) (As := [.int (xs (i + 1)), .int (xs (i + 2))]) (rest := [.int r]) C hG hw (fun A => m_X10_text Ob_10 em) mv_X10_text t6_84 ⟨rfl, rfl, Nat.le_of_ble_eq_true rfl, Nat.le_of_ble_eq_true rfl⟩ rfl hl.1 rfl (Nat.le_of_ble_eq_true rfl) ⟨by omega, by omega⟩ dl_279 (fun H locs hw => ?_)
  refine lv_icmp_eq (tgt := 1390) hx hb dl_282 (by decide) (fun _ => ?_) (fun q => absurd rfl q)
  refine W.widen (k := cells + 47) (n := slots + 1235) (by omega) (by omega) ?_
  exact kk ad nx Mx' Mm' H locs ⟨hG, hN, hB, ⟨hR', hF'⟩, hw⟩ rfl rfl
set_option maxRecDepth 100000 in
set_option maxHeartbeats 4000000 in
theorem lw_fault (C : LC p s m c b L xs D cy) (hs : LSt D cy ad nx Mx Mm s H locs) (hi : i + 6 ≤ L) (hL : L ≤ 3072) (hl : lv_has ls 4 [(0, .ref b), (1, .ref (ad 0 0)), (2, .ref (ad 100 0)), (3, .int (nI i))]) (hcs : cells + 47 ≤ 600000 ∧ slots + 1235 ≤ 7302250) (kk : LK p l e s m below meth c b D cy Q ls (cells + 47) (slots + 1235) (ad 0 0) (ad 100 0)) : W p l e room_1 s m #[Value.ref b] below meth c H locs cells slots Q (F0 m 287 ls []) := by
  obtain ⟨hG, hN, hB, ⟨hR, hF⟩, hw⟩ := hs
  obtain ⟨hx, hb, -⟩ := id C
  have h0 : lv_has ls 4 [(0, .ref b), (3, .int (nI i))] := lv_sub hl [0, 3] rfl
  obtain ⟨r, Mx', Mm', ex, em, hR'⟩ := q_fault hR (xs (i + 1))
  obtain ⟨ex2, rfl⟩ := wM_of ex
  have hF' := FRE_k hR hR' (kk_X10_fault (G := gA Mm 100 57) rfl _ em) hF
  have hS := hw.2.2
  refine lv_aload_n hx hb dl_287 rfl (lv_at hl 1 rfl) ?_
  refine lc_A (pc := 288) (k := 1) C hS (by omega) hL hl h0 (by decide) ⟨dl_288, dl_289, dl_290, dl_291, dl_292⟩ ?_
  refine lc_X (pc := 293) (Mx' := Mx) (v := .int r) (As := [.int (xs (i + 1))]) (rest := []) C hG hN hw (fun A => m_X9_fault hN ex2) mv_X9_fault t3_171 ⟨rfl, rfl, Nat.le_of_ble_eq_true rfl, Nat.le_of_ble_eq_true rfl⟩ rfl hl.1 rfl (Nat.le_of_ble_eq_true rfl) ⟨by omega, by omega⟩ dl_293 (fun H locs hw => ?_)
  have hS := hw.2.2
  refine lv_aload_n hx hb dl_296 rfl (lv_at hl 2 rfl) ?_
  refine lc_A (pc := 297) (k := 1) C hS (by omega) hL hl h0 (by decide) ⟨dl_297, dl_298, dl_299, dl_300, dl_301⟩ ?_
  refine lc_M (pc := 302) (Mm' := Mm') (v := .int r) (As := [.int (xs (i + 1))]) (rest := [.int r]) C hG hw (fun A => m_X10_fault Ob_10 em) mv_X10_fault t6_208 ⟨rfl, rfl, Nat.le_of_ble_eq_true rfl, Nat.le_of_ble_eq_true rfl⟩ rfl hl.1 rfl (Nat.le_of_ble_eq_true rfl) ⟨by omega, by omega⟩ dl_302 (fun H locs hw => ?_)
  refine lv_icmp_eq (tgt := 1390) hx hb dl_305 (by decide) (fun _ => ?_) (fun q => absurd rfl q)
  refine W.widen (k := cells + 47) (n := slots + 1235) (by omega) (by omega) ?_
  exact kk ad nx Mx Mm' H locs ⟨hG, hN, hB, ⟨hR', hF'⟩, hw⟩ rfl rfl
set_option maxRecDepth 100000 in
set_option maxHeartbeats 4000000 in
theorem lw_coat (C : LC p s m c b L xs D cy) (hs : LSt D cy ad nx Mx Mm s H locs) (hi : i + 6 ≤ L) (hL : L ≤ 3072) (hl : lv_has ls 4 [(0, .ref b), (1, .ref (ad 0 0)), (2, .ref (ad 100 0)), (3, .int (nI i))]) (hcs : cells + 47 ≤ 600000 ∧ slots + 1235 ≤ 7302250) (kk : LK p l e s m below meth c b D cy Q ls (cells + 47) (slots + 1235) (ad 0 0) (ad 100 0)) : W p l e room_1 s m #[Value.ref b] below meth c H locs cells slots Q (F0 m 310 ls []) := by
  obtain ⟨hG, hN, hB, ⟨hR, hF⟩, hw⟩ := hs
  obtain ⟨hx, hb, -⟩ := id C
  have h0 : lv_has ls 4 [(0, .ref b), (3, .int (nI i))] := lv_sub hl [0, 3] rfl
  obtain ⟨r, Mx', Mm', ex, em, hR'⟩ := q_coat hR (xs (i + 1)) (xs (i + 2))
  obtain ⟨ex2, rfl⟩ := wM_of ex
  have hF' := FRE_k hR hR' (kk_X10_coat (G := gA Mm 100 57) rfl _ em) hF
  have hS := hw.2.2
  refine lv_aload_n hx hb dl_310 rfl (lv_at hl 1 rfl) ?_
  refine lc_A (pc := 311) (k := 1) C hS (by omega) hL hl h0 (by decide) ⟨dl_311, dl_312, dl_313, dl_314, dl_315⟩ ?_
  refine lc_A (pc := 316) (k := 2) C hS (by omega) hL hl h0 (by decide) ⟨dl_316, dl_317, dl_318, dl_319, dl_320⟩ ?_
  refine lc_X (pc := 321) (Mx' := Mx) (v := .int r) (As := [.int (xs (i + 1)), .int (xs (i + 2))]) (rest := []) C hG hN hw (fun A => m_X9_coat hN ex2) mv_X9_coat t3_175 ⟨rfl, rfl, Nat.le_of_ble_eq_true rfl, Nat.le_of_ble_eq_true rfl⟩ rfl hl.1 rfl (Nat.le_of_ble_eq_true rfl) ⟨by omega, by omega⟩ dl_321 (fun H locs hw => ?_)
  have hS := hw.2.2
  refine lv_aload_n hx hb dl_324 rfl (lv_at hl 2 rfl) ?_
  refine lc_A (pc := 325) (k := 1) C hS (by omega) hL hl h0 (by decide) ⟨dl_325, dl_326, dl_327, dl_328, dl_329⟩ ?_
  refine lc_A (pc := 330) (k := 2) C hS (by omega) hL hl h0 (by decide) ⟨dl_330, dl_331, dl_332, dl_333, dl_334⟩ ?_
  refine lc_M (pc := 335) (Mm' := Mm') (v := .int r) (As := [.int (xs (i + 1)), .int (xs (i + 2))]) (rest := [.int r]) C hG hw (fun A => m_X10_coat Ob_10 em) mv_X10_coat t6_212 ⟨rfl, rfl, Nat.le_of_ble_eq_true rfl, Nat.le_of_ble_eq_true rfl⟩ rfl hl.1 rfl (Nat.le_of_ble_eq_true rfl) ⟨by omega, by omega⟩ dl_335 (fun H locs hw => ?_)
  refine lv_icmp_eq (tgt := 1390) hx hb dl_338 (by decide) (fun _ => ?_) (fun q => absurd rfl q)
  refine W.widen (k := cells + 47) (n := slots + 1235) (by omega) (by omega) ?_
  exact kk ad nx Mx Mm' H locs ⟨hG, hN, hB, ⟨hR', hF'⟩, hw⟩ rfl rfl
set_option maxRecDepth 100000 in
set_option maxHeartbeats 4000000 in
theorem lw_deed (C : LC p s m c b L xs D cy) (hs : LSt D cy ad nx Mx Mm s H locs) (hi : i + 6 ≤ L) (hL : L ≤ 3072) (hl : lv_has ls 4 [(0, .ref b), (1, .ref (ad 0 0)), (2, .ref (ad 100 0)), (3, .int (nI i))]) (hcs : cells + 47 ≤ 600000 ∧ slots + 1235 ≤ 7302250) (kk : LK p l e s m below meth c b D cy Q ls (cells + 47) (slots + 1235) (ad 0 0) (ad 100 0)) : W p l e room_1 s m #[Value.ref b] below meth c H locs cells slots Q (F0 m 343 ls []) := by
  obtain ⟨hG, hN, hB, ⟨hR, hF⟩, hw⟩ := hs
  obtain ⟨hx, hb, -⟩ := id C
  have h0 : lv_has ls 4 [(0, .ref b), (3, .int (nI i))] := lv_sub hl [0, 3] rfl
  obtain ⟨r, Mx', Mm', ex, em, hR'⟩ := q_deed hR (xs (i + 1)) (xs (i + 2)) (xs (i + 3))
  obtain ⟨ex2, rfl⟩ := wM_of ex
  have hF' := FRE_k hR hR' (kk_X10_deed (G := gA Mm 100 57) rfl _ em) hF
  have hS := hw.2.2
  refine lv_aload_n hx hb dl_343 rfl (lv_at hl 1 rfl) ?_
  refine lc_A (pc := 344) (k := 1) C hS (by omega) hL hl h0 (by decide) ⟨dl_344, dl_345, dl_346, dl_347, dl_348⟩ ?_
  refine lc_A (pc := 349) (k := 2) C hS (by omega) hL hl h0 (by decide) ⟨dl_349, dl_350, dl_351, dl_352, dl_353⟩ ?_
  refine lc_A (pc := 354) (k := 3) C hS (by omega) hL hl h0 (by decide) ⟨dl_354, dl_355, dl_356, dl_357, dl_358⟩ ?_
  refine lc_X (pc := 359) (Mx' := Mx) (v := .int r) (As := [.int (xs (i + 1)), .int (xs (i + 2)), .int (xs (i + 3))]) (rest := []) C hG hN hw (fun A => m_X9_deed hN ex2) mv_X9_deed t3_195 ⟨rfl, rfl, Nat.le_of_ble_eq_true rfl, Nat.le_of_ble_eq_true rfl⟩ rfl hl.1 rfl (Nat.le_of_ble_eq_true rfl) ⟨by omega, by omega⟩ dl_359 (fun H locs hw => ?_)
  have hS := hw.2.2
  refine lv_aload_n hx hb dl_362 rfl (lv_at hl 2 rfl) ?_
  refine lc_A (pc := 363) (k := 1) C hS (by omega) hL hl h0 (by decide) ⟨dl_363, dl_364, dl_365, dl_366, dl_367⟩ ?_
  refine lc_A (pc := 368) (k := 2) C hS (by omega) hL hl h0 (by decide) ⟨dl_368, dl_369, dl_370, dl_371, dl_372⟩ ?_
  refine lc_A (pc := 373) (k := 3) C hS (by omega) hL hl h0 (by decide) ⟨dl_373, dl_374, dl_375, dl_376, dl_377⟩ ?_
  refine lc_M (pc := 378) (Mm' := Mm') (v := .int r) (As := [.int (xs (i + 1)), .int (xs (i + 2)), .int (xs (i + 3))]) (rest := [.int r]) C hG hw (fun A => m_X10_deed Ob_10 em) mv_X10_deed t6_228 ⟨rfl, rfl, Nat.le_of_ble_eq_true rfl, Nat.le_of_ble_eq_true rfl⟩ rfl hl.1 rfl (Nat.le_of_ble_eq_true rfl) ⟨by omega, by omega⟩ dl_378 (fun H locs hw => ?_)
  refine lv_icmp_eq (tgt := 1390) hx hb dl_381 (by decide) (fun _ => ?_) (fun q => absurd rfl q)
  refine W.widen (k := cells + 47) (n := slots + 1235) (by omega) (by omega) ?_
  exact kk ad nx Mx Mm' H locs ⟨hG, hN, hB, ⟨hR', hF'⟩, hw⟩ rfl rfl
set_option maxRecDepth 100000 in
set_option maxHeartbeats 4000000 in
theorem lw_stop (C : LC p s m c b L xs D cy) (hs : LSt D cy ad nx Mx Mm s H locs) (hi : i + 6 ≤ L) (hL : L ≤ 3072) (hl : lv_has ls 4 [(0, .ref b), (1, .ref (ad 0 0)), (2, .ref (ad 100 0)), (3, .int (nI i))]) (hcs : cells + 47 ≤ 600000 ∧ slots + 1235 ≤ 7302250) (kk : LK p l e s m below meth c b D cy Q ls (cells + 47) (slots + 1235) (ad 0 0) (ad 100 0)) : W p l e room_1 s m #[Value.ref b] below meth c H locs cells slots Q (F0 m 386 ls []) := by
  obtain ⟨hG, hN, hB, ⟨hR, hF⟩, hw⟩ := hs
  obtain ⟨hx, hb, -⟩ := id C
  have h0 : lv_has ls 4 [(0, .ref b), (3, .int (nI i))] := lv_sub hl [0, 3] rfl
  obtain ⟨r, Mx', Mm', ex, em, hR'⟩ := q_stop hR (xs (i + 1)) (xs (i + 2))
  have hF' := FRE_k hR hR' (kk_X10_stop (G := gA Mm 100 57) rfl _ em) hF
  have hS := hw.2.2
  refine lv_aload_n hx hb dl_386 rfl (lv_at hl 1 rfl) ?_
  refine lc_A (pc := 387) (k := 1) C hS (by omega) hL hl h0 (by decide) ⟨dl_387, dl_388, dl_389, dl_390, dl_391⟩ ?_
  refine lc_A (pc := 392) (k := 2) C hS (by omega) hL hl h0 (by decide) ⟨dl_392, dl_393, dl_394, dl_395, dl_396⟩ ?_
  refine lc_X (pc := 397) (Mx' := Mx') (v := .int r) (As := [.int (xs (i + 1)), .int (xs (i + 2))]) (rest := []) C hG hN hw (fun A => m_X9_stop hN ex) mv_X9_stop t3_207 ⟨rfl, rfl, Nat.le_of_ble_eq_true rfl, Nat.le_of_ble_eq_true rfl⟩ rfl hl.1 rfl (Nat.le_of_ble_eq_true rfl) ⟨by omega, by omega⟩ dl_397 (fun H locs hw => ?_)
  have hS := hw.2.2
  refine lv_aload_n hx hb dl_400 rfl (lv_at hl 2 rfl) ?_
  refine lc_A (pc := 401) (k := 1) C hS (by omega) hL hl h0 (by decide) ⟨dl_401, dl_402, dl_403, dl_404, dl_405⟩ ?_
  refine lc_A (pc := 406) (k := 2) C hS (by omega) hL hl h0 (by decide) ⟨dl_406, dl_407, dl_408, dl_409, dl_410⟩ ?_
  refine lc_M (pc := 411) (Mm' := Mm') (v := .int r) (As := [.int (xs (i + 1)), .int (xs (i + 2))]) (rest := [.int r]) C hG hw (fun A => m_X10_stop Ob_10 em) mv_X10_stop t7_4 ⟨rfl, rfl, Nat.le_of_ble_eq_true rfl, Nat.le_of_ble_eq_true rfl⟩ rfl hl.1 rfl (Nat.le_of_ble_eq_true rfl) ⟨by omega, by omega⟩ dl_411 (fun H locs hw => ?_)
  refine lv_icmp_eq (tgt := 1390) hx hb dl_414 (by decide) (fun _ => ?_) (fun q => absurd rfl q)
  refine W.widen (k := cells + 47) (n := slots + 1235) (by omega) (by omega) ?_
  exact kk ad nx Mx' Mm' H locs ⟨hG, hN, hB, ⟨hR', hF'⟩, hw⟩ rfl rfl
set_option maxRecDepth 100000 in
set_option maxHeartbeats 4000000 in
theorem lw_state (C : LC p s m c b L xs D cy) (hs : LSt D cy ad nx Mx Mm s H locs) (hi : i + 6 ≤ L) (hL : L ≤ 3072) (hl : lv_has ls 4 [(0, .ref b), (1, .ref (ad 0 0)), (2, .ref (ad 100 0)), (3, .int (nI i))]) (hcs : cells + 47 ≤ 600000 ∧ slots + 1235 ≤ 7302250) (kk : LK p l e s m below meth c b D cy Q ls (cells + 47) (slots + 1235) (ad 0 0) (ad 100 0)) : W p l e room_1 s m #[Value.ref b] below meth c H locs cells slots Q (F0 m 419 ls []) := by
  obtain ⟨hG, hN, hB, ⟨hR, hF⟩, hw⟩ := hs
  obtain ⟨hx, hb, -⟩ := id C
  have h0 : lv_has ls 4 [(0, .ref b), (3, .int (nI i))] := lv_sub hl [0, 3] rfl
  obtain ⟨r, Mx', Mm', ex, em, hR'⟩ := q_state hR (xs (i + 1)) (xs (i + 2)) (xs (i + 3)) (xs (i + 4))
  have hF' := FRE_k hR hR' (kk_X10_state (G := gA Mm 100 57) rfl _ em) hF
  have hS := hw.2.2
  refine lv_aload_n hx hb dl_419 rfl (lv_at hl 1 rfl) ?_
  refine lc_A (pc := 420) (k := 1) C hS (by omega) hL hl h0 (by decide) ⟨dl_420, dl_421, dl_422, dl_423, dl_424⟩ ?_
  refine lc_A (pc := 425) (k := 2) C hS (by omega) hL hl h0 (by decide) ⟨dl_425, dl_426, dl_427, dl_428, dl_429⟩ ?_
  refine lc_A (pc := 430) (k := 3) C hS (by omega) hL hl h0 (by decide) ⟨dl_430, dl_431, dl_432, dl_433, dl_434⟩ ?_
  refine lc_A (pc := 435) (k := 4) C hS (by omega) hL hl h0 (by decide) ⟨dl_435, dl_436, dl_437, dl_438, dl_439⟩ ?_
  refine lc_X (pc := 440) (Mx' := Mx') (v := .int r) (As := [.int (xs (i + 1)), .int (xs (i + 2)), .int (xs (i + 3)), .int (xs (i + 4))]) (rest := []) C hG hN hw (fun A => m_X9_state hN ex) mv_X9_state t4_18 ⟨rfl, rfl, Nat.le_of_ble_eq_true rfl, Nat.le_of_ble_eq_true rfl⟩ rfl hl.1 rfl (Nat.le_of_ble_eq_true rfl) ⟨by omega, by omega⟩ dl_440 (fun H locs hw => ?_)
  have hS := hw.2.2
  refine lv_aload_n hx hb dl_443 rfl (lv_at hl 2 rfl) ?_
  refine lc_A (pc := 444) (k := 1) C hS (by omega) hL hl h0 (by decide) ⟨dl_444, dl_445, dl_446, dl_447, dl_448⟩ ?_
  refine lc_A (pc := 449) (k := 2) C hS (by omega) hL hl h0 (by decide) ⟨dl_449, dl_450, dl_451, dl_452, dl_453⟩ ?_
  refine lc_A (pc := 454) (k := 3) C hS (by omega) hL hl h0 (by decide) ⟨dl_454, dl_455, dl_456, dl_457, dl_458⟩ ?_
  refine lc_A (pc := 459) (k := 4) C hS (by omega) hL hl h0 (by decide) ⟨dl_459, dl_460, dl_461, dl_462, dl_463⟩ ?_
  refine lc_M (pc := 464) (Mm' := Mm') (v := .int r) (As := [.int (xs (i + 1)), .int (xs (i + 2)), .int (xs (i + 3)), .int (xs (i + 4))]) (rest := [.int r]) C hG hw (fun A => m_X10_state Ob_10 em) mv_X10_state t7_62 ⟨rfl, rfl, Nat.le_of_ble_eq_true rfl, Nat.le_of_ble_eq_true rfl⟩ rfl hl.1 rfl (Nat.le_of_ble_eq_true rfl) ⟨by omega, by omega⟩ dl_464 (fun H locs hw => ?_)
  refine lv_icmp_eq (tgt := 1390) hx hb dl_467 (by decide) (fun _ => ?_) (fun q => absurd rfl q)
  refine W.widen (k := cells + 47) (n := slots + 1235) (by omega) (by omega) ?_
  exact kk ad nx Mx' Mm' H locs ⟨hG, hN, hB, ⟨hR', hF'⟩, hw⟩ rfl rfl
set_option maxRecDepth 100000 in
set_option maxHeartbeats 4000000 in
theorem lw_orders (C : LC p s m c b L xs D cy) (hs : LSt D cy ad nx Mx Mm s H locs) (hi : i + 6 ≤ L) (hL : L ≤ 3072) (hl : lv_has ls 4 [(0, .ref b), (1, .ref (ad 0 0)), (2, .ref (ad 100 0)), (3, .int (nI i))]) (hcs : cells + 47 ≤ 600000 ∧ slots + 1235 ≤ 7302250) (kk : LK p l e s m below meth c b D cy Q ls (cells + 47) (slots + 1235) (ad 0 0) (ad 100 0)) : W p l e room_1 s m #[Value.ref b] below meth c H locs cells slots Q (F0 m 472 ls []) := by
  obtain ⟨hG, hN, hB, ⟨hR, hF⟩, hw⟩ := hs
  obtain ⟨hx, hb, -⟩ := id C
  have h0 : lv_has ls 4 [(0, .ref b), (3, .int (nI i))] := lv_sub hl [0, 3] rfl
  obtain ⟨r, Mx', Mm', ex, em, hR'⟩ := q_orders hR (xs (i + 1))
  have hF' := FRE_k hR hR' (kk_X10_orders (G := gA Mm 100 57) rfl _ em) hF
  have hS := hw.2.2
  refine lv_aload_n hx hb dl_472 rfl (lv_at hl 1 rfl) ?_
  refine lc_A (pc := 473) (k := 1) C hS (by omega) hL hl h0 (by decide) ⟨dl_473, dl_474, dl_475, dl_476, dl_477⟩ ?_
  refine lc_X (pc := 478) (Mx' := Mx') (v := .long r) (As := [.int (xs (i + 1))]) (rest := []) C hG hN hw (fun A => m_X9_orders hN ex) mv_X9_orders t4_26 ⟨rfl, rfl, Nat.le_of_ble_eq_true rfl, Nat.le_of_ble_eq_true rfl⟩ rfl hl.1 rfl (Nat.le_of_ble_eq_true rfl) ⟨by omega, by omega⟩ dl_478 (fun H locs hw => ?_)
  have hS := hw.2.2
  refine lv_aload_n hx hb dl_481 rfl (lv_at hl 2 rfl) ?_
  refine lc_A (pc := 482) (k := 1) C hS (by omega) hL hl h0 (by decide) ⟨dl_482, dl_483, dl_484, dl_485, dl_486⟩ ?_
  refine lc_M (pc := 487) (Mm' := Mm') (v := .long r) (As := [.int (xs (i + 1))]) (rest := [.long r]) C hG hw (fun A => m_X10_orders Ob_10 em) mv_X10_orders t7_70 ⟨rfl, rfl, Nat.le_of_ble_eq_true rfl, Nat.le_of_ble_eq_true rfl⟩ rfl hl.1 rfl (Nat.le_of_ble_eq_true rfl) ⟨by omega, by omega⟩ dl_487 (fun H locs hw => ?_)
  refine W.lcmp hx hb dl_490 ?_
  rw [lg_same]
  refine lv_if_eq (tgt := 1390) hx hb dl_491 (by decide) (fun _ => ?_) (fun q => absurd rfl q)
  refine W.widen (k := cells + 47) (n := slots + 1235) (by omega) (by omega) ?_
  exact kk ad nx Mx' Mm' H locs ⟨hG, hN, hB, ⟨hR', hF'⟩, hw⟩ rfl rfl
set_option maxRecDepth 100000 in
set_option maxHeartbeats 4000000 in
theorem lw_order (C : LC p s m c b L xs D cy) (hs : LSt D cy ad nx Mx Mm s H locs) (hi : i + 6 ≤ L) (hL : L ≤ 3072) (hl : lv_has ls 4 [(0, .ref b), (1, .ref (ad 0 0)), (2, .ref (ad 100 0)), (3, .int (nI i))]) (hcs : cells + 47 ≤ 600000 ∧ slots + 1235 ≤ 7302250) (kk : LK p l e s m below meth c b D cy Q ls (cells + 47) (slots + 1235) (ad 0 0) (ad 100 0)) : W p l e room_1 s m #[Value.ref b] below meth c H locs cells slots Q (F0 m 496 ls []) := by
  obtain ⟨hG, hN, hB, ⟨hR, hF⟩, hw⟩ := hs
  obtain ⟨hx, hb, -⟩ := id C
  have h0 : lv_has ls 4 [(0, .ref b), (3, .int (nI i))] := lv_sub hl [0, 3] rfl
  obtain ⟨r, Mx', Mm', ex, em, hR'⟩ := q_order hR (xs (i + 1)) (xs (i + 2)) (xs (i + 3))
  have hF' := FRE_k hR hR' (kk_X10_order (G := gA Mm 100 57) rfl _ em) hF
  have hS := hw.2.2
  refine lv_aload_n hx hb dl_496 rfl (lv_at hl 1 rfl) ?_
  refine lc_A (pc := 497) (k := 1) C hS (by omega) hL hl h0 (by decide) ⟨dl_497, dl_498, dl_499, dl_500, dl_501⟩ ?_
  refine lc_A (pc := 502) (k := 2) C hS (by omega) hL hl h0 (by decide) ⟨dl_502, dl_503, dl_504, dl_505, dl_506⟩ ?_
  refine lc_A (pc := 507) (k := 3) C hS (by omega) hL hl h0 (by decide) ⟨dl_507, dl_508, dl_509, dl_510, dl_511⟩ ?_
  refine lc_X (pc := 512) (Mx' := Mx') (v := .int r) (As := [.int (xs (i + 1)), .int (xs (i + 2)), .int (xs (i + 3))]) (rest := []) C hG hN hw (fun A => m_X9_order hN ex) mv_X9_order t4_51 ⟨rfl, rfl, Nat.le_of_ble_eq_true rfl, Nat.le_of_ble_eq_true rfl⟩ rfl hl.1 rfl (Nat.le_of_ble_eq_true rfl) ⟨by omega, by omega⟩ dl_512 (fun H locs hw => ?_)
  have hS := hw.2.2
  refine lv_aload_n hx hb dl_515 rfl (lv_at hl 2 rfl) ?_
  refine lc_A (pc := 516) (k := 1) C hS (by omega) hL hl h0 (by decide) ⟨dl_516, dl_517, dl_518, dl_519, dl_520⟩ ?_
  refine lc_A (pc := 521) (k := 2) C hS (by omega) hL hl h0 (by decide) ⟨dl_521, dl_522, dl_523, dl_524, dl_525⟩ ?_
  refine lc_A (pc := 526) (k := 3) C hS (by omega) hL hl h0 (by decide) ⟨dl_526, dl_527, dl_528, dl_529, dl_530⟩ ?_
  refine lc_M (pc := 531) (Mm' := Mm') (v := .int r) (As := [.int (xs (i + 1)), .int (xs (i + 2)), .int (xs (i + 3))]) (rest := [.int r]) C hG hw (fun A => m_X10_order Ob_10 em) mv_X10_order t7_83 ⟨rfl, rfl, Nat.le_of_ble_eq_true rfl, Nat.le_of_ble_eq_true rfl⟩ rfl hl.1 rfl (Nat.le_of_ble_eq_true rfl) ⟨by omega, by omega⟩ dl_531 (fun H locs hw => ?_)
  refine lv_icmp_eq (tgt := 1390) hx hb dl_534 (by decide) (fun _ => ?_) (fun q => absurd rfl q)
  refine W.widen (k := cells + 47) (n := slots + 1235) (by omega) (by omega) ?_
  exact kk ad nx Mx' Mm' H locs ⟨hG, hN, hB, ⟨hR', hF'⟩, hw⟩ rfl rfl
end Law0
