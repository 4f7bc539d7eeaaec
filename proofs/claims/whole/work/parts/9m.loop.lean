/-! THE LAW'S LOOP -/
theorem and31 (x : Int32) : ∃ k, k < 32 ∧ x &&& nI 31 = nI k := by
  have h : (x &&& nI 31).toBitVec.toNat ≤ 31 := by
    rw [Int32.toBitVec_and, BitVec.toNat_and]
    exact Nat.and_le_right
  refine ⟨(x &&& nI 31).toBitVec.toNat, by omega, ?_⟩
  refine Int32.toBitVec_inj.mp (BitVec.eq_of_toNat_eq ?_)
  show _ = (BitVec.ofNat 32 _).toNat
  rw [BitVec.toNat_ofNat, Nat.mod_eq_of_lt (by omega)]
theorem six_gt {L i : Nat} (hL : L ≤ 3072) (hi : i ≤ L) (h : L < i + 6) : nI L - nI 6 < nI i := by
  by_cases c : 6 ≤ L
  · rw [pk_sub c]
    exact nI_lt (by omega) (by omega)
  · have q : ∀ L, L < 6 → ∀ i, i < 6 → nI L - nI 6 < nI i := by decide +kernel
    exact q L (by omega) i (by omega)
theorem six_le {L i : Nat} (hL : L ≤ 3072) (h : i + 6 ≤ L) : ¬ nI L - nI 6 < nI i := by
  rw [pk_sub (by omega)]
  exact nI_nlt (by omega) (by omega)
set_option maxRecDepth 100000 in
set_option maxHeartbeats 4000000 in
theorem law_step {p : Program} {l : Launch} {e : Env} {s : State} {m : MethodId} {below : List Frame} {meth : Method} {c : Code} {b L : Nat} {xs : Nat → Int32} {D : va_G} {cy : Nat → ClassId} {ad : Nat → Nat → Nat} {nx : List (Nat × Nat)} {Mx Mm : Mem} {H : Heap} {locs : List Loc} {cells slots : Nat} {Q : State → Prop} {ls : Array Slot} {i : Nat} (C : LC p s m c b L xs D cy) (hs : LSt D cy ad nx Mx Mm s H locs) (hi : i + 6 ≤ L) (hL : L ≤ 3072) (hl : lv_has ls 4 [(0, .ref b), (1, .ref (ad 0 0)), (2, .ref (ad 100 0)), (3, .int (nI i))]) (hcs : cells + 47 ≤ 600000 ∧ slots + 1235 ≤ 7302250) (kk : LK p l e s m below meth c b D cy Q ls (cells + 47) (slots + 1235) (ad 0 0) (ad 100 0)) : W p l e room_1 s m #[Value.ref b] below meth c H locs cells slots Q (F0 m 33 ls [.int (xs i &&& nI 31)]) := by
  obtain ⟨hx, hb, -⟩ := id C
  obtain ⟨k, hk, ek⟩ := and31 (xs i)
  have out : 30 ≤ k → W p l e room_1 s m #[Value.ref b] below meth c H locs cells slots Q (F0 m 33 ls [.int (xs i &&& nI 31)]) := fun h => by
    refine lv_tableOut (tgt := 1390) hx hb dl_33 ?_ (by decide) ?_
    · rw [ek]
      rcases (show k = 30 ∨ k = 31 by omega) with rfl | rfl <;> exact Or.inr (by decide +kernel)
    · refine W.widen (k := cells + 47) (n := slots + 1235) (by omega) (by omega) ?_
      exact kk ad nx Mx Mm H locs hs rfl rfl
  match k, hk, ek, out with
  | 0, _, ek, _ => exact r_tabIn (v := nI 0) ek hx hb dl_33 (by decide +kernel) (by decide +kernel) (off := 135) (by decide +kernel) (tgt := 168) (by decide) (lw_feed C hs hi hL hl hcs kk)
  | 1, _, ek, _ => exact r_tabIn (v := nI 1) ek hx hb dl_33 (by decide +kernel) (by decide +kernel) (off := 198) (by decide +kernel) (tgt := 231) (by decide) (lw_end C hs hi hL hl hcs kk)
  | 2, _, ek, _ => exact r_tabIn (v := nI 2) ek hx hb dl_33 (by decide +kernel) (by decide +kernel) (off := 221) (by decide +kernel) (tgt := 254) (by decide) (lw_text C hs hi hL hl hcs kk)
  | 3, _, ek, _ => exact r_tabIn (v := nI 3) ek hx hb dl_33 (by decide +kernel) (by decide +kernel) (off := 254) (by decide +kernel) (tgt := 287) (by decide) (lw_fault C hs hi hL hl hcs kk)
  | 4, _, ek, _ => exact r_tabIn (v := nI 4) ek hx hb dl_33 (by decide +kernel) (by decide +kernel) (off := 277) (by decide +kernel) (tgt := 310) (by decide) (lw_coat C hs hi hL hl hcs kk)
  | 5, _, ek, _ => exact r_tabIn (v := nI 5) ek hx hb dl_33 (by decide +kernel) (by decide +kernel) (off := 310) (by decide +kernel) (tgt := 343) (by decide) (lw_deed C hs hi hL hl hcs kk)
  | 6, _, ek, _ => exact r_tabIn (v := nI 6) ek hx hb dl_33 (by decide +kernel) (by decide +kernel) (off := 353) (by decide +kernel) (tgt := 386) (by decide) (lw_stop C hs hi hL hl hcs kk)
  | 7, _, ek, _ => exact r_tabIn (v := nI 7) ek hx hb dl_33 (by decide +kernel) (by decide +kernel) (off := 386) (by decide +kernel) (tgt := 419) (by decide) (lw_state C hs hi hL hl hcs kk)
  | 8, _, ek, _ => exact r_tabIn (v := nI 8) ek hx hb dl_33 (by decide +kernel) (by decide +kernel) (off := 439) (by decide +kernel) (tgt := 472) (by decide) (lw_orders C hs hi hL hl hcs kk)
  | 9, _, ek, _ => exact r_tabIn (v := nI 9) ek hx hb dl_33 (by decide +kernel) (by decide +kernel) (off := 463) (by decide +kernel) (tgt := 496) (by decide) (lw_order C hs hi hL hl hcs kk)
  | 10, _, ek, _ => exact r_tabIn (v := nI 10) ek hx hb dl_33 (by decide +kernel) (by decide +kernel) (off := 506) (by decide +kernel) (tgt := 539) (by decide) (lw_sewn C hs hi hL hl hcs kk)
  | 11, _, ek, _ => exact r_tabIn (v := nI 11) ek hx hb dl_33 (by decide +kernel) (by decide +kernel) (off := 539) (by decide +kernel) (tgt := 572) (by decide) (lw_parted C hs hi hL hl hcs kk)
  | 12, _, ek, _ => exact r_tabIn (v := nI 12) ek hx hb dl_33 (by decide +kernel) (by decide +kernel) (off := 608) (by decide +kernel) (tgt := 641) (by decide) (lw_town C hs hi hL hl hcs kk)
  | 13, _, ek, _ => exact r_tabIn (v := nI 13) ek hx hb dl_33 (by decide +kernel) (by decide +kernel) (off := 641) (by decide +kernel) (tgt := 674) (by decide) (lw_done C hs hi hL hl hcs kk)
  | 14, _, ek, _ => exact r_tabIn (v := nI 14) ek hx hb dl_33 (by decide +kernel) (by decide +kernel) (off := 694) (by decide +kernel) (tgt := 727) (by decide) (lw_rounds C hs hi hL hl hcs kk)
  | 15, _, ek, _ => exact r_tabIn (v := nI 15) ek hx hb dl_33 (by decide +kernel) (by decide +kernel) (off := 727) (by decide +kernel) (tgt := 760) (by decide) (lw_cloth C hs hi hL hl hcs kk)
  | 16, _, ek, _ => exact r_tabIn (v := nI 16) ek hx hb dl_33 (by decide +kernel) (by decide +kernel) (off := 791) (by decide +kernel) (tgt := 824) (by decide) (lw_fact C hs hi hL hl hcs kk)
  | 17, _, ek, _ => exact r_tabIn (v := nI 17) ek hx hb dl_33 (by decide +kernel) (by decide +kernel) (off := 834) (by decide +kernel) (tgt := 867) (by decide) (lw_fits C hs hi hL hl hcs kk)
  | 18, _, ek, _ => exact r_tabIn (v := nI 18) ek hx hb dl_33 (by decide +kernel) (by decide +kernel) (off := 888) (by decide +kernel) (tgt := 921) (by decide) (lw_sure C hs hi hL hl hcs kk)
  | 19, _, ek, _ => exact r_tabIn (v := nI 19) ek hx hb dl_33 (by decide +kernel) (by decide +kernel) (off := 931) (by decide +kernel) (tgt := 964) (by decide) (lw_drawn C hs hi hL hl hcs kk)
  | 20, _, ek, _ => exact r_tabIn (v := nI 20) ek hx hb dl_33 (by decide +kernel) (by decide +kernel) (off := 984) (by decide +kernel) (tgt := 1017) (by decide) (lw_under C hs hi hL hl hcs kk)
  | 21, _, ek, _ => exact r_tabIn (v := nI 21) ek hx hb dl_33 (by decide +kernel) (by decide +kernel) (off := 1027) (by decide +kernel) (tgt := 1060) (by decide) (lw_hands C hs hi hL hl hcs kk)
  | 22, _, ek, _ => exact r_tabIn (v := nI 22) ek hx hb dl_33 (by decide +kernel) (by decide +kernel) (off := 1060) (by decide +kernel) (tgt := 1093) (by decide) (lw_spools C hs hi hL hl hcs kk)
  | 23, _, ek, _ => exact r_tabIn (v := nI 23) ek hx hb dl_33 (by decide +kernel) (by decide +kernel) (off := 1093) (by decide +kernel) (tgt := 1126) (by decide) (lw_grown C hs hi hL hl hcs kk)
  | 24, _, ek, _ => exact r_tabIn (v := nI 24) ek hx hb dl_33 (by decide +kernel) (by decide +kernel) (off := 1126) (by decide +kernel) (tgt := 1159) (by decide) (lw_home C hs hi hL hl hcs kk)
  | 25, _, ek, _ => exact r_tabIn (v := nI 25) ek hx hb dl_33 (by decide +kernel) (by decide +kernel) (off := 1175) (by decide +kernel) (tgt := 1208) (by decide) (lw_way C hs hi hL hl hcs kk)
  | 26, _, ek, _ => exact r_tabIn (v := nI 26) ek hx hb dl_33 (by decide +kernel) (by decide +kernel) (off := 1218) (by decide +kernel) (tgt := 1251) (by decide) (lw_enough C hs hi hL hl hcs kk)
  | 27, _, ek, _ => exact r_tabIn (v := nI 27) ek hx hb dl_33 (by decide +kernel) (by decide +kernel) (off := 1288) (by decide +kernel) (tgt := 1321) (by decide) (lw_count C hs hi hL hl hcs kk)
  | 28, _, ek, _ => exact r_tabIn (v := nI 28) ek hx hb dl_33 (by decide +kernel) (by decide +kernel) (off := 1311) (by decide +kernel) (tgt := 1344) (by decide) (lw_image C hs hi hL hl hcs kk)
  | 29, _, ek, _ => exact r_tabIn (v := nI 29) ek hx hb dl_33 (by decide +kernel) (by decide +kernel) (off := 1334) (by decide +kernel) (tgt := 1367) (by decide) (lw_again C hs hi hL hl hcs kk)
  | n + 30, _, _, out => exact out (by omega)
set_option maxRecDepth 100000 in
set_option maxHeartbeats 4000000 in
theorem law_loop {p : Program} {l : Launch} {e : Env} {s : State} {m : MethodId} {below : List Frame} {meth : Method} {c : Code} {b L : Nat} {xs : Nat → Int32} {D : va_G} {cy : Nat → ClassId} (C : LC p s m c b L xs D cy) (hr : meth.sig.returnType = ret) (hlk : meth.locks = false) (hL : L ≤ 3072) : ∀ (n i cells slots : Nat) (ad : Nat → Nat → Nat) (nx : List (Nat × Nat)) (Mx Mm : Mem) (H : Heap) (locs : List Loc) (ls : Array Slot), i ≤ L → L + 6 ≤ i + 6 * n → cells + 47 * n ≤ 600000 → slots + 1235 * n ≤ 7302250 → LSt D cy ad nx Mx Mm s H locs → lv_has ls 4 [(0, .ref b), (1, .ref (ad 0 0)), (2, .ref (ad 100 0)), (3, .int (nI i))] → W p l e room_1 s m #[Value.ref b] below meth c H locs cells slots (lw_Z below #[Value.ref b] s) (F0 m 18 ls []) := by
  intro n
  induction n with
  | zero => intro i cells slots ad nx Mx Mm H locs ls h1 h2; exact absurd h2 (by omega)
  | succ n ih =>
    intro i cells slots ad nx Mx Mm H locs ls hi hn hc hsl hs hl
    obtain ⟨hx, hb, hml, hown, hts, hX, hbl, hK⟩ := id C
    have hS := hs.2.2.2.2.2.2
    have hA : ¬ A0 s b := Nat.not_le.mpr hbl
    refine lv_iload_n hx hb dl_18 rfl (lv_at hl 3 rfl) ?_
    refine lv_aload_n hx hb dl_19 rfl (lv_at hl 0 rfl) ?_
    refine va_slen hx hb hX hbl hA hS dl_20 ?_
    refine lv_bipush (v := nI 6) hx hb dl_21 (by decide) ?_
    refine lv_isub hx hb dl_23 ?_
    refine lv_icmp_gt (tgt := 1396) hx hb dl_24 (by decide) (fun g => ?_) (fun g => ?_)
    · refine lv_iconst (v := 1) hx hb dl_1396 (by decide) ?_
      refine va_forget (fun q hq => hS.2.2 q hq) ?_
      refine W.widen (k := 600000) (n := 7302250) (by omega) (by omega) ?_
      exact lw_ret hx hb hr hlk dl_1397
    · have hi6 : i + 6 ≤ L := by
        by_cases q : i + 6 ≤ L
        · exact q
        · exact absurd (six_gt hL hi (by omega)) g
      refine lv_aload_n hx hb dl_27 rfl (lv_at hl 0 rfl) ?_
      refine lv_iload_n hx hb dl_28 rfl (lv_at hl 3 rfl) ?_
      refine va_sld hx hb hX hbl hA hS (vp_in_nI (by omega) (by omega)) dl_29 ?_
      have hix : (nI i).toNatClampNeg = i := ix_n (by omega)
      rw [hix]
      refine lv_bipush (v := nI 31) hx hb dl_30 (by decide) ?_
      refine lv_iand hx hb dl_32 ?_
      refine law_step C hs hi6 hL hl ⟨by omega, by omega⟩ ?_
      intro ad' nx' Mx' Mm' H locs hs' e1 e2
      refine lv_iinc (v := nI (i + 6)) (lv' := [(3, .int (nI (i + 6))), (0, .ref b), (1, .ref (ad 0 0)), (2, .ref (ad 100 0))]) hx hb dl_1390 hl (k := 3) rfl (nI_add i 6) (by decide) rfl (fun ls hl => ?_)
      refine lv_goto (tgt := 18) hx hb dl_1393 (by decide) ?_
      refine ih (i + 6) (cells + 47) (slots + 1235) ad' nx' Mx' Mm' H locs ls hi6 (by omega) (by omega) (by omega) hs' ?_
      rw [e1, e2]
      exact lv_sub hl [1, 2, 3, 0] rfl
