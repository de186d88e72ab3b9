/-! the law's loop -/
section LOOP
variable {p : Program} {l : Launch} {e : Env} {s : State} {m : MethodId} {below : List Frame} {meth : Method} {c : Code}
variable {g : GT} {B : Nat → Nat → Nat} {am : Nat → Nat} {qo b L : Nat} {xs : Nat → Int32}
theorem end_lt (hL : L ≤ 3072) {i : Nat} (hi : i ≤ L) (h : ¬ (Int32.ofNat L - 6 < nI i)) : i + 6 ≤ L := by
  by_cases c6 : 6 ≤ L
  · have e1 : Int32.ofNat L - 6 = nI (L - 6) := nI_sub (a := L) (b := 6) c6
    rw [e1, Int32.lt_iff_toInt_lt, nI_toInt (by omega), nI_toInt (by omega)] at h
    omega
  · exfalso
    apply h
    have hz : (Int32.ofNat L - 6).toInt < 0 := by
      rcases (show L = 0 ∨ L = 1 ∨ L = 2 ∨ L = 3 ∨ L = 4 ∨ L = 5 by omega) with rfl | rfl | rfl | rfl | rfl | rfl <;> decide
    rw [Int32.lt_iff_toInt_lt, nI_toInt (by omega)]
    omega
theorem sw_cases {x : Int32} (h : ¬ (x.toInt < 0 ∨ 48 < x.toInt)) : ∃ n, n ≤ 48 ∧ x = nI n := by
  refine ⟨x.toInt.toNat, by omega, Int32.toInt_inj.mp ?_⟩
  rw [nI_toInt (by omega)]
  omega
set_option maxRecDepth 20000 in
theorem law_one {H : Heap} {locs : List Loc} {cells slots i : Nat} {ls : Array Slot} {Q : State → Prop} (D : LC p s m meth c b L i xs) (hst : l.stackTraces = false) (hl : lv_has ls 7 (lo5 b B am qo i)) (hL : LzI g s B am qo H locs) (hm : cells + 24 ≤ room_1.cells) (hm2 : slots + 311 ≤ room_1.slots)
    (kk : ∀ (H : Heap) (locs : List Loc) (ls : Array Slot), lv_has ls 7 (lo5 b B am qo i) → LzI g s B am qo H locs → W p l e room_1 s m #[.ref b] below meth c H locs (cells + 24) (slots + 311) Q (F0 m 1655 ls [])) : W p l e room_1 s m #[.ref b] below meth c H locs cells slots Q (F0 m 33 ls []) := by
  obtain ⟨X, hX, hbl, hi6, hLm⟩ := id D
  obtain ⟨hx, hb, hml, hown, ht, hr, hlk⟩ := id X
  have hS : va_S (Ah s) s.heap H locs := by
    obtain ⟨hk, re, ta, se, co, bo, sb, wb, hi, tr, now, ch, ri, to, md, ot, an, qr, fo, hV, hI⟩ := hL
    exact hI.2.2.2.1
  refine lv_aload_n hx hb dL_law_33 rfl (lv_at hl 0 rfl) ?_
  refine lv_iload hx hb dL_law_34 (lv_at hl 4 rfl) ?_
  refine va_sld hx hb hX hbl (Nat.not_le.mpr hbl) hS ((vp_in_I (by omega)).mpr (by omega)) dL_law_36 ?_
  refine lv_bipush (v := 63) hx hb dL_law_37 (by decide) ?_
  refine lv_iand hx hb dL_law_39 ?_
  refine lv_topi (fun x _ => ?_)
  by_cases h0 : x.toInt < 0 ∨ 48 < x.toInt
  · refine lv_tableOut (tgt := 1655) hx hb dL_law_40 h0 (by decide) ?_
    exact W.widen (Nat.le_add_right _ _) (Nat.le_add_right _ _) (kk _ _ _ hl hL)
  · obtain ⟨n, hn, rfl⟩ := sw_cases h0
    rcases (show n = 0 ∨ n = 1 ∨ n = 2 ∨ n = 3 ∨ n = 4 ∨ n = 5 ∨ n = 6 ∨ n = 7 ∨ n = 8 ∨ n = 9 ∨ n = 10 ∨ n = 11 ∨ n = 12 ∨ n = 13 ∨ n = 14 ∨ n = 15 ∨ n = 16 ∨ n = 17 ∨ n = 18 ∨ n = 19 ∨ n = 20 ∨ n = 21 ∨ n = 22 ∨ n = 23 ∨ n = 24 ∨ n = 25 ∨ n = 26 ∨ n = 27 ∨ n = 28 ∨ n = 29 ∨ n = 30 ∨ n = 31 ∨ n = 32 ∨ n = 33 ∨ n = 34 ∨ n = 35 ∨ n = 36 ∨ n = 37 ∨ n = 38 ∨ n = 39 ∨ n = 40 ∨ n = 41 ∨ n = 42 ∨ n = 43 ∨ n = 44 ∨ n = 45 ∨ n = 46 ∨ n = 47 ∨ n = 48 by omega) with rfl | rfl | rfl | rfl | rfl | rfl | rfl | rfl | rfl | rfl | rfl | rfl | rfl | rfl | rfl | rfl | rfl | rfl | rfl | rfl | rfl | rfl | rfl | rfl | rfl | rfl | rfl | rfl | rfl | rfl | rfl | rfl | rfl | rfl | rfl | rfl | rfl | rfl | rfl | rfl | rfl | rfl | rfl | rfl | rfl | rfl | rfl | rfl | rfl
    · exact lv_tableIn (tgt := 252) (off := 212) hx hb dL_law_40 (by decide) (by decide) rfl (by decide) (k_feed D hl hL hm hm2 kk)
    · exact lv_tableIn (tgt := 325) (off := 285) hx hb dL_law_40 (by decide) (by decide) rfl (by decide) (k_tangle D hl hL hm hm2 kk)
    · exact lv_tableIn (tgt := 350) (off := 310) hx hb dL_law_40 (by decide) (by decide) rfl (by decide) (k_fault D hl hL hm hm2 kk)
    · exact lv_tableIn (tgt := 363) (off := 323) hx hb dL_law_40 (by decide) (by decide) rfl (by decide) (k_where D hl hL hm hm2 kk)
    · exact lv_tableIn (tgt := 376) (off := 336) hx hb dL_law_40 (by decide) (by decide) rfl (by decide) (k_ring D hl hL hm hm2 kk)
    · exact lv_tableIn (tgt := 401) (off := 361) hx hb dL_law_40 (by decide) (by decide) rfl (by decide) (k_people D hl hL hm hm2 kk)
    · exact lv_tableIn (tgt := 426) (off := 386) hx hb dL_law_40 (by decide) (by decide) rfl (by decide) (k_member D hl hL hm hm2 kk)
    · exact lv_tableIn (tgt := 463) (off := 423) hx hb dL_law_40 (by decide) (by decide) rfl (by decide) (k_holds D hl hL hm hm2 kk)
    · exact lv_tableIn (tgt := 516) (off := 476) hx hb dL_law_40 (by decide) (by decide) rfl (by decide) (k_along D hl hL hm hm2 kk)
    · exact lv_tableIn (tgt := 541) (off := 501) hx hb dL_law_40 (by decide) (by decide) rfl (by decide) (k_stands D hl hL hm hm2 kk)
    · exact lv_tableIn (tgt := 566) (off := 526) hx hb dL_law_40 (by decide) (by decide) rfl (by decide) (k_place D hl hL hm hm2 kk)
    · exact lv_tableIn (tgt := 603) (off := 563) hx hb dL_law_40 (by decide) (by decide) rfl (by decide) (k_sign D hl hL hm hm2 kk)
    · exact lv_tableIn (tgt := 628) (off := 588) hx hb dL_law_40 (by decide) (by decide) rfl (by decide) (k_left D hl hL hm hm2 kk)
    · exact lv_tableIn (tgt := 641) (off := 601) hx hb dL_law_40 (by decide) (by decide) rfl (by decide) (k_loose D hl hL hm hm2 kk)
    · exact lv_tableIn (tgt := 654) (off := 614) hx hb dL_law_40 (by decide) (by decide) rfl (by decide) (k_may D hl hL hm hm2 kk)
    · exact lv_tableIn (tgt := 679) (off := 639) hx hb dL_law_40 (by decide) (by decide) rfl (by decide) (k_goer D hl hL hm hm2 kk)
    · exact lv_tableIn (tgt := 704) (off := 664) hx hb dL_law_40 (by decide) (by decide) rfl (by decide) (k_moves D hl hL hm hm2 kk)
    · exact lv_tableIn (tgt := 717) (off := 677) hx hb dL_law_40 (by decide) (by decide) rfl (by decide) (k_moveAt D hl hL hm hm2 kk)
    · exact lv_tableIn (tgt := 742) (off := 702) hx hb dL_law_40 (by decide) (by decide) rfl (by decide) (k_fewest D hl hL hm hm2 kk)
    · exact lv_tableIn (tgt := 767) (off := 727) hx hb dL_law_40 (by decide) (by decide) rfl (by decide) (k_next D hl hL hm hm2 kk)
    · exact lv_tableIn (tgt := 792) (off := 752) hx hb dL_law_40 (by decide) (by decide) rfl (by decide) (k_caller D hl hL hm hm2 kk)
    · exact lv_tableIn (tgt := 805) (off := 765) hx hb dL_law_40 (by decide) (by decide) rfl (by decide) (k_hang D hl hL hm hm2 kk)
    · exact lv_tableIn (tgt := 842) (off := 802) hx hb dL_law_40 (by decide) (by decide) rfl (by decide) (k_colours D hl hL hm hm2 kk)
    · exact lv_tableIn (tgt := 867) (off := 827) hx hb dL_law_40 (by decide) (by decide) rfl (by decide) (k_cannot D hl hL hm hm2 kk)
    · exact lv_tableIn (tgt := 880) (off := 840) hx hb dL_law_40 (by decide) (by decide) rfl (by decide) (k_part D hl hL hm hm2 kk)
    · exact lv_tableIn (tgt := 905) (off := 865) hx hb dL_law_40 (by decide) (by decide) rfl (by decide) (k_lift D hl hL hm hm2 kk)
    · exact lv_tableIn (tgt := 930) (off := 890) hx hb dL_law_40 (by decide) (by decide) rfl (by decide) (k_twist D hl hL hm hm2 kk)
    · exact lv_tableIn (tgt := 955) (off := 915) hx hb dL_law_40 (by decide) (by decide) rfl (by decide) (k_arcs D hl hL hm hm2 kk)
    · exact lv_tableIn (tgt := 968) (off := 928) hx hb dL_law_40 (by decide) (by decide) rfl (by decide) (k_reached D hl hL hm hm2 kk)
    · exact lv_tableIn (tgt := 993) (off := 953) hx hb dL_law_40 (by decide) (by decide) rfl (by decide) (k_few D hl hL hm hm2 kk)
    · exact lv_tableIn (tgt := 1018) (off := 978) hx hb dL_law_40 (by decide) (by decide) rfl (by decide) (k_sees D hl hL hm hm2 kk)
    · exact lv_tableIn (tgt := 1043) (off := 1003) hx hb dL_law_40 (by decide) (by decide) rfl (by decide) (k_own D hl hL hm hm2 kk)
    · exact lv_tableIn (tgt := 1068) (off := 1028) hx hb dL_law_40 (by decide) (by decide) rfl (by decide) (k_rounds D hl hL hm hm2 kk)
    · exact lv_tableIn (tgt := 1093) (off := 1053) hx hb dL_law_40 (by decide) (by decide) rfl (by decide) (k_tries D hl hL hm hm2 kk)
    · exact lv_tableIn (tgt := 1142) (off := 1102) hx hb dL_law_40 (by decide) (by decide) rfl (by decide) (k_ways D hl hL hm hm2 kk)
    · exact lv_tableIn (tgt := 1208) (off := 1168) hx hb dL_law_40 (by decide) (by decide) rfl (by decide) (k_odds D hl hL hm hm2 kk)
    · exact lv_tableIn (tgt := 1302) (off := 1262) hx hb dL_law_40 (by decide) (by decide) rfl (by decide) (k_mean D hl hL hm hm2 kk)
    · exact lv_tableIn (tgt := 1384) (off := 1344) hx hb dL_law_40 (by decide) (by decide) rfl (by decide) (k_move D hl hL hm hm2 kk)
    · exact lv_tableIn (tgt := 1409) (off := 1369) hx hb dL_law_40 (by decide) (by decide) rfl (by decide) (k_parts D hl hL hm hm2 kk)
    · exact lv_tableIn (tgt := 1434) (off := 1394) hx hb dL_law_40 (by decide) (by decide) rfl (by decide) (k_lifts D hl hL hm hm2 kk)
    · exact lv_tableIn (tgt := 1459) (off := 1419) hx hb dL_law_40 (by decide) (by decide) rfl (by decide) (k_lot D hl hL hm hm2 kk)
    · exact lv_tableIn (tgt := 1472) (off := 1432) hx hb dL_law_40 (by decide) (by decide) rfl (by decide) (k_call D hl hL hm hm2 kk)
    · exact lv_tableIn (tgt := 1485) (off := 1445) hx hb dL_law_40 (by decide) (by decide) rfl (by decide) (k_seed D hl hL hm hm2 kk)
    · exact lv_tableIn (tgt := 1510) (off := 1470) hx hb dL_law_40 (by decide) (by decide) rfl (by decide) (k_undo D hl hL hm hm2 kk)
    · exact lv_tableIn (tgt := 1523) (off := 1483) hx hb dL_law_40 (by decide) (by decide) rfl (by decide) (k_mark D hl hL hm hm2 kk)
    · exact lv_tableIn (tgt := 1536) (off := 1496) hx hb dL_law_40 (by decide) (by decide) rfl (by decide) (k_back D hl hL hm hm2 kk)
    · exact lv_tableIn (tgt := 1561) (off := 1521) hx hb dL_law_40 (by decide) (by decide) rfl (by decide) (k_led D hl hL hst hm hm2 kk)
    · exact lv_tableIn (tgt := 1617) (off := 1577) hx hb dL_law_40 (by decide) (by decide) rfl (by decide) (k_size D hl hL hm hm2 kk)
    · exact lv_tableIn (tgt := 1642) (off := 1602) hx hb dL_law_40 (by decide) (by decide) rfl (by decide) (k_trouble D hl hL hm hm2 kk)
theorem law_loop (hst : l.stackTraces = false) (X : Cx p s m #[.ref b] meth c cL_law 7 "HandKnotLaw" (some .boolean)) (hX : va_X b L xs s s.heap) (hbl : b < s.heap.size) (hL3 : L ≤ 3072) : ∀ (n i : Nat), L < i + n → i ≤ L → ∀ (H : Heap) (locs : List Loc) (ls : Array Slot) (cells slots : Nat), lv_has ls 7 (lo5 b B am qo i) → LzI g s B am qo H locs → cells ≤ 1000 + 4 * i → slots ≤ 100000 + 52 * i →
    W p l e room_1 s m #[.ref b] below meth c H locs cells slots (lw_Z below #[Value.ref b] s) (F0 m 23 ls []) := by
  obtain ⟨hx, hb, hml, hown, ht, hr, hlk⟩ := id X
  intro n
  induction n with
  | zero =>
    intro i h1 h2
    omega
  | succ n ih =>
    intro i h1 h2 H locs ls cells slots hl hLI hc hs
    have hS : va_S (Ah s) s.heap H locs := by
      obtain ⟨hk, re, ta, se, co, bo, sb, wb, hi, tr, now, ch, ri, to, md, ot, an, qr, fo, hV, hI⟩ := hLI
      exact hI.2.2.2.1
    refine lv_iload hx hb dL_law_23 (lv_at hl 4 rfl) ?_
    refine lv_aload_n hx hb dL_law_25 rfl (lv_at hl 0 rfl) ?_
    refine va_slen hx hb hX hbl (Nat.not_le.mpr hbl) hS dL_law_26 ?_
    refine lv_bipush (v := 6) hx hb dL_law_27 (by decide) ?_
    refine lv_isub hx hb dL_law_29 ?_
    refine lv_icmp_gt (tgt := 1661) hx hb dL_law_30 (by decide) (fun h_ => ?_) (fun h_ => ?_)
    · refine lv_iconst (v := 1) hx hb dL_law_1661 (by decide) ?_
      refine va_forget (fun q hq => hS.2.2 q hq) ?_
      refine W.widen (k := 601024) (n := 7293034) (by omega) (by omega) ?_
      exact lw_ret hx hb hr hlk dL_law_1662
    · have h6 := end_lt hL3 h2 h_
      have D : LC p s m meth c b L i xs := ⟨X, hX, hbl, by omega, hL3⟩
      refine law_one D hst hl hLI (show cells + 24 ≤ 601024 by omega) (show slots + 311 ≤ 7293034 by omega) (fun H locs ls hl hLI => ?_)
      refine lv_iinc (v := nI (i + 6)) (lv' := [(4, .int (nI (i + 6))), (0, .ref b), (1, .ref (B 0 0)), (2, .ref (am 0)), (3, .ref qo)]) hx hb dL_law_1655 hl (k := 4) rfl (Int32.ofNat_add i 6).symm (by decide) rfl (fun ls hl => ?_)
      refine lv_goto (tgt := 23) hx hb dL_law_1658 (by decide) ?_
      exact ih (i + 6) (by omega) h6 H locs ls _ _ (lv_sub hl [1, 2, 3, 4, 0] rfl) hLI (by omega) (by omega)
end LOOP
