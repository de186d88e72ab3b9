section LCASES
variable {p : Program} {l : Launch} {e : Env} {s : State} {m : MethodId} {below : List Frame} {meth : Method} {c : Code} {H : Heap} {locs : List Loc} {cells slots : Nat} {Q : State → Prop}
variable {ls : Array Slot} {g : GT} {B : Nat → Nat → Nat} {am : Nat → Nat} {qo b L i : Nat} {xs : Nat → Int32}
theorem k_loose (D : LC p s m meth c b L i xs) (hl : lv_has ls 7 (lo5 b B am qo i)) (hL : LzI g s B am qo H locs) (hm : cells + 24 ≤ room_1.cells) (hm2 : slots + 311 ≤ room_1.slots)
    (kk : ∀ (H : Heap) (locs : List Loc) (ls : Array Slot), lv_has ls 7 (lo5 b B am qo i) → LzI g s B am qo H locs → W p l e room_1 s m #[.ref b] below meth c H locs (cells + 24) (slots + 311) Q (F0 m 1655 ls [])) : W p l e room_1 s m #[.ref b] below meth c H locs cells slots Q (F0 m 641 ls []) := by
  obtain ⟨hk, re, ta, se, co, bo, sb, wb, hi, tr, now, ch, ri, to, md, ot, an, qr, fo, hV, hI⟩ := hL
  obtain ⟨X, hX, hbl, hi6, hLm⟩ := id D
  obtain ⟨hx, hb, hml, hown, ht, hr, hlk⟩ := id X
  have hc0 : Nat.ble cells room_1.cells = true := Nat.ble_eq_true_of_le (Nat.le_trans (Nat.le_add_right _ _) hm)
  have hs0 : Nat.ble slots room_1.slots = true := Nat.ble_eq_true_of_le (Nat.le_trans (Nat.le_add_right _ _) hm2)
  obtain ⟨q, hq, cr, hc, h1, h2⟩ := i_loose hV
  refine lv_aload_n hx hb dL_law_641 rfl (lv_at hl 1 rfl) ?_
  refine call_Vi X hI (Cj.keep (Cj.skip (Cj.skip (Cj.skip (Cj.skip (Cj.skip (Cj.keep Cj.nil))))))) (c_X11_loose l g (B 0) (B 6) (B 1 0) (B 13 0) (B 11 0) (B 10 0) (B 9 0) (B 3 0) (B 4 0) (B 5 0) (B 12 0) (B 13 0) hk bo cr.1 cr.2 hc) ⟨rfl, rfl⟩ ⟨ht _ w_1081, w_1084, ht _ w_139, lk_X11_loose⟩ w_1082 w_1083 rfl rfl rfl hl rfl rfl dL_law_642 rfl rfl hc0 hs0 (fun H locs hI => ?_)
  refine lv_aload_n hx hb dL_law_645 rfl (lv_at hl 2 rfl) ?_
  cases ot with
  | none =>
    have hI : In g (Ah s) s.heap s (wHK g (B 0) (B 1 0) (B 13 0) (B 11 0) (B 10 0) (B 9 0) (B 6 0) (B 3 0) (B 4 0) (B 5 0) (B 12 0) cr.2 ++ (wRe g (B 1) (B 2 0) (B 14 0) re ++ (wTa g (B 2) ta ++ (wSe g (B 3) (B 7 0) se ++ (wWi g (B 4) (B 13 0) (B 8 0) ++ (wCo g (B 5) co ++ (wBo g (B 6) (B 13 0) bo ++ (wBo g (B 7) (B 13 0) sb ++ (wBo g (B 8) (B 13 0) wb ++ (wHi g (B 9) hi ++ (wMo g (B 10) tr ++ (wMo g (B 11) now ++ (wCh g (B 12) ch ++ (wRi g (B 13) ri ++ (wTo g (B 14) to ++ (wOut g qo fo ++ (wMd g am none qr md ++ []))))))))))))))))) H locs := hI
    refine call_Vi X hI (Cj.skip (Cj.skip (Cj.skip (Cj.skip (Cj.skip (Cj.skip (Cj.skip (Cj.skip (Cj.skip (Cj.skip (Cj.skip (Cj.skip (Cj.skip (Cj.skip (Cj.skip (Cj.skip Cj.id)))))))))))))))) (c_X13_loose_N l g am qr md q.1 q.2 hq) ⟨rfl, rfl⟩ ⟨ht _ w_2099, w_2102, ht _ w_155, lk_X13_loose⟩ w_2100 w_2101 rfl rfl rfl hl rfl rfl dL_law_646 rfl rfl hc0 hs0 (fun H locs hI => ?_)
    refine lz_eq D h1 dL_law_649 (by decide) (kk _ _ _ hl ⟨cr.2, re, ta, se, co, bo, sb, wb, hi, tr, now, ch, ri, to, q.2, none, an, qr, fo, h2, hI⟩)
  | some tn =>
    have hI : In g (Ah s) s.heap s (wHK g (B 0) (B 1 0) (B 13 0) (B 11 0) (B 10 0) (B 9 0) (B 6 0) (B 3 0) (B 4 0) (B 5 0) (B 12 0) cr.2 ++ (wRe g (B 1) (B 2 0) (B 14 0) re ++ (wTa g (B 2) ta ++ (wSe g (B 3) (B 7 0) se ++ (wWi g (B 4) (B 13 0) (B 8 0) ++ (wCo g (B 5) co ++ (wBo g (B 6) (B 13 0) bo ++ (wBo g (B 7) (B 13 0) sb ++ (wBo g (B 8) (B 13 0) wb ++ (wHi g (B 9) hi ++ (wMo g (B 10) tr ++ (wMo g (B 11) now ++ (wCh g (B 12) ch ++ (wRi g (B 13) ri ++ (wTo g (B 14) to ++ (wOut g qo fo ++ (wMd g am (some (an 0)) qr md ++ (wTn g an tn ++ [])))))))))))))))))) H locs := hI
    refine call_Vi X hI (Cj.skip (Cj.skip (Cj.skip (Cj.skip (Cj.skip (Cj.skip (Cj.skip (Cj.skip (Cj.skip (Cj.skip (Cj.skip (Cj.skip (Cj.skip (Cj.skip (Cj.skip (Cj.skip Cj.id)))))))))))))))) (c_X13_loose l g am an qr md tn q.1 q.2 hq) ⟨rfl, rfl⟩ ⟨ht _ w_2099, w_2102, ht _ w_155, lk_X13_loose⟩ w_2100 w_2101 rfl rfl rfl hl rfl rfl dL_law_646 rfl rfl hc0 hs0 (fun H locs hI => ?_)
    refine lz_eq D h1 dL_law_649 (by decide) (kk _ _ _ hl ⟨cr.2, re, ta, se, co, bo, sb, wb, hi, tr, now, ch, ri, to, q.2, (some tn), an, qr, fo, h2, hI⟩)
theorem k_may (D : LC p s m meth c b L i xs) (hl : lv_has ls 7 (lo5 b B am qo i)) (hL : LzI g s B am qo H locs) (hm : cells + 24 ≤ room_1.cells) (hm2 : slots + 311 ≤ room_1.slots)
    (kk : ∀ (H : Heap) (locs : List Loc) (ls : Array Slot), lv_has ls 7 (lo5 b B am qo i) → LzI g s B am qo H locs → W p l e room_1 s m #[.ref b] below meth c H locs (cells + 24) (slots + 311) Q (F0 m 1655 ls [])) : W p l e room_1 s m #[.ref b] below meth c H locs cells slots Q (F0 m 654 ls []) := by
  obtain ⟨hk, re, ta, se, co, bo, sb, wb, hi, tr, now, ch, ri, to, md, ot, an, qr, fo, hV, hI⟩ := hL
  obtain ⟨X, hX, hbl, hi6, hLm⟩ := id D
  obtain ⟨hx, hb, hml, hown, ht, hr, hlk⟩ := id X
  have hc0 : Nat.ble cells room_1.cells = true := Nat.ble_eq_true_of_le (Nat.le_trans (Nat.le_add_right _ _) hm)
  have hs0 : Nat.ble slots room_1.slots = true := Nat.ble_eq_true_of_le (Nat.le_trans (Nat.le_add_right _ _) hm2)
  obtain ⟨q, hq, cr, hc, h1, h2⟩ := i_may hV (xs (i + 1))
  refine lv_aload_n hx hb dL_law_654 rfl (lv_at hl 1 rfl) ?_
  refine sc_ld (k := 1) D hI hl rfl (by decide) dL_law_655 dL_law_656 dL_law_658 dL_law_659 dL_law_660 ?_
  refine call_Vi X hI (Cj.keep (Cj.skip (Cj.skip (Cj.skip (Cj.skip (Cj.skip (Cj.keep (Cj.skip (Cj.skip (Cj.skip (Cj.skip (Cj.skip (Cj.skip (Cj.keep Cj.nil)))))))))))))) (c_X11_may l g (B 0) (B 6) (B 13) (B 1 0) (B 11 0) (B 10 0) (B 9 0) (B 3 0) (B 4 0) (B 5 0) (B 12 0) hk bo ri (xs (i + 1)) cr.1 cr.2 hc) ⟨rfl, rfl⟩ ⟨ht _ w_1085, w_1088, ht _ w_139, lk_X11_may⟩ w_1086 w_1087 rfl rfl rfl hl rfl rfl dL_law_661 rfl rfl hc0 hs0 (fun H locs hI => ?_)
  refine lv_aload_n hx hb dL_law_664 rfl (lv_at hl 2 rfl) ?_
  refine sc_ld (k := 1) D hI hl rfl (by decide) dL_law_665 dL_law_666 dL_law_668 dL_law_669 dL_law_670 ?_
  cases ot with
  | none =>
    have hI : In g (Ah s) s.heap s (wHK g (B 0) (B 1 0) (B 13 0) (B 11 0) (B 10 0) (B 9 0) (B 6 0) (B 3 0) (B 4 0) (B 5 0) (B 12 0) cr.2 ++ (wRe g (B 1) (B 2 0) (B 14 0) re ++ (wTa g (B 2) ta ++ (wSe g (B 3) (B 7 0) se ++ (wWi g (B 4) (B 13 0) (B 8 0) ++ (wCo g (B 5) co ++ (wBo g (B 6) (B 13 0) bo ++ (wBo g (B 7) (B 13 0) sb ++ (wBo g (B 8) (B 13 0) wb ++ (wHi g (B 9) hi ++ (wMo g (B 10) tr ++ (wMo g (B 11) now ++ (wCh g (B 12) ch ++ (wRi g (B 13) ri ++ (wTo g (B 14) to ++ (wOut g qo fo ++ (wMd g am none qr md ++ []))))))))))))))))) H locs := hI
    refine call_Vi X hI (Cj.skip (Cj.skip (Cj.skip (Cj.skip (Cj.skip (Cj.skip (Cj.skip (Cj.skip (Cj.skip (Cj.skip (Cj.skip (Cj.skip (Cj.skip (Cj.skip (Cj.skip (Cj.skip Cj.id)))))))))))))))) (c_X13_may_N l g am qr md (xs (i + 1)) q.1 q.2 hq) ⟨rfl, rfl⟩ ⟨ht _ w_2103, w_2106, ht _ w_155, lk_X13_may⟩ w_2104 w_2105 rfl rfl rfl hl rfl rfl dL_law_671 rfl rfl hc0 hs0 (fun H locs hI => ?_)
    refine lz_eq D h1 dL_law_674 (by decide) (kk _ _ _ hl ⟨cr.2, re, ta, se, co, bo, sb, wb, hi, tr, now, ch, ri, to, q.2, none, an, qr, fo, h2, hI⟩)
  | some tn =>
    have hI : In g (Ah s) s.heap s (wHK g (B 0) (B 1 0) (B 13 0) (B 11 0) (B 10 0) (B 9 0) (B 6 0) (B 3 0) (B 4 0) (B 5 0) (B 12 0) cr.2 ++ (wRe g (B 1) (B 2 0) (B 14 0) re ++ (wTa g (B 2) ta ++ (wSe g (B 3) (B 7 0) se ++ (wWi g (B 4) (B 13 0) (B 8 0) ++ (wCo g (B 5) co ++ (wBo g (B 6) (B 13 0) bo ++ (wBo g (B 7) (B 13 0) sb ++ (wBo g (B 8) (B 13 0) wb ++ (wHi g (B 9) hi ++ (wMo g (B 10) tr ++ (wMo g (B 11) now ++ (wCh g (B 12) ch ++ (wRi g (B 13) ri ++ (wTo g (B 14) to ++ (wOut g qo fo ++ (wMd g am (some (an 0)) qr md ++ (wTn g an tn ++ [])))))))))))))))))) H locs := hI
    refine call_Vi X hI (Cj.skip (Cj.skip (Cj.skip (Cj.skip (Cj.skip (Cj.skip (Cj.skip (Cj.skip (Cj.skip (Cj.skip (Cj.skip (Cj.skip (Cj.skip (Cj.skip (Cj.skip (Cj.skip Cj.id)))))))))))))))) (c_X13_may l g am an qr md tn (xs (i + 1)) q.1 q.2 hq) ⟨rfl, rfl⟩ ⟨ht _ w_2103, w_2106, ht _ w_155, lk_X13_may⟩ w_2104 w_2105 rfl rfl rfl hl rfl rfl dL_law_671 rfl rfl hc0 hs0 (fun H locs hI => ?_)
    refine lz_eq D h1 dL_law_674 (by decide) (kk _ _ _ hl ⟨cr.2, re, ta, se, co, bo, sb, wb, hi, tr, now, ch, ri, to, q.2, (some tn), an, qr, fo, h2, hI⟩)
theorem k_goer (D : LC p s m meth c b L i xs) (hl : lv_has ls 7 (lo5 b B am qo i)) (hL : LzI g s B am qo H locs) (hm : cells + 24 ≤ room_1.cells) (hm2 : slots + 311 ≤ room_1.slots)
    (kk : ∀ (H : Heap) (locs : List Loc) (ls : Array Slot), lv_has ls 7 (lo5 b B am qo i) → LzI g s B am qo H locs → W p l e room_1 s m #[.ref b] below meth c H locs (cells + 24) (slots + 311) Q (F0 m 1655 ls [])) : W p l e room_1 s m #[.ref b] below meth c H locs cells slots Q (F0 m 679 ls []) := by
  obtain ⟨hk, re, ta, se, co, bo, sb, wb, hi, tr, now, ch, ri, to, md, ot, an, qr, fo, hV, hI⟩ := hL
  obtain ⟨X, hX, hbl, hi6, hLm⟩ := id D
  obtain ⟨hx, hb, hml, hown, ht, hr, hlk⟩ := id X
  have hc0 : Nat.ble cells room_1.cells = true := Nat.ble_eq_true_of_le (Nat.le_trans (Nat.le_add_right _ _) hm)
  have hs0 : Nat.ble slots room_1.slots = true := Nat.ble_eq_true_of_le (Nat.le_trans (Nat.le_add_right _ _) hm2)
  obtain ⟨q, hq, cr, hc, h1, h2⟩ := i_goer hV (xs (i + 1))
  refine lv_aload_n hx hb dL_law_679 rfl (lv_at hl 1 rfl) ?_
  refine sc_ld (k := 1) D hI hl rfl (by decide) dL_law_680 dL_law_681 dL_law_683 dL_law_684 dL_law_685 ?_
  refine call_Vi X hI (Cj.keep (Cj.skip (Cj.skip (Cj.skip (Cj.skip (Cj.skip (Cj.keep (Cj.skip (Cj.skip (Cj.skip (Cj.skip (Cj.skip (Cj.skip (Cj.keep Cj.nil)))))))))))))) (c_X11_goer l g (B 0) (B 6) (B 13) (B 1 0) (B 11 0) (B 10 0) (B 9 0) (B 3 0) (B 4 0) (B 5 0) (B 12 0) hk bo ri (xs (i + 1)) cr.1 cr.2 hc) ⟨rfl, rfl⟩ ⟨ht _ w_1117, w_1120, ht _ w_139, lk_X11_goer⟩ w_1118 w_1119 rfl rfl rfl hl rfl rfl dL_law_686 rfl rfl hc0 hs0 (fun H locs hI => ?_)
  refine lv_aload_n hx hb dL_law_689 rfl (lv_at hl 2 rfl) ?_
  refine sc_ld (k := 1) D hI hl rfl (by decide) dL_law_690 dL_law_691 dL_law_693 dL_law_694 dL_law_695 ?_
  cases ot with
  | none =>
    have hI : In g (Ah s) s.heap s (wHK g (B 0) (B 1 0) (B 13 0) (B 11 0) (B 10 0) (B 9 0) (B 6 0) (B 3 0) (B 4 0) (B 5 0) (B 12 0) cr.2 ++ (wRe g (B 1) (B 2 0) (B 14 0) re ++ (wTa g (B 2) ta ++ (wSe g (B 3) (B 7 0) se ++ (wWi g (B 4) (B 13 0) (B 8 0) ++ (wCo g (B 5) co ++ (wBo g (B 6) (B 13 0) bo ++ (wBo g (B 7) (B 13 0) sb ++ (wBo g (B 8) (B 13 0) wb ++ (wHi g (B 9) hi ++ (wMo g (B 10) tr ++ (wMo g (B 11) now ++ (wCh g (B 12) ch ++ (wRi g (B 13) ri ++ (wTo g (B 14) to ++ (wOut g qo fo ++ (wMd g am none qr md ++ []))))))))))))))))) H locs := hI
    refine call_Vi X hI (Cj.skip (Cj.skip (Cj.skip (Cj.skip (Cj.skip (Cj.skip (Cj.skip (Cj.skip (Cj.skip (Cj.skip (Cj.skip (Cj.skip (Cj.skip (Cj.skip (Cj.skip (Cj.skip Cj.id)))))))))))))))) (c_X13_goer_N l g am qr md (xs (i + 1)) q.1 q.2 hq) ⟨rfl, rfl⟩ ⟨ht _ w_2130, w_2133, ht _ w_155, lk_X13_goer⟩ w_2131 w_2132 rfl rfl rfl hl rfl rfl dL_law_696 rfl rfl hc0 hs0 (fun H locs hI => ?_)
    refine lz_eq D h1 dL_law_699 (by decide) (kk _ _ _ hl ⟨cr.2, re, ta, se, co, bo, sb, wb, hi, tr, now, ch, ri, to, q.2, none, an, qr, fo, h2, hI⟩)
  | some tn =>
    have hI : In g (Ah s) s.heap s (wHK g (B 0) (B 1 0) (B 13 0) (B 11 0) (B 10 0) (B 9 0) (B 6 0) (B 3 0) (B 4 0) (B 5 0) (B 12 0) cr.2 ++ (wRe g (B 1) (B 2 0) (B 14 0) re ++ (wTa g (B 2) ta ++ (wSe g (B 3) (B 7 0) se ++ (wWi g (B 4) (B 13 0) (B 8 0) ++ (wCo g (B 5) co ++ (wBo g (B 6) (B 13 0) bo ++ (wBo g (B 7) (B 13 0) sb ++ (wBo g (B 8) (B 13 0) wb ++ (wHi g (B 9) hi ++ (wMo g (B 10) tr ++ (wMo g (B 11) now ++ (wCh g (B 12) ch ++ (wRi g (B 13) ri ++ (wTo g (B 14) to ++ (wOut g qo fo ++ (wMd g am (some (an 0)) qr md ++ (wTn g an tn ++ [])))))))))))))))))) H locs := hI
    refine call_Vi X hI (Cj.skip (Cj.skip (Cj.skip (Cj.skip (Cj.skip (Cj.skip (Cj.skip (Cj.skip (Cj.skip (Cj.skip (Cj.skip (Cj.skip (Cj.skip (Cj.skip (Cj.skip (Cj.skip Cj.id)))))))))))))))) (c_X13_goer l g am an qr md tn (xs (i + 1)) q.1 q.2 hq) ⟨rfl, rfl⟩ ⟨ht _ w_2130, w_2133, ht _ w_155, lk_X13_goer⟩ w_2131 w_2132 rfl rfl rfl hl rfl rfl dL_law_696 rfl rfl hc0 hs0 (fun H locs hI => ?_)
    refine lz_eq D h1 dL_law_699 (by decide) (kk _ _ _ hl ⟨cr.2, re, ta, se, co, bo, sb, wb, hi, tr, now, ch, ri, to, q.2, (some tn), an, qr, fo, h2, hI⟩)
theorem k_moves (D : LC p s m meth c b L i xs) (hl : lv_has ls 7 (lo5 b B am qo i)) (hL : LzI g s B am qo H locs) (hm : cells + 24 ≤ room_1.cells) (hm2 : slots + 311 ≤ room_1.slots)
    (kk : ∀ (H : Heap) (locs : List Loc) (ls : Array Slot), lv_has ls 7 (lo5 b B am qo i) → LzI g s B am qo H locs → W p l e room_1 s m #[.ref b] below meth c H locs (cells + 24) (slots + 311) Q (F0 m 1655 ls [])) : W p l e room_1 s m #[.ref b] below meth c H locs cells slots Q (F0 m 704 ls []) := by
  obtain ⟨hk, re, ta, se, co, bo, sb, wb, hi, tr, now, ch, ri, to, md, ot, an, qr, fo, hV, hI⟩ := hL
  obtain ⟨X, hX, hbl, hi6, hLm⟩ := id D
  obtain ⟨hx, hb, hml, hown, ht, hr, hlk⟩ := id X
  have hc0 : Nat.ble cells room_1.cells = true := Nat.ble_eq_true_of_le (Nat.le_trans (Nat.le_add_right _ _) hm)
  have hs0 : Nat.ble slots room_1.slots = true := Nat.ble_eq_true_of_le (Nat.le_trans (Nat.le_add_right _ _) hm2)
  obtain ⟨q, hq, cr, hc, h1, h2⟩ := i_moves hV
  refine lv_aload_n hx hb dL_law_704 rfl (lv_at hl 1 rfl) ?_
  refine call_Vi X hI (Cj.keep (Cj.skip (Cj.skip (Cj.skip (Cj.skip (Cj.skip (Cj.keep Cj.nil))))))) (c_X11_moves l g (B 0) (B 6) (B 1 0) (B 13 0) (B 11 0) (B 10 0) (B 9 0) (B 3 0) (B 4 0) (B 5 0) (B 12 0) (B 13 0) hk bo cr.1 cr.2 hc) ⟨rfl, rfl⟩ ⟨ht _ w_1126, w_1129, ht _ w_139, lk_X11_moves⟩ w_1127 w_1128 rfl rfl rfl hl rfl rfl dL_law_705 rfl rfl hc0 hs0 (fun H locs hI => ?_)
  refine lv_aload_n hx hb dL_law_708 rfl (lv_at hl 2 rfl) ?_
  cases ot with
  | none =>
    have hI : In g (Ah s) s.heap s (wHK g (B 0) (B 1 0) (B 13 0) (B 11 0) (B 10 0) (B 9 0) (B 6 0) (B 3 0) (B 4 0) (B 5 0) (B 12 0) cr.2 ++ (wRe g (B 1) (B 2 0) (B 14 0) re ++ (wTa g (B 2) ta ++ (wSe g (B 3) (B 7 0) se ++ (wWi g (B 4) (B 13 0) (B 8 0) ++ (wCo g (B 5) co ++ (wBo g (B 6) (B 13 0) bo ++ (wBo g (B 7) (B 13 0) sb ++ (wBo g (B 8) (B 13 0) wb ++ (wHi g (B 9) hi ++ (wMo g (B 10) tr ++ (wMo g (B 11) now ++ (wCh g (B 12) ch ++ (wRi g (B 13) ri ++ (wTo g (B 14) to ++ (wOut g qo fo ++ (wMd g am none qr md ++ []))))))))))))))))) H locs := hI
    refine call_Vi X hI (Cj.skip (Cj.skip (Cj.skip (Cj.skip (Cj.skip (Cj.skip (Cj.skip (Cj.skip (Cj.skip (Cj.skip (Cj.skip (Cj.skip (Cj.skip (Cj.skip (Cj.skip (Cj.skip Cj.id)))))))))))))))) (c_X13_moves_N l g am qr md q.1 q.2 hq) ⟨rfl, rfl⟩ ⟨ht _ w_2134, w_2137, ht _ w_155, lk_X13_moves⟩ w_2135 w_2136 rfl rfl rfl hl rfl rfl dL_law_709 rfl rfl hc0 hs0 (fun H locs hI => ?_)
    refine lz_eq D h1 dL_law_712 (by decide) (kk _ _ _ hl ⟨cr.2, re, ta, se, co, bo, sb, wb, hi, tr, now, ch, ri, to, q.2, none, an, qr, fo, h2, hI⟩)
  | some tn =>
    have hI : In g (Ah s) s.heap s (wHK g (B 0) (B 1 0) (B 13 0) (B 11 0) (B 10 0) (B 9 0) (B 6 0) (B 3 0) (B 4 0) (B 5 0) (B 12 0) cr.2 ++ (wRe g (B 1) (B 2 0) (B 14 0) re ++ (wTa g (B 2) ta ++ (wSe g (B 3) (B 7 0) se ++ (wWi g (B 4) (B 13 0) (B 8 0) ++ (wCo g (B 5) co ++ (wBo g (B 6) (B 13 0) bo ++ (wBo g (B 7) (B 13 0) sb ++ (wBo g (B 8) (B 13 0) wb ++ (wHi g (B 9) hi ++ (wMo g (B 10) tr ++ (wMo g (B 11) now ++ (wCh g (B 12) ch ++ (wRi g (B 13) ri ++ (wTo g (B 14) to ++ (wOut g qo fo ++ (wMd g am (some (an 0)) qr md ++ (wTn g an tn ++ [])))))))))))))))))) H locs := hI
    refine call_Vi X hI (Cj.skip (Cj.skip (Cj.skip (Cj.skip (Cj.skip (Cj.skip (Cj.skip (Cj.skip (Cj.skip (Cj.skip (Cj.skip (Cj.skip (Cj.skip (Cj.skip (Cj.skip (Cj.skip Cj.id)))))))))))))))) (c_X13_moves l g am an qr md tn q.1 q.2 hq) ⟨rfl, rfl⟩ ⟨ht _ w_2134, w_2137, ht _ w_155, lk_X13_moves⟩ w_2135 w_2136 rfl rfl rfl hl rfl rfl dL_law_709 rfl rfl hc0 hs0 (fun H locs hI => ?_)
    refine lz_eq D h1 dL_law_712 (by decide) (kk _ _ _ hl ⟨cr.2, re, ta, se, co, bo, sb, wb, hi, tr, now, ch, ri, to, q.2, (some tn), an, qr, fo, h2, hI⟩)
theorem k_moveAt (D : LC p s m meth c b L i xs) (hl : lv_has ls 7 (lo5 b B am qo i)) (hL : LzI g s B am qo H locs) (hm : cells + 24 ≤ room_1.cells) (hm2 : slots + 311 ≤ room_1.slots)
    (kk : ∀ (H : Heap) (locs : List Loc) (ls : Array Slot), lv_has ls 7 (lo5 b B am qo i) → LzI g s B am qo H locs → W p l e room_1 s m #[.ref b] below meth c H locs (cells + 24) (slots + 311) Q (F0 m 1655 ls [])) : W p l e room_1 s m #[.ref b] below meth c H locs cells slots Q (F0 m 717 ls []) := by
  obtain ⟨hk, re, ta, se, co, bo, sb, wb, hi, tr, now, ch, ri, to, md, ot, an, qr, fo, hV, hI⟩ := hL
  obtain ⟨X, hX, hbl, hi6, hLm⟩ := id D
  obtain ⟨hx, hb, hml, hown, ht, hr, hlk⟩ := id X
  have hc0 : Nat.ble cells room_1.cells = true := Nat.ble_eq_true_of_le (Nat.le_trans (Nat.le_add_right _ _) hm)
  have hs0 : Nat.ble slots room_1.slots = true := Nat.ble_eq_true_of_le (Nat.le_trans (Nat.le_add_right _ _) hm2)
  obtain ⟨q, hq, cr, hc, h1, h2⟩ := i_moveAt hV (xs (i + 1))
  refine lv_aload_n hx hb dL_law_717 rfl (lv_at hl 1 rfl) ?_
  refine sc_ld (k := 1) D hI hl rfl (by decide) dL_law_718 dL_law_719 dL_law_721 dL_law_722 dL_law_723 ?_
  refine call_Vi X hI (Cj.keep (Cj.skip (Cj.skip (Cj.skip (Cj.skip (Cj.skip (Cj.keep Cj.nil))))))) (c_X11_moveAt l g (B 0) (B 6) (B 1 0) (B 13 0) (B 11 0) (B 10 0) (B 9 0) (B 3 0) (B 4 0) (B 5 0) (B 12 0) (B 13 0) hk bo (xs (i + 1)) cr.1 cr.2 hc) ⟨rfl, rfl⟩ ⟨ht _ w_1130, w_1133, ht _ w_139, lk_X11_moveAt⟩ w_1131 w_1132 rfl rfl rfl hl rfl rfl dL_law_724 rfl rfl hc0 hs0 (fun H locs hI => ?_)
  refine lv_aload_n hx hb dL_law_727 rfl (lv_at hl 2 rfl) ?_
  refine sc_ld (k := 1) D hI hl rfl (by decide) dL_law_728 dL_law_729 dL_law_731 dL_law_732 dL_law_733 ?_
  cases ot with
  | none =>
    have hI : In g (Ah s) s.heap s (wHK g (B 0) (B 1 0) (B 13 0) (B 11 0) (B 10 0) (B 9 0) (B 6 0) (B 3 0) (B 4 0) (B 5 0) (B 12 0) cr.2 ++ (wRe g (B 1) (B 2 0) (B 14 0) re ++ (wTa g (B 2) ta ++ (wSe g (B 3) (B 7 0) se ++ (wWi g (B 4) (B 13 0) (B 8 0) ++ (wCo g (B 5) co ++ (wBo g (B 6) (B 13 0) bo ++ (wBo g (B 7) (B 13 0) sb ++ (wBo g (B 8) (B 13 0) wb ++ (wHi g (B 9) hi ++ (wMo g (B 10) tr ++ (wMo g (B 11) now ++ (wCh g (B 12) ch ++ (wRi g (B 13) ri ++ (wTo g (B 14) to ++ (wOut g qo fo ++ (wMd g am none qr md ++ []))))))))))))))))) H locs := hI
    refine call_Vi X hI (Cj.skip (Cj.skip (Cj.skip (Cj.skip (Cj.skip (Cj.skip (Cj.skip (Cj.skip (Cj.skip (Cj.skip (Cj.skip (Cj.skip (Cj.skip (Cj.skip (Cj.skip (Cj.skip Cj.id)))))))))))))))) (c_X13_moveAt_N l g am qr md (xs (i + 1)) q.1 q.2 hq) ⟨rfl, rfl⟩ ⟨ht _ w_2146, w_2149, ht _ w_155, lk_X13_moveAt⟩ w_2147 w_2148 rfl rfl rfl hl rfl rfl dL_law_734 rfl rfl hc0 hs0 (fun H locs hI => ?_)
    refine lz_eq D h1 dL_law_737 (by decide) (kk _ _ _ hl ⟨cr.2, re, ta, se, co, bo, sb, wb, hi, tr, now, ch, ri, to, q.2, none, an, qr, fo, h2, hI⟩)
  | some tn =>
    have hI : In g (Ah s) s.heap s (wHK g (B 0) (B 1 0) (B 13 0) (B 11 0) (B 10 0) (B 9 0) (B 6 0) (B 3 0) (B 4 0) (B 5 0) (B 12 0) cr.2 ++ (wRe g (B 1) (B 2 0) (B 14 0) re ++ (wTa g (B 2) ta ++ (wSe g (B 3) (B 7 0) se ++ (wWi g (B 4) (B 13 0) (B 8 0) ++ (wCo g (B 5) co ++ (wBo g (B 6) (B 13 0) bo ++ (wBo g (B 7) (B 13 0) sb ++ (wBo g (B 8) (B 13 0) wb ++ (wHi g (B 9) hi ++ (wMo g (B 10) tr ++ (wMo g (B 11) now ++ (wCh g (B 12) ch ++ (wRi g (B 13) ri ++ (wTo g (B 14) to ++ (wOut g qo fo ++ (wMd g am (some (an 0)) qr md ++ (wTn g an tn ++ [])))))))))))))))))) H locs := hI
    refine call_Vi X hI (Cj.skip (Cj.skip (Cj.skip (Cj.skip (Cj.skip (Cj.skip (Cj.skip (Cj.skip (Cj.skip (Cj.skip (Cj.skip (Cj.skip (Cj.skip (Cj.skip (Cj.skip (Cj.skip Cj.id)))))))))))))))) (c_X13_moveAt l g am an qr md tn (xs (i + 1)) q.1 q.2 hq) ⟨rfl, rfl⟩ ⟨ht _ w_2146, w_2149, ht _ w_155, lk_X13_moveAt⟩ w_2147 w_2148 rfl rfl rfl hl rfl rfl dL_law_734 rfl rfl hc0 hs0 (fun H locs hI => ?_)
    refine lz_eq D h1 dL_law_737 (by decide) (kk _ _ _ hl ⟨cr.2, re, ta, se, co, bo, sb, wb, hi, tr, now, ch, ri, to, q.2, (some tn), an, qr, fo, h2, hI⟩)
theorem k_fewest (D : LC p s m meth c b L i xs) (hl : lv_has ls 7 (lo5 b B am qo i)) (hL : LzI g s B am qo H locs) (hm : cells + 24 ≤ room_1.cells) (hm2 : slots + 311 ≤ room_1.slots)
    (kk : ∀ (H : Heap) (locs : List Loc) (ls : Array Slot), lv_has ls 7 (lo5 b B am qo i) → LzI g s B am qo H locs → W p l e room_1 s m #[.ref b] below meth c H locs (cells + 24) (slots + 311) Q (F0 m 1655 ls [])) : W p l e room_1 s m #[.ref b] below meth c H locs cells slots Q (F0 m 742 ls []) := by
  obtain ⟨hk, re, ta, se, co, bo, sb, wb, hi, tr, now, ch, ri, to, md, ot, an, qr, fo, hV, hI⟩ := hL
  obtain ⟨X, hX, hbl, hi6, hLm⟩ := id D
  obtain ⟨hx, hb, hml, hown, ht, hr, hlk⟩ := id X
  have hc0 : Nat.ble cells room_1.cells = true := Nat.ble_eq_true_of_le (Nat.le_trans (Nat.le_add_right _ _) hm)
  have hs0 : Nat.ble slots room_1.slots = true := Nat.ble_eq_true_of_le (Nat.le_trans (Nat.le_add_right _ _) hm2)
  obtain ⟨q, hq, cr, hc, h1, h2⟩ := i_fewest (sb := sb) hV (xs (i + 1))
  refine lv_aload_n hx hb dL_law_742 rfl (lv_at hl 1 rfl) ?_
  refine sc_ld (k := 1) D hI hl rfl (by decide) dL_law_743 dL_law_744 dL_law_746 dL_law_747 dL_law_748 ?_
  refine call_Vi X hI (Cj.keep (Cj.skip (Cj.skip (Cj.keep (Cj.skip (Cj.skip (Cj.skip (Cj.keep (Cj.skip (Cj.skip (Cj.skip (Cj.keep (Cj.skip (Cj.keep Cj.nil)))))))))))))) (c_X11_fewest l g (B 0) (B 3) (B 7) (B 11) (B 13) (B 1 0) (B 10 0) (B 9 0) (B 6 0) (B 4 0) (B 5 0) (B 12 0) hk se sb now ri (xs (i + 1)) cr.1 cr.2.1 cr.2.2.1 cr.2.2.2 hc) ⟨rfl, rfl⟩ ⟨ht _ w_1134, w_1137, ht _ w_139, lk_X11_fewest⟩ w_1135 w_1136 rfl rfl rfl hl rfl rfl dL_law_749 rfl rfl hc0 hs0 (fun H locs hI => ?_)
  refine lv_aload_n hx hb dL_law_752 rfl (lv_at hl 2 rfl) ?_
  refine sc_ld (k := 1) D hI hl rfl (by decide) dL_law_753 dL_law_754 dL_law_756 dL_law_757 dL_law_758 ?_
  cases ot with
  | none =>
    have hI : In g (Ah s) s.heap s (wHK g (B 0) (B 1 0) (B 13 0) (B 11 0) (B 10 0) (B 9 0) (B 6 0) (B 3 0) (B 4 0) (B 5 0) (B 12 0) cr.2.1 ++ (wRe g (B 1) (B 2 0) (B 14 0) re ++ (wTa g (B 2) ta ++ (wSe g (B 3) (B 7 0) cr.2.2.1 ++ (wWi g (B 4) (B 13 0) (B 8 0) ++ (wCo g (B 5) co ++ (wBo g (B 6) (B 13 0) bo ++ (wBo g (B 7) (B 13 0) cr.2.2.2 ++ (wBo g (B 8) (B 13 0) wb ++ (wHi g (B 9) hi ++ (wMo g (B 10) tr ++ (wMo g (B 11) now ++ (wCh g (B 12) ch ++ (wRi g (B 13) ri ++ (wTo g (B 14) to ++ (wOut g qo fo ++ (wMd g am none qr md ++ []))))))))))))))))) H locs := hI
    refine call_Vi X hI (Cj.skip (Cj.skip (Cj.skip (Cj.skip (Cj.skip (Cj.skip (Cj.skip (Cj.skip (Cj.skip (Cj.skip (Cj.skip (Cj.skip (Cj.skip (Cj.skip (Cj.skip (Cj.skip Cj.id)))))))))))))))) (c_X13_fewest_N l g am qr md (xs (i + 1)) q.1 q.2 hq) ⟨rfl, rfl⟩ ⟨ht _ w_2150, w_2153, ht _ w_155, lk_X13_fewest⟩ w_2151 w_2152 rfl rfl rfl hl rfl rfl dL_law_759 rfl rfl hc0 hs0 (fun H locs hI => ?_)
    refine lz_eq D h1 dL_law_762 (by decide) (kk _ _ _ hl ⟨cr.2.1, re, ta, cr.2.2.1, co, bo, cr.2.2.2, wb, hi, tr, now, ch, ri, to, q.2, none, an, qr, fo, h2, hI⟩)
  | some tn =>
    have hI : In g (Ah s) s.heap s (wHK g (B 0) (B 1 0) (B 13 0) (B 11 0) (B 10 0) (B 9 0) (B 6 0) (B 3 0) (B 4 0) (B 5 0) (B 12 0) cr.2.1 ++ (wRe g (B 1) (B 2 0) (B 14 0) re ++ (wTa g (B 2) ta ++ (wSe g (B 3) (B 7 0) cr.2.2.1 ++ (wWi g (B 4) (B 13 0) (B 8 0) ++ (wCo g (B 5) co ++ (wBo g (B 6) (B 13 0) bo ++ (wBo g (B 7) (B 13 0) cr.2.2.2 ++ (wBo g (B 8) (B 13 0) wb ++ (wHi g (B 9) hi ++ (wMo g (B 10) tr ++ (wMo g (B 11) now ++ (wCh g (B 12) ch ++ (wRi g (B 13) ri ++ (wTo g (B 14) to ++ (wOut g qo fo ++ (wMd g am (some (an 0)) qr md ++ (wTn g an tn ++ [])))))))))))))))))) H locs := hI
    refine call_Vi X hI (Cj.skip (Cj.skip (Cj.skip (Cj.skip (Cj.skip (Cj.skip (Cj.skip (Cj.skip (Cj.skip (Cj.skip (Cj.skip (Cj.skip (Cj.skip (Cj.skip (Cj.skip (Cj.skip Cj.id)))))))))))))))) (c_X13_fewest l g am an qr md tn (xs (i + 1)) q.1 q.2 hq) ⟨rfl, rfl⟩ ⟨ht _ w_2150, w_2153, ht _ w_155, lk_X13_fewest⟩ w_2151 w_2152 rfl rfl rfl hl rfl rfl dL_law_759 rfl rfl hc0 hs0 (fun H locs hI => ?_)
    refine lz_eq D h1 dL_law_762 (by decide) (kk _ _ _ hl ⟨cr.2.1, re, ta, cr.2.2.1, co, bo, cr.2.2.2, wb, hi, tr, now, ch, ri, to, q.2, (some tn), an, qr, fo, h2, hI⟩)
theorem k_next (D : LC p s m meth c b L i xs) (hl : lv_has ls 7 (lo5 b B am qo i)) (hL : LzI g s B am qo H locs) (hm : cells + 24 ≤ room_1.cells) (hm2 : slots + 311 ≤ room_1.slots)
    (kk : ∀ (H : Heap) (locs : List Loc) (ls : Array Slot), lv_has ls 7 (lo5 b B am qo i) → LzI g s B am qo H locs → W p l e room_1 s m #[.ref b] below meth c H locs (cells + 24) (slots + 311) Q (F0 m 1655 ls [])) : W p l e room_1 s m #[.ref b] below meth c H locs cells slots Q (F0 m 767 ls []) := by
  obtain ⟨hk, re, ta, se, co, bo, sb, wb, hi, tr, now, ch, ri, to, md, ot, an, qr, fo, hV, hI⟩ := hL
  obtain ⟨X, hX, hbl, hi6, hLm⟩ := id D
  obtain ⟨hx, hb, hml, hown, ht, hr, hlk⟩ := id X
  have hc0 : Nat.ble cells room_1.cells = true := Nat.ble_eq_true_of_le (Nat.le_trans (Nat.le_add_right _ _) hm)
  have hs0 : Nat.ble slots room_1.slots = true := Nat.ble_eq_true_of_le (Nat.le_trans (Nat.le_add_right _ _) hm2)
  obtain ⟨q, hq, cr, hc, h1, h2⟩ := i_next (sb := sb) hV (xs (i + 1))
  refine lv_aload_n hx hb dL_law_767 rfl (lv_at hl 1 rfl) ?_
  refine sc_ld (k := 1) D hI hl rfl (by decide) dL_law_768 dL_law_769 dL_law_771 dL_law_772 dL_law_773 ?_
  refine call_Vi X hI (Cj.keep (Cj.skip (Cj.skip (Cj.keep (Cj.skip (Cj.skip (Cj.skip (Cj.keep (Cj.skip (Cj.skip (Cj.skip (Cj.keep (Cj.skip (Cj.keep Cj.nil)))))))))))))) (c_X11_next l g (B 0) (B 3) (B 7) (B 11) (B 13) (B 1 0) (B 10 0) (B 9 0) (B 6 0) (B 4 0) (B 5 0) (B 12 0) hk se sb now ri (xs (i + 1)) cr.1 cr.2.1 cr.2.2.1 cr.2.2.2 hc) ⟨rfl, rfl⟩ ⟨ht _ w_1177, w_1180, ht _ w_139, lk_X11_next⟩ w_1178 w_1179 rfl rfl rfl hl rfl rfl dL_law_774 rfl rfl hc0 hs0 (fun H locs hI => ?_)
  refine lv_aload_n hx hb dL_law_777 rfl (lv_at hl 2 rfl) ?_
  refine sc_ld (k := 1) D hI hl rfl (by decide) dL_law_778 dL_law_779 dL_law_781 dL_law_782 dL_law_783 ?_
  cases ot with
  | none =>
    have hI : In g (Ah s) s.heap s (wHK g (B 0) (B 1 0) (B 13 0) (B 11 0) (B 10 0) (B 9 0) (B 6 0) (B 3 0) (B 4 0) (B 5 0) (B 12 0) cr.2.1 ++ (wRe g (B 1) (B 2 0) (B 14 0) re ++ (wTa g (B 2) ta ++ (wSe g (B 3) (B 7 0) cr.2.2.1 ++ (wWi g (B 4) (B 13 0) (B 8 0) ++ (wCo g (B 5) co ++ (wBo g (B 6) (B 13 0) bo ++ (wBo g (B 7) (B 13 0) cr.2.2.2 ++ (wBo g (B 8) (B 13 0) wb ++ (wHi g (B 9) hi ++ (wMo g (B 10) tr ++ (wMo g (B 11) now ++ (wCh g (B 12) ch ++ (wRi g (B 13) ri ++ (wTo g (B 14) to ++ (wOut g qo fo ++ (wMd g am none qr md ++ []))))))))))))))))) H locs := hI
    refine call_Vi X hI (Cj.skip (Cj.skip (Cj.skip (Cj.skip (Cj.skip (Cj.skip (Cj.skip (Cj.skip (Cj.skip (Cj.skip (Cj.skip (Cj.skip (Cj.skip (Cj.skip (Cj.skip (Cj.skip Cj.id)))))))))))))))) (c_X13_next_N l g am qr md (xs (i + 1)) q.1 q.2 hq) ⟨rfl, rfl⟩ ⟨ht _ w_2184, w_2187, ht _ w_155, lk_X13_next⟩ w_2185 w_2186 rfl rfl rfl hl rfl rfl dL_law_784 rfl rfl hc0 hs0 (fun H locs hI => ?_)
    refine lz_eq D h1 dL_law_787 (by decide) (kk _ _ _ hl ⟨cr.2.1, re, ta, cr.2.2.1, co, bo, cr.2.2.2, wb, hi, tr, now, ch, ri, to, q.2, none, an, qr, fo, h2, hI⟩)
  | some tn =>
    have hI : In g (Ah s) s.heap s (wHK g (B 0) (B 1 0) (B 13 0) (B 11 0) (B 10 0) (B 9 0) (B 6 0) (B 3 0) (B 4 0) (B 5 0) (B 12 0) cr.2.1 ++ (wRe g (B 1) (B 2 0) (B 14 0) re ++ (wTa g (B 2) ta ++ (wSe g (B 3) (B 7 0) cr.2.2.1 ++ (wWi g (B 4) (B 13 0) (B 8 0) ++ (wCo g (B 5) co ++ (wBo g (B 6) (B 13 0) bo ++ (wBo g (B 7) (B 13 0) cr.2.2.2 ++ (wBo g (B 8) (B 13 0) wb ++ (wHi g (B 9) hi ++ (wMo g (B 10) tr ++ (wMo g (B 11) now ++ (wCh g (B 12) ch ++ (wRi g (B 13) ri ++ (wTo g (B 14) to ++ (wOut g qo fo ++ (wMd g am (some (an 0)) qr md ++ (wTn g an tn ++ [])))))))))))))))))) H locs := hI
    refine call_Vi X hI (Cj.skip (Cj.skip (Cj.skip (Cj.skip (Cj.skip (Cj.skip (Cj.skip (Cj.skip (Cj.skip (Cj.skip (Cj.skip (Cj.skip (Cj.skip (Cj.skip (Cj.skip (Cj.skip Cj.id)))))))))))))))) (c_X13_next l g am an qr md tn (xs (i + 1)) q.1 q.2 hq) ⟨rfl, rfl⟩ ⟨ht _ w_2184, w_2187, ht _ w_155, lk_X13_next⟩ w_2185 w_2186 rfl rfl rfl hl rfl rfl dL_law_784 rfl rfl hc0 hs0 (fun H locs hI => ?_)
    refine lz_eq D h1 dL_law_787 (by decide) (kk _ _ _ hl ⟨cr.2.1, re, ta, cr.2.2.1, co, bo, cr.2.2.2, wb, hi, tr, now, ch, ri, to, q.2, (some tn), an, qr, fo, h2, hI⟩)
theorem k_caller (D : LC p s m meth c b L i xs) (hl : lv_has ls 7 (lo5 b B am qo i)) (hL : LzI g s B am qo H locs) (hm : cells + 24 ≤ room_1.cells) (hm2 : slots + 311 ≤ room_1.slots)
    (kk : ∀ (H : Heap) (locs : List Loc) (ls : Array Slot), lv_has ls 7 (lo5 b B am qo i) → LzI g s B am qo H locs → W p l e room_1 s m #[.ref b] below meth c H locs (cells + 24) (slots + 311) Q (F0 m 1655 ls [])) : W p l e room_1 s m #[.ref b] below meth c H locs cells slots Q (F0 m 792 ls []) := by
  obtain ⟨hk, re, ta, se, co, bo, sb, wb, hi, tr, now, ch, ri, to, md, ot, an, qr, fo, hV, hI⟩ := hL
  obtain ⟨X, hX, hbl, hi6, hLm⟩ := id D
  obtain ⟨hx, hb, hml, hown, ht, hr, hlk⟩ := id X
  have hc0 : Nat.ble cells room_1.cells = true := Nat.ble_eq_true_of_le (Nat.le_trans (Nat.le_add_right _ _) hm)
  have hs0 : Nat.ble slots room_1.slots = true := Nat.ble_eq_true_of_le (Nat.le_trans (Nat.le_add_right _ _) hm2)
  obtain ⟨q, hq, cr, hc, h1, h2⟩ := i_caller (wb := wb) hV
  refine lv_aload_n hx hb dL_law_792 rfl (lv_at hl 1 rfl) ?_
  refine call_Vi X hI (Cj.keep (Cj.skip (Cj.skip (Cj.skip (Cj.keep (Cj.skip (Cj.keep (Cj.skip (Cj.keep (Cj.skip (Cj.skip (Cj.keep (Cj.skip (Cj.keep Cj.nil)))))))))))))) (c_X11_caller l g (B 0) (B 4) (B 6) (B 8) (B 11) (B 13) (B 1 0) (B 10 0) (B 9 0) (B 3 0) (B 5 0) (B 12 0) hk bo wb now ri cr.1 cr.2.1 cr.2.2 hc) ⟨rfl, rfl⟩ ⟨ht _ w_1186, w_1189, ht _ w_139, lk_X11_caller⟩ w_1187 w_1188 rfl rfl rfl hl rfl rfl dL_law_793 rfl rfl hc0 hs0 (fun H locs hI => ?_)
  refine lv_aload_n hx hb dL_law_796 rfl (lv_at hl 2 rfl) ?_
  cases ot with
  | none =>
    have hI : In g (Ah s) s.heap s (wHK g (B 0) (B 1 0) (B 13 0) (B 11 0) (B 10 0) (B 9 0) (B 6 0) (B 3 0) (B 4 0) (B 5 0) (B 12 0) cr.2.1 ++ (wRe g (B 1) (B 2 0) (B 14 0) re ++ (wTa g (B 2) ta ++ (wSe g (B 3) (B 7 0) se ++ (wWi g (B 4) (B 13 0) (B 8 0) ++ (wCo g (B 5) co ++ (wBo g (B 6) (B 13 0) bo ++ (wBo g (B 7) (B 13 0) sb ++ (wBo g (B 8) (B 13 0) cr.2.2 ++ (wHi g (B 9) hi ++ (wMo g (B 10) tr ++ (wMo g (B 11) now ++ (wCh g (B 12) ch ++ (wRi g (B 13) ri ++ (wTo g (B 14) to ++ (wOut g qo fo ++ (wMd g am none qr md ++ []))))))))))))))))) H locs := hI
    refine call_Vi X hI (Cj.skip (Cj.skip (Cj.skip (Cj.skip (Cj.skip (Cj.skip (Cj.skip (Cj.skip (Cj.skip (Cj.skip (Cj.skip (Cj.skip (Cj.skip (Cj.skip (Cj.skip (Cj.skip Cj.id)))))))))))))))) (c_X13_caller_N l g am qr md q.1 q.2 hq) ⟨rfl, rfl⟩ ⟨ht _ w_2188, w_2191, ht _ w_155, lk_X13_caller⟩ w_2189 w_2190 rfl rfl rfl hl rfl rfl dL_law_797 rfl rfl hc0 hs0 (fun H locs hI => ?_)
    refine lz_eq D h1 dL_law_800 (by decide) (kk _ _ _ hl ⟨cr.2.1, re, ta, se, co, bo, sb, cr.2.2, hi, tr, now, ch, ri, to, q.2, none, an, qr, fo, h2, hI⟩)
  | some tn =>
    have hI : In g (Ah s) s.heap s (wHK g (B 0) (B 1 0) (B 13 0) (B 11 0) (B 10 0) (B 9 0) (B 6 0) (B 3 0) (B 4 0) (B 5 0) (B 12 0) cr.2.1 ++ (wRe g (B 1) (B 2 0) (B 14 0) re ++ (wTa g (B 2) ta ++ (wSe g (B 3) (B 7 0) se ++ (wWi g (B 4) (B 13 0) (B 8 0) ++ (wCo g (B 5) co ++ (wBo g (B 6) (B 13 0) bo ++ (wBo g (B 7) (B 13 0) sb ++ (wBo g (B 8) (B 13 0) cr.2.2 ++ (wHi g (B 9) hi ++ (wMo g (B 10) tr ++ (wMo g (B 11) now ++ (wCh g (B 12) ch ++ (wRi g (B 13) ri ++ (wTo g (B 14) to ++ (wOut g qo fo ++ (wMd g am (some (an 0)) qr md ++ (wTn g an tn ++ [])))))))))))))))))) H locs := hI
    refine call_Vi X hI (Cj.skip (Cj.skip (Cj.skip (Cj.skip (Cj.skip (Cj.skip (Cj.skip (Cj.skip (Cj.skip (Cj.skip (Cj.skip (Cj.skip (Cj.skip (Cj.skip (Cj.skip (Cj.skip Cj.id)))))))))))))))) (c_X13_caller l g am an qr md tn q.1 q.2 hq) ⟨rfl, rfl⟩ ⟨ht _ w_2188, w_2191, ht _ w_155, lk_X13_caller⟩ w_2189 w_2190 rfl rfl rfl hl rfl rfl dL_law_797 rfl rfl hc0 hs0 (fun H locs hI => ?_)
    refine lz_eq D h1 dL_law_800 (by decide) (kk _ _ _ hl ⟨cr.2.1, re, ta, se, co, bo, sb, cr.2.2, hi, tr, now, ch, ri, to, q.2, (some tn), an, qr, fo, h2, hI⟩)
theorem k_hang (D : LC p s m meth c b L i xs) (hl : lv_has ls 7 (lo5 b B am qo i)) (hL : LzI g s B am qo H locs) (hm : cells + 24 ≤ room_1.cells) (hm2 : slots + 311 ≤ room_1.slots)
    (kk : ∀ (H : Heap) (locs : List Loc) (ls : Array Slot), lv_has ls 7 (lo5 b B am qo i) → LzI g s B am qo H locs → W p l e room_1 s m #[.ref b] below meth c H locs (cells + 24) (slots + 311) Q (F0 m 1655 ls [])) : W p l e room_1 s m #[.ref b] below meth c H locs cells slots Q (F0 m 805 ls []) := by
  obtain ⟨hk, re, ta, se, co, bo, sb, wb, hi, tr, now, ch, ri, to, md, ot, an, qr, fo, hV, hI⟩ := hL
  obtain ⟨X, hX, hbl, hi6, hLm⟩ := id D
  obtain ⟨hx, hb, hml, hown, ht, hr, hlk⟩ := id X
  have hc0 : Nat.ble cells room_1.cells = true := Nat.ble_eq_true_of_le (Nat.le_trans (Nat.le_add_right _ _) hm)
  have hs0 : Nat.ble slots room_1.slots = true := Nat.ble_eq_true_of_le (Nat.le_trans (Nat.le_add_right _ _) hm2)
  obtain ⟨q, hq, cr, hc, h1, h2⟩ := i_hang hV (xs (i + 1)) (xs (i + 2))
  refine lv_aload_n hx hb dL_law_805 rfl (lv_at hl 1 rfl) ?_
  refine sc_ld (k := 1) D hI hl rfl (by decide) dL_law_806 dL_law_807 dL_law_809 dL_law_810 dL_law_811 ?_
  refine sc_ld (k := 2) D hI hl rfl (by decide) dL_law_812 dL_law_813 dL_law_815 dL_law_816 dL_law_817 ?_
  refine call_Vi X hI (Cj.keep (Cj.skip (Cj.skip (Cj.skip (Cj.skip (Cj.skip (Cj.keep (Cj.skip (Cj.skip (Cj.skip (Cj.skip (Cj.skip (Cj.skip (Cj.keep Cj.nil)))))))))))))) (c_X11_hang l g (B 0) (B 6) (B 13) (B 1 0) (B 11 0) (B 10 0) (B 9 0) (B 3 0) (B 4 0) (B 5 0) (B 12 0) hk bo ri (xs (i + 1)) (xs (i + 2)) cr.1 cr.2 hc) ⟨rfl, rfl⟩ ⟨ht _ w_1204, w_1207, ht _ w_139, lk_X11_hang⟩ w_1205 w_1206 rfl rfl rfl hl rfl rfl dL_law_818 rfl rfl hc0 hs0 (fun H locs hI => ?_)
  refine lv_aload_n hx hb dL_law_821 rfl (lv_at hl 2 rfl) ?_
  refine sc_ld (k := 1) D hI hl rfl (by decide) dL_law_822 dL_law_823 dL_law_825 dL_law_826 dL_law_827 ?_
  refine sc_ld (k := 2) D hI hl rfl (by decide) dL_law_828 dL_law_829 dL_law_831 dL_law_832 dL_law_833 ?_
  cases ot with
  | none =>
    have hI : In g (Ah s) s.heap s (wHK g (B 0) (B 1 0) (B 13 0) (B 11 0) (B 10 0) (B 9 0) (B 6 0) (B 3 0) (B 4 0) (B 5 0) (B 12 0) cr.2 ++ (wRe g (B 1) (B 2 0) (B 14 0) re ++ (wTa g (B 2) ta ++ (wSe g (B 3) (B 7 0) se ++ (wWi g (B 4) (B 13 0) (B 8 0) ++ (wCo g (B 5) co ++ (wBo g (B 6) (B 13 0) bo ++ (wBo g (B 7) (B 13 0) sb ++ (wBo g (B 8) (B 13 0) wb ++ (wHi g (B 9) hi ++ (wMo g (B 10) tr ++ (wMo g (B 11) now ++ (wCh g (B 12) ch ++ (wRi g (B 13) ri ++ (wTo g (B 14) to ++ (wOut g qo fo ++ (wMd g am none qr md ++ []))))))))))))))))) H locs := hI
    refine call_Vi X hI (Cj.skip (Cj.skip (Cj.skip (Cj.skip (Cj.skip (Cj.skip (Cj.skip (Cj.skip (Cj.skip (Cj.skip (Cj.skip (Cj.skip (Cj.skip (Cj.skip (Cj.skip (Cj.skip Cj.id)))))))))))))))) (c_X13_hang_N l g am qr md (xs (i + 1)) (xs (i + 2)) q.1 q.2 hq) ⟨rfl, rfl⟩ ⟨ht _ w_2200, w_2203, ht _ w_155, lk_X13_hang⟩ w_2201 w_2202 rfl rfl rfl hl rfl rfl dL_law_834 rfl rfl hc0 hs0 (fun H locs hI => ?_)
    refine lz_eq D h1 dL_law_837 (by decide) (kk _ _ _ hl ⟨cr.2, re, ta, se, co, bo, sb, wb, hi, tr, now, ch, ri, to, q.2, none, an, qr, fo, h2, hI⟩)
  | some tn =>
    have hI : In g (Ah s) s.heap s (wHK g (B 0) (B 1 0) (B 13 0) (B 11 0) (B 10 0) (B 9 0) (B 6 0) (B 3 0) (B 4 0) (B 5 0) (B 12 0) cr.2 ++ (wRe g (B 1) (B 2 0) (B 14 0) re ++ (wTa g (B 2) ta ++ (wSe g (B 3) (B 7 0) se ++ (wWi g (B 4) (B 13 0) (B 8 0) ++ (wCo g (B 5) co ++ (wBo g (B 6) (B 13 0) bo ++ (wBo g (B 7) (B 13 0) sb ++ (wBo g (B 8) (B 13 0) wb ++ (wHi g (B 9) hi ++ (wMo g (B 10) tr ++ (wMo g (B 11) now ++ (wCh g (B 12) ch ++ (wRi g (B 13) ri ++ (wTo g (B 14) to ++ (wOut g qo fo ++ (wMd g am (some (an 0)) qr md ++ (wTn g an tn ++ [])))))))))))))))))) H locs := hI
    refine call_Vi X hI (Cj.skip (Cj.skip (Cj.skip (Cj.skip (Cj.skip (Cj.skip (Cj.skip (Cj.skip (Cj.skip (Cj.skip (Cj.skip (Cj.skip (Cj.skip (Cj.skip (Cj.skip (Cj.skip Cj.id)))))))))))))))) (c_X13_hang l g am an qr md tn (xs (i + 1)) (xs (i + 2)) q.1 q.2 hq) ⟨rfl, rfl⟩ ⟨ht _ w_2200, w_2203, ht _ w_155, lk_X13_hang⟩ w_2201 w_2202 rfl rfl rfl hl rfl rfl dL_law_834 rfl rfl hc0 hs0 (fun H locs hI => ?_)
    refine lz_eq D h1 dL_law_837 (by decide) (kk _ _ _ hl ⟨cr.2, re, ta, se, co, bo, sb, wb, hi, tr, now, ch, ri, to, q.2, (some tn), an, qr, fo, h2, hI⟩)
theorem k_colours (D : LC p s m meth c b L i xs) (hl : lv_has ls 7 (lo5 b B am qo i)) (hL : LzI g s B am qo H locs) (hm : cells + 24 ≤ room_1.cells) (hm2 : slots + 311 ≤ room_1.slots)
    (kk : ∀ (H : Heap) (locs : List Loc) (ls : Array Slot), lv_has ls 7 (lo5 b B am qo i) → LzI g s B am qo H locs → W p l e room_1 s m #[.ref b] below meth c H locs (cells + 24) (slots + 311) Q (F0 m 1655 ls [])) : W p l e room_1 s m #[.ref b] below meth c H locs cells slots Q (F0 m 842 ls []) := by
  obtain ⟨hk, re, ta, se, co, bo, sb, wb, hi, tr, now, ch, ri, to, md, ot, an, qr, fo, hV, hI⟩ := hL
  obtain ⟨X, hX, hbl, hi6, hLm⟩ := id D
  obtain ⟨hx, hb, hml, hown, ht, hr, hlk⟩ := id X
  have hc0 : Nat.ble cells room_1.cells = true := Nat.ble_eq_true_of_le (Nat.le_trans (Nat.le_add_right _ _) hm)
  have hs0 : Nat.ble slots room_1.slots = true := Nat.ble_eq_true_of_le (Nat.le_trans (Nat.le_add_right _ _) hm2)
  obtain ⟨q, hq, cr, hc, h1, h2⟩ := i_colours hV (xs (i + 1))
  refine lv_aload_n hx hb dL_law_842 rfl (lv_at hl 1 rfl) ?_
  refine sc_ld (k := 1) D hI hl rfl (by decide) dL_law_843 dL_law_844 dL_law_846 dL_law_847 dL_law_848 ?_
  refine call_Vi X hI (Cj.keep (Cj.skip (Cj.skip (Cj.skip (Cj.skip (Cj.keep (Cj.keep (Cj.skip (Cj.skip (Cj.skip (Cj.skip (Cj.skip (Cj.skip (Cj.keep Cj.nil)))))))))))))) (c_X11_colours l g (B 0) (B 5) (B 6) (B 13) (B 1 0) (B 11 0) (B 10 0) (B 9 0) (B 3 0) (B 4 0) (B 12 0) hk co bo ri (xs (i + 1)) cr.1 cr.2.1 cr.2.2 hc) ⟨rfl, rfl⟩ ⟨ht _ w_1217, w_1220, ht _ w_139, lk_X11_colours⟩ w_1218 w_1219 rfl rfl rfl hl rfl rfl dL_law_849 rfl rfl hc0 hs0 (fun H locs hI => ?_)
  refine lv_aload_n hx hb dL_law_852 rfl (lv_at hl 2 rfl) ?_
  refine sc_ld (k := 1) D hI hl rfl (by decide) dL_law_853 dL_law_854 dL_law_856 dL_law_857 dL_law_858 ?_
  cases ot with
  | none =>
    have hI : In g (Ah s) s.heap s (wHK g (B 0) (B 1 0) (B 13 0) (B 11 0) (B 10 0) (B 9 0) (B 6 0) (B 3 0) (B 4 0) (B 5 0) (B 12 0) cr.2.1 ++ (wRe g (B 1) (B 2 0) (B 14 0) re ++ (wTa g (B 2) ta ++ (wSe g (B 3) (B 7 0) se ++ (wWi g (B 4) (B 13 0) (B 8 0) ++ (wCo g (B 5) cr.2.2 ++ (wBo g (B 6) (B 13 0) bo ++ (wBo g (B 7) (B 13 0) sb ++ (wBo g (B 8) (B 13 0) wb ++ (wHi g (B 9) hi ++ (wMo g (B 10) tr ++ (wMo g (B 11) now ++ (wCh g (B 12) ch ++ (wRi g (B 13) ri ++ (wTo g (B 14) to ++ (wOut g qo fo ++ (wMd g am none qr md ++ []))))))))))))))))) H locs := hI
    refine call_Vi X hI (Cj.skip (Cj.skip (Cj.skip (Cj.skip (Cj.skip (Cj.skip (Cj.skip (Cj.skip (Cj.skip (Cj.skip (Cj.skip (Cj.skip (Cj.skip (Cj.skip (Cj.skip (Cj.skip Cj.id)))))))))))))))) (c_X13_colours_N l g am qr md (xs (i + 1)) q.1 q.2 hq) ⟨rfl, rfl⟩ ⟨ht _ w_2208, w_2211, ht _ w_155, lk_X13_colours⟩ w_2209 w_2210 rfl rfl rfl hl rfl rfl dL_law_859 rfl rfl hc0 hs0 (fun H locs hI => ?_)
    refine lz_eq D h1 dL_law_862 (by decide) (kk _ _ _ hl ⟨cr.2.1, re, ta, se, cr.2.2, bo, sb, wb, hi, tr, now, ch, ri, to, q.2, none, an, qr, fo, h2, hI⟩)
  | some tn =>
    have hI : In g (Ah s) s.heap s (wHK g (B 0) (B 1 0) (B 13 0) (B 11 0) (B 10 0) (B 9 0) (B 6 0) (B 3 0) (B 4 0) (B 5 0) (B 12 0) cr.2.1 ++ (wRe g (B 1) (B 2 0) (B 14 0) re ++ (wTa g (B 2) ta ++ (wSe g (B 3) (B 7 0) se ++ (wWi g (B 4) (B 13 0) (B 8 0) ++ (wCo g (B 5) cr.2.2 ++ (wBo g (B 6) (B 13 0) bo ++ (wBo g (B 7) (B 13 0) sb ++ (wBo g (B 8) (B 13 0) wb ++ (wHi g (B 9) hi ++ (wMo g (B 10) tr ++ (wMo g (B 11) now ++ (wCh g (B 12) ch ++ (wRi g (B 13) ri ++ (wTo g (B 14) to ++ (wOut g qo fo ++ (wMd g am (some (an 0)) qr md ++ (wTn g an tn ++ [])))))))))))))))))) H locs := hI
    refine call_Vi X hI (Cj.skip (Cj.skip (Cj.skip (Cj.skip (Cj.skip (Cj.skip (Cj.skip (Cj.skip (Cj.skip (Cj.skip (Cj.skip (Cj.skip (Cj.skip (Cj.skip (Cj.skip (Cj.skip Cj.id)))))))))))))))) (c_X13_colours l g am an qr md tn (xs (i + 1)) q.1 q.2 hq) ⟨rfl, rfl⟩ ⟨ht _ w_2208, w_2211, ht _ w_155, lk_X13_colours⟩ w_2209 w_2210 rfl rfl rfl hl rfl rfl dL_law_859 rfl rfl hc0 hs0 (fun H locs hI => ?_)
    refine lz_eq D h1 dL_law_862 (by decide) (kk _ _ _ hl ⟨cr.2.1, re, ta, se, cr.2.2, bo, sb, wb, hi, tr, now, ch, ri, to, q.2, (some tn), an, qr, fo, h2, hI⟩)
theorem k_cannot (D : LC p s m meth c b L i xs) (hl : lv_has ls 7 (lo5 b B am qo i)) (hL : LzI g s B am qo H locs) (hm : cells + 24 ≤ room_1.cells) (hm2 : slots + 311 ≤ room_1.slots)
    (kk : ∀ (H : Heap) (locs : List Loc) (ls : Array Slot), lv_has ls 7 (lo5 b B am qo i) → LzI g s B am qo H locs → W p l e room_1 s m #[.ref b] below meth c H locs (cells + 24) (slots + 311) Q (F0 m 1655 ls [])) : W p l e room_1 s m #[.ref b] below meth c H locs cells slots Q (F0 m 867 ls []) := by
  obtain ⟨hk, re, ta, se, co, bo, sb, wb, hi, tr, now, ch, ri, to, md, ot, an, qr, fo, hV, hI⟩ := hL
  obtain ⟨X, hX, hbl, hi6, hLm⟩ := id D
  obtain ⟨hx, hb, hml, hown, ht, hr, hlk⟩ := id X
  have hc0 : Nat.ble cells room_1.cells = true := Nat.ble_eq_true_of_le (Nat.le_trans (Nat.le_add_right _ _) hm)
  have hs0 : Nat.ble slots room_1.slots = true := Nat.ble_eq_true_of_le (Nat.le_trans (Nat.le_add_right _ _) hm2)
  obtain ⟨q, hq, cr, hc, h1, h2⟩ := i_cannot hV
  refine lv_aload_n hx hb dL_law_867 rfl (lv_at hl 1 rfl) ?_
  refine call_Vi X hI (Cj.keep (Cj.skip (Cj.skip (Cj.skip (Cj.skip (Cj.keep (Cj.keep (Cj.skip (Cj.skip (Cj.skip (Cj.skip (Cj.skip (Cj.skip (Cj.keep Cj.nil)))))))))))))) (c_X11_cannot l g (B 0) (B 5) (B 6) (B 13) (B 1 0) (B 11 0) (B 10 0) (B 9 0) (B 3 0) (B 4 0) (B 12 0) hk co bo ri cr.1 cr.2.1 cr.2.2 hc) ⟨rfl, rfl⟩ ⟨ht _ w_1255, w_1258, ht _ w_139, lk_X11_cannot⟩ w_1256 w_1257 rfl rfl rfl hl rfl rfl dL_law_868 rfl rfl hc0 hs0 (fun H locs hI => ?_)
  refine lv_aload_n hx hb dL_law_871 rfl (lv_at hl 2 rfl) ?_
  cases ot with
  | none =>
    have hI : In g (Ah s) s.heap s (wHK g (B 0) (B 1 0) (B 13 0) (B 11 0) (B 10 0) (B 9 0) (B 6 0) (B 3 0) (B 4 0) (B 5 0) (B 12 0) cr.2.1 ++ (wRe g (B 1) (B 2 0) (B 14 0) re ++ (wTa g (B 2) ta ++ (wSe g (B 3) (B 7 0) se ++ (wWi g (B 4) (B 13 0) (B 8 0) ++ (wCo g (B 5) cr.2.2 ++ (wBo g (B 6) (B 13 0) bo ++ (wBo g (B 7) (B 13 0) sb ++ (wBo g (B 8) (B 13 0) wb ++ (wHi g (B 9) hi ++ (wMo g (B 10) tr ++ (wMo g (B 11) now ++ (wCh g (B 12) ch ++ (wRi g (B 13) ri ++ (wTo g (B 14) to ++ (wOut g qo fo ++ (wMd g am none qr md ++ []))))))))))))))))) H locs := hI
    refine call_Vi X hI (Cj.skip (Cj.skip (Cj.skip (Cj.skip (Cj.skip (Cj.skip (Cj.skip (Cj.skip (Cj.skip (Cj.skip (Cj.skip (Cj.skip (Cj.skip (Cj.skip (Cj.skip (Cj.skip Cj.id)))))))))))))))) (c_X13_cannot_N l g am qr md q.1 q.2 hq) ⟨rfl, rfl⟩ ⟨ht _ w_2231, w_2234, ht _ w_155, lk_X13_cannot⟩ w_2232 w_2233 rfl rfl rfl hl rfl rfl dL_law_872 rfl rfl hc0 hs0 (fun H locs hI => ?_)
    refine lz_eq D h1 dL_law_875 (by decide) (kk _ _ _ hl ⟨cr.2.1, re, ta, se, cr.2.2, bo, sb, wb, hi, tr, now, ch, ri, to, q.2, none, an, qr, fo, h2, hI⟩)
  | some tn =>
    have hI : In g (Ah s) s.heap s (wHK g (B 0) (B 1 0) (B 13 0) (B 11 0) (B 10 0) (B 9 0) (B 6 0) (B 3 0) (B 4 0) (B 5 0) (B 12 0) cr.2.1 ++ (wRe g (B 1) (B 2 0) (B 14 0) re ++ (wTa g (B 2) ta ++ (wSe g (B 3) (B 7 0) se ++ (wWi g (B 4) (B 13 0) (B 8 0) ++ (wCo g (B 5) cr.2.2 ++ (wBo g (B 6) (B 13 0) bo ++ (wBo g (B 7) (B 13 0) sb ++ (wBo g (B 8) (B 13 0) wb ++ (wHi g (B 9) hi ++ (wMo g (B 10) tr ++ (wMo g (B 11) now ++ (wCh g (B 12) ch ++ (wRi g (B 13) ri ++ (wTo g (B 14) to ++ (wOut g qo fo ++ (wMd g am (some (an 0)) qr md ++ (wTn g an tn ++ [])))))))))))))))))) H locs := hI
    refine call_Vi X hI (Cj.skip (Cj.skip (Cj.skip (Cj.skip (Cj.skip (Cj.skip (Cj.skip (Cj.skip (Cj.skip (Cj.skip (Cj.skip (Cj.skip (Cj.skip (Cj.skip (Cj.skip (Cj.skip Cj.id)))))))))))))))) (c_X13_cannot l g am an qr md tn q.1 q.2 hq) ⟨rfl, rfl⟩ ⟨ht _ w_2231, w_2234, ht _ w_155, lk_X13_cannot⟩ w_2232 w_2233 rfl rfl rfl hl rfl rfl dL_law_872 rfl rfl hc0 hs0 (fun H locs hI => ?_)
    refine lz_eq D h1 dL_law_875 (by decide) (kk _ _ _ hl ⟨cr.2.1, re, ta, se, cr.2.2, bo, sb, wb, hi, tr, now, ch, ri, to, q.2, (some tn), an, qr, fo, h2, hI⟩)
theorem k_part (D : LC p s m meth c b L i xs) (hl : lv_has ls 7 (lo5 b B am qo i)) (hL : LzI g s B am qo H locs) (hm : cells + 24 ≤ room_1.cells) (hm2 : slots + 311 ≤ room_1.slots)
    (kk : ∀ (H : Heap) (locs : List Loc) (ls : Array Slot), lv_has ls 7 (lo5 b B am qo i) → LzI g s B am qo H locs → W p l e room_1 s m #[.ref b] below meth c H locs (cells + 24) (slots + 311) Q (F0 m 1655 ls [])) : W p l e room_1 s m #[.ref b] below meth c H locs cells slots Q (F0 m 880 ls []) := by
  obtain ⟨hk, re, ta, se, co, bo, sb, wb, hi, tr, now, ch, ri, to, md, ot, an, qr, fo, hV, hI⟩ := hL
  obtain ⟨X, hX, hbl, hi6, hLm⟩ := id D
  obtain ⟨hx, hb, hml, hown, ht, hr, hlk⟩ := id X
  have hc0 : Nat.ble cells room_1.cells = true := Nat.ble_eq_true_of_le (Nat.le_trans (Nat.le_add_right _ _) hm)
  have hs0 : Nat.ble slots room_1.slots = true := Nat.ble_eq_true_of_le (Nat.le_trans (Nat.le_add_right _ _) hm2)
  obtain ⟨q, hq, cr, hc, h1, h2⟩ := i_part (sb := sb) (tr := tr) hV (xs (i + 1))
  refine lv_aload_n hx hb dL_law_880 rfl (lv_at hl 1 rfl) ?_
  refine sc_ld (k := 1) D hI hl rfl (by decide) dL_law_881 dL_law_882 dL_law_884 dL_law_885 dL_law_886 ?_
  refine call_Vi X hI (Cj.keep (Cj.skip (Cj.skip (Cj.keep (Cj.skip (Cj.skip (Cj.skip (Cj.keep (Cj.skip (Cj.skip (Cj.keep (Cj.keep (Cj.skip (Cj.keep Cj.nil)))))))))))))) (c_X11_part l g (B 0) (B 3) (B 7) (B 10) (B 11) (B 13) (B 1 0) (B 9 0) (B 6 0) (B 4 0) (B 5 0) (B 12 0) hk se sb tr now ri (xs (i + 1)) cr.1 cr.2.1 cr.2.2.1 cr.2.2.2.1 cr.2.2.2.2 hc) ⟨rfl, rfl⟩ ⟨ht _ w_1263, w_1266, ht _ w_139, lk_X11_part⟩ w_1264 w_1265 rfl rfl rfl hl rfl rfl dL_law_887 rfl rfl hc0 hs0 (fun H locs hI => ?_)
  refine lv_aload_n hx hb dL_law_890 rfl (lv_at hl 2 rfl) ?_
  refine sc_ld (k := 1) D hI hl rfl (by decide) dL_law_891 dL_law_892 dL_law_894 dL_law_895 dL_law_896 ?_
  cases ot with
  | none =>
    have hI : In g (Ah s) s.heap s (wHK g (B 0) (B 1 0) (B 13 0) (B 11 0) (B 10 0) (B 9 0) (B 6 0) (B 3 0) (B 4 0) (B 5 0) (B 12 0) cr.2.1 ++ (wRe g (B 1) (B 2 0) (B 14 0) re ++ (wTa g (B 2) ta ++ (wSe g (B 3) (B 7 0) cr.2.2.1 ++ (wWi g (B 4) (B 13 0) (B 8 0) ++ (wCo g (B 5) co ++ (wBo g (B 6) (B 13 0) bo ++ (wBo g (B 7) (B 13 0) cr.2.2.2.1 ++ (wBo g (B 8) (B 13 0) wb ++ (wHi g (B 9) hi ++ (wMo g (B 10) cr.2.2.2.2 ++ (wMo g (B 11) now ++ (wCh g (B 12) ch ++ (wRi g (B 13) ri ++ (wTo g (B 14) to ++ (wOut g qo fo ++ (wMd g am none qr md ++ []))))))))))))))))) H locs := hI
    refine call_Vi X hI (Cj.skip (Cj.skip (Cj.skip (Cj.skip (Cj.skip (Cj.skip (Cj.skip (Cj.skip (Cj.skip (Cj.skip (Cj.skip (Cj.skip (Cj.skip (Cj.skip (Cj.skip (Cj.skip Cj.id)))))))))))))))) (c_X13_part_N l g am qr md (xs (i + 1)) q.1 q.2 hq) ⟨rfl, rfl⟩ ⟨ht _ w_2235, w_2238, ht _ w_155, lk_X13_part⟩ w_2236 w_2237 rfl rfl rfl hl rfl rfl dL_law_897 rfl rfl hc0 hs0 (fun H locs hI => ?_)
    refine lz_eq D h1 dL_law_900 (by decide) (kk _ _ _ hl ⟨cr.2.1, re, ta, cr.2.2.1, co, bo, cr.2.2.2.1, wb, hi, cr.2.2.2.2, now, ch, ri, to, q.2, none, an, qr, fo, h2, hI⟩)
  | some tn =>
    have hI : In g (Ah s) s.heap s (wHK g (B 0) (B 1 0) (B 13 0) (B 11 0) (B 10 0) (B 9 0) (B 6 0) (B 3 0) (B 4 0) (B 5 0) (B 12 0) cr.2.1 ++ (wRe g (B 1) (B 2 0) (B 14 0) re ++ (wTa g (B 2) ta ++ (wSe g (B 3) (B 7 0) cr.2.2.1 ++ (wWi g (B 4) (B 13 0) (B 8 0) ++ (wCo g (B 5) co ++ (wBo g (B 6) (B 13 0) bo ++ (wBo g (B 7) (B 13 0) cr.2.2.2.1 ++ (wBo g (B 8) (B 13 0) wb ++ (wHi g (B 9) hi ++ (wMo g (B 10) cr.2.2.2.2 ++ (wMo g (B 11) now ++ (wCh g (B 12) ch ++ (wRi g (B 13) ri ++ (wTo g (B 14) to ++ (wOut g qo fo ++ (wMd g am (some (an 0)) qr md ++ (wTn g an tn ++ [])))))))))))))))))) H locs := hI
    refine call_Vi X hI (Cj.skip (Cj.skip (Cj.skip (Cj.skip (Cj.skip (Cj.skip (Cj.skip (Cj.skip (Cj.skip (Cj.skip (Cj.skip (Cj.skip (Cj.skip (Cj.skip (Cj.skip (Cj.skip Cj.id)))))))))))))))) (c_X13_part l g am an qr md tn (xs (i + 1)) q.1 q.2 hq) ⟨rfl, rfl⟩ ⟨ht _ w_2235, w_2238, ht _ w_155, lk_X13_part⟩ w_2236 w_2237 rfl rfl rfl hl rfl rfl dL_law_897 rfl rfl hc0 hs0 (fun H locs hI => ?_)
    refine lz_eq D h1 dL_law_900 (by decide) (kk _ _ _ hl ⟨cr.2.1, re, ta, cr.2.2.1, co, bo, cr.2.2.2.1, wb, hi, cr.2.2.2.2, now, ch, ri, to, q.2, (some tn), an, qr, fo, h2, hI⟩)
end LCASES
