section LCASES
variable {p : Program} {l : Launch} {e : Env} {s : State} {m : MethodId} {below : List Frame} {meth : Method} {c : Code} {H : Heap} {locs : List Loc} {cells slots : Nat} {Q : State → Prop}
variable {ls : Array Slot} {g : GT} {B : Nat → Nat → Nat} {am : Nat → Nat} {qo b L i : Nat} {xs : Nat → Int32}
theorem k_move (D : LC p s m meth c b L i xs) (hl : lv_has ls 7 (lo5 b B am qo i)) (hL : LzI g s B am qo H locs) (hm : cells + 24 ≤ room_1.cells) (hm2 : slots + 311 ≤ room_1.slots)
    (kk : ∀ (H : Heap) (locs : List Loc) (ls : Array Slot), lv_has ls 7 (lo5 b B am qo i) → LzI g s B am qo H locs → W p l e room_1 s m #[.ref b] below meth c H locs (cells + 24) (slots + 311) Q (F0 m 1655 ls [])) : W p l e room_1 s m #[.ref b] below meth c H locs cells slots Q (F0 m 1384 ls []) := by
  obtain ⟨hk, re, ta, se, co, bo, sb, wb, hi, tr, now, ch, ri, to, md, ot, an, qr, fo, hV, hI⟩ := hL
  obtain ⟨X, hX, hbl, hi6, hLm⟩ := id D
  obtain ⟨hx, hb, hml, hown, ht, hr, hlk⟩ := id X
  have hc0 : Nat.ble cells room_1.cells = true := Nat.ble_eq_true_of_le (Nat.le_trans (Nat.le_add_right _ _) hm)
  have hs0 : Nat.ble slots room_1.slots = true := Nat.ble_eq_true_of_le (Nat.le_trans (Nat.le_add_right _ _) hm2)
  obtain ⟨q, hq, cr, hc, h1, h2⟩ := i_move hV (xs (i + 1))
  refine lv_aload_n hx hb dL_law_1384 rfl (lv_at hl 1 rfl) ?_
  refine sc_ld (k := 1) D hI hl rfl (by decide) dL_law_1385 dL_law_1386 dL_law_1388 dL_law_1389 dL_law_1390 ?_
  refine call_Vi X hI (Cj.keep (Cj.skip (Cj.skip (Cj.skip (Cj.skip (Cj.skip (Cj.keep (Cj.skip (Cj.skip (Cj.keep (Cj.skip (Cj.keep (Cj.skip (Cj.keep Cj.nil)))))))))))))) (c_X11_move l g (B 0) (B 6) (B 9) (B 11) (B 13) (B 1 0) (B 10 0) (B 3 0) (B 4 0) (B 5 0) (B 12 0) hk bo hi now ri (xs (i + 1)) cr.1 cr.2.1 cr.2.2.1 cr.2.2.2.1 cr.2.2.2.2 hc) ⟨rfl, rfl⟩ ⟨ht _ w_1423, w_1426, ht _ w_139, lk_X11_move⟩ w_1424 w_1425 rfl rfl rfl hl rfl rfl dL_law_1391 rfl rfl hc0 hs0 (fun H locs hI => ?_)
  refine lv_aload_n hx hb dL_law_1394 rfl (lv_at hl 2 rfl) ?_
  refine sc_ld (k := 1) D hI hl rfl (by decide) dL_law_1395 dL_law_1396 dL_law_1398 dL_law_1399 dL_law_1400 ?_
  cases ot with
  | none =>
    have hI : In g (Ah s) s.heap s (wHK g (B 0) (B 1 0) (B 13 0) (B 11 0) (B 10 0) (B 9 0) (B 6 0) (B 3 0) (B 4 0) (B 5 0) (B 12 0) cr.2.1 ++ (wRe g (B 1) (B 2 0) (B 14 0) re ++ (wTa g (B 2) ta ++ (wSe g (B 3) (B 7 0) se ++ (wWi g (B 4) (B 13 0) (B 8 0) ++ (wCo g (B 5) co ++ (wBo g (B 6) (B 13 0) cr.2.2.1 ++ (wBo g (B 7) (B 13 0) sb ++ (wBo g (B 8) (B 13 0) wb ++ (wHi g (B 9) cr.2.2.2.1 ++ (wMo g (B 10) tr ++ (wMo g (B 11) cr.2.2.2.2 ++ (wCh g (B 12) ch ++ (wRi g (B 13) ri ++ (wTo g (B 14) to ++ (wOut g qo fo ++ (wMd g am none qr md ++ []))))))))))))))))) H locs := hI
    refine call_Vi X hI (Cj.skip (Cj.skip (Cj.skip (Cj.skip (Cj.skip (Cj.skip (Cj.skip (Cj.skip (Cj.skip (Cj.skip (Cj.skip (Cj.skip (Cj.skip (Cj.skip (Cj.skip (Cj.skip Cj.id)))))))))))))))) (c_X13_move_N l g am qr md (xs (i + 1)) q.1 q.2 hq) ⟨rfl, rfl⟩ ⟨ht _ w_2350, w_2353, ht _ w_155, lk_X13_move⟩ w_2351 w_2352 rfl rfl rfl hl rfl rfl dL_law_1401 rfl rfl hc0 hs0 (fun H locs hI => ?_)
    refine lz_eq D h1 dL_law_1404 (by decide) (kk _ _ _ hl ⟨cr.2.1, re, ta, se, co, cr.2.2.1, sb, wb, cr.2.2.2.1, tr, cr.2.2.2.2, ch, ri, to, q.2, none, an, qr, fo, h2, hI⟩)
  | some tn =>
    have hI : In g (Ah s) s.heap s (wHK g (B 0) (B 1 0) (B 13 0) (B 11 0) (B 10 0) (B 9 0) (B 6 0) (B 3 0) (B 4 0) (B 5 0) (B 12 0) cr.2.1 ++ (wRe g (B 1) (B 2 0) (B 14 0) re ++ (wTa g (B 2) ta ++ (wSe g (B 3) (B 7 0) se ++ (wWi g (B 4) (B 13 0) (B 8 0) ++ (wCo g (B 5) co ++ (wBo g (B 6) (B 13 0) cr.2.2.1 ++ (wBo g (B 7) (B 13 0) sb ++ (wBo g (B 8) (B 13 0) wb ++ (wHi g (B 9) cr.2.2.2.1 ++ (wMo g (B 10) tr ++ (wMo g (B 11) cr.2.2.2.2 ++ (wCh g (B 12) ch ++ (wRi g (B 13) ri ++ (wTo g (B 14) to ++ (wOut g qo fo ++ (wMd g am (some (an 0)) qr md ++ (wTn g an tn ++ [])))))))))))))))))) H locs := hI
    refine call_Vi X hI (Cj.skip (Cj.skip (Cj.skip (Cj.skip (Cj.skip (Cj.skip (Cj.skip (Cj.skip (Cj.skip (Cj.skip (Cj.skip (Cj.skip (Cj.skip (Cj.skip (Cj.skip (Cj.skip Cj.id)))))))))))))))) (c_X13_move l g am an qr md tn (xs (i + 1)) q.1 q.2 hq) ⟨rfl, rfl⟩ ⟨ht _ w_2350, w_2353, ht _ w_155, lk_X13_move⟩ w_2351 w_2352 rfl rfl rfl hl rfl rfl dL_law_1401 rfl rfl hc0 hs0 (fun H locs hI => ?_)
    refine lz_eq D h1 dL_law_1404 (by decide) (kk _ _ _ hl ⟨cr.2.1, re, ta, se, co, cr.2.2.1, sb, wb, cr.2.2.2.1, tr, cr.2.2.2.2, ch, ri, to, q.2, (some tn), an, qr, fo, h2, hI⟩)
theorem k_parts (D : LC p s m meth c b L i xs) (hl : lv_has ls 7 (lo5 b B am qo i)) (hL : LzI g s B am qo H locs) (hm : cells + 24 ≤ room_1.cells) (hm2 : slots + 311 ≤ room_1.slots)
    (kk : ∀ (H : Heap) (locs : List Loc) (ls : Array Slot), lv_has ls 7 (lo5 b B am qo i) → LzI g s B am qo H locs → W p l e room_1 s m #[.ref b] below meth c H locs (cells + 24) (slots + 311) Q (F0 m 1655 ls [])) : W p l e room_1 s m #[.ref b] below meth c H locs cells slots Q (F0 m 1409 ls []) := by
  obtain ⟨hk, re, ta, se, co, bo, sb, wb, hi, tr, now, ch, ri, to, md, ot, an, qr, fo, hV, hI⟩ := hL
  obtain ⟨X, hX, hbl, hi6, hLm⟩ := id D
  obtain ⟨hx, hb, hml, hown, ht, hr, hlk⟩ := id X
  have hc0 : Nat.ble cells room_1.cells = true := Nat.ble_eq_true_of_le (Nat.le_trans (Nat.le_add_right _ _) hm)
  have hs0 : Nat.ble slots room_1.slots = true := Nat.ble_eq_true_of_le (Nat.le_trans (Nat.le_add_right _ _) hm2)
  obtain ⟨q, hq, cr, hc, h1, h2⟩ := i_parts hV (xs (i + 1))
  refine lv_aload_n hx hb dL_law_1409 rfl (lv_at hl 1 rfl) ?_
  refine sc_ld (k := 1) D hI hl rfl (by decide) dL_law_1410 dL_law_1411 dL_law_1413 dL_law_1414 dL_law_1415 ?_
  refine call_Vi X hI (Cj.keep (Cj.skip (Cj.skip (Cj.skip (Cj.skip (Cj.skip (Cj.keep (Cj.skip (Cj.skip (Cj.keep (Cj.skip (Cj.keep (Cj.skip (Cj.keep Cj.nil)))))))))))))) (c_X11_parts l g (B 0) (B 6) (B 9) (B 11) (B 13) (B 1 0) (B 10 0) (B 3 0) (B 4 0) (B 5 0) (B 12 0) hk bo hi now ri (xs (i + 1)) cr.1 cr.2.1 cr.2.2.1 cr.2.2.2.1 cr.2.2.2.2 hc) ⟨rfl, rfl⟩ ⟨ht _ w_1438, w_1441, ht _ w_139, lk_X11_parts⟩ w_1439 w_1440 rfl rfl rfl hl rfl rfl dL_law_1416 rfl rfl hc0 hs0 (fun H locs hI => ?_)
  refine lv_aload_n hx hb dL_law_1419 rfl (lv_at hl 2 rfl) ?_
  refine sc_ld (k := 1) D hI hl rfl (by decide) dL_law_1420 dL_law_1421 dL_law_1423 dL_law_1424 dL_law_1425 ?_
  cases ot with
  | none =>
    have hI : In g (Ah s) s.heap s (wHK g (B 0) (B 1 0) (B 13 0) (B 11 0) (B 10 0) (B 9 0) (B 6 0) (B 3 0) (B 4 0) (B 5 0) (B 12 0) cr.2.1 ++ (wRe g (B 1) (B 2 0) (B 14 0) re ++ (wTa g (B 2) ta ++ (wSe g (B 3) (B 7 0) se ++ (wWi g (B 4) (B 13 0) (B 8 0) ++ (wCo g (B 5) co ++ (wBo g (B 6) (B 13 0) cr.2.2.1 ++ (wBo g (B 7) (B 13 0) sb ++ (wBo g (B 8) (B 13 0) wb ++ (wHi g (B 9) cr.2.2.2.1 ++ (wMo g (B 10) tr ++ (wMo g (B 11) cr.2.2.2.2 ++ (wCh g (B 12) ch ++ (wRi g (B 13) ri ++ (wTo g (B 14) to ++ (wOut g qo fo ++ (wMd g am none qr md ++ []))))))))))))))))) H locs := hI
    refine call_Vi X hI (Cj.skip (Cj.skip (Cj.skip (Cj.skip (Cj.skip (Cj.skip (Cj.skip (Cj.skip (Cj.skip (Cj.skip (Cj.skip (Cj.skip (Cj.skip (Cj.skip (Cj.skip (Cj.skip Cj.id)))))))))))))))) (c_X13_parts_N l g am qr md (xs (i + 1)) q.1 q.2 hq) ⟨rfl, rfl⟩ ⟨ht _ w_2354, w_2357, ht _ w_155, lk_X13_parts⟩ w_2355 w_2356 rfl rfl rfl hl rfl rfl dL_law_1426 rfl rfl hc0 hs0 (fun H locs hI => ?_)
    refine lz_eq D h1 dL_law_1429 (by decide) (kk _ _ _ hl ⟨cr.2.1, re, ta, se, co, cr.2.2.1, sb, wb, cr.2.2.2.1, tr, cr.2.2.2.2, ch, ri, to, q.2, none, an, qr, fo, h2, hI⟩)
  | some tn =>
    have hI : In g (Ah s) s.heap s (wHK g (B 0) (B 1 0) (B 13 0) (B 11 0) (B 10 0) (B 9 0) (B 6 0) (B 3 0) (B 4 0) (B 5 0) (B 12 0) cr.2.1 ++ (wRe g (B 1) (B 2 0) (B 14 0) re ++ (wTa g (B 2) ta ++ (wSe g (B 3) (B 7 0) se ++ (wWi g (B 4) (B 13 0) (B 8 0) ++ (wCo g (B 5) co ++ (wBo g (B 6) (B 13 0) cr.2.2.1 ++ (wBo g (B 7) (B 13 0) sb ++ (wBo g (B 8) (B 13 0) wb ++ (wHi g (B 9) cr.2.2.2.1 ++ (wMo g (B 10) tr ++ (wMo g (B 11) cr.2.2.2.2 ++ (wCh g (B 12) ch ++ (wRi g (B 13) ri ++ (wTo g (B 14) to ++ (wOut g qo fo ++ (wMd g am (some (an 0)) qr md ++ (wTn g an tn ++ [])))))))))))))))))) H locs := hI
    refine call_Vi X hI (Cj.skip (Cj.skip (Cj.skip (Cj.skip (Cj.skip (Cj.skip (Cj.skip (Cj.skip (Cj.skip (Cj.skip (Cj.skip (Cj.skip (Cj.skip (Cj.skip (Cj.skip (Cj.skip Cj.id)))))))))))))))) (c_X13_parts l g am an qr md tn (xs (i + 1)) q.1 q.2 hq) ⟨rfl, rfl⟩ ⟨ht _ w_2354, w_2357, ht _ w_155, lk_X13_parts⟩ w_2355 w_2356 rfl rfl rfl hl rfl rfl dL_law_1426 rfl rfl hc0 hs0 (fun H locs hI => ?_)
    refine lz_eq D h1 dL_law_1429 (by decide) (kk _ _ _ hl ⟨cr.2.1, re, ta, se, co, cr.2.2.1, sb, wb, cr.2.2.2.1, tr, cr.2.2.2.2, ch, ri, to, q.2, (some tn), an, qr, fo, h2, hI⟩)
theorem k_lifts (D : LC p s m meth c b L i xs) (hl : lv_has ls 7 (lo5 b B am qo i)) (hL : LzI g s B am qo H locs) (hm : cells + 24 ≤ room_1.cells) (hm2 : slots + 311 ≤ room_1.slots)
    (kk : ∀ (H : Heap) (locs : List Loc) (ls : Array Slot), lv_has ls 7 (lo5 b B am qo i) → LzI g s B am qo H locs → W p l e room_1 s m #[.ref b] below meth c H locs (cells + 24) (slots + 311) Q (F0 m 1655 ls [])) : W p l e room_1 s m #[.ref b] below meth c H locs cells slots Q (F0 m 1434 ls []) := by
  obtain ⟨hk, re, ta, se, co, bo, sb, wb, hi, tr, now, ch, ri, to, md, ot, an, qr, fo, hV, hI⟩ := hL
  obtain ⟨X, hX, hbl, hi6, hLm⟩ := id D
  obtain ⟨hx, hb, hml, hown, ht, hr, hlk⟩ := id X
  have hc0 : Nat.ble cells room_1.cells = true := Nat.ble_eq_true_of_le (Nat.le_trans (Nat.le_add_right _ _) hm)
  have hs0 : Nat.ble slots room_1.slots = true := Nat.ble_eq_true_of_le (Nat.le_trans (Nat.le_add_right _ _) hm2)
  obtain ⟨q, hq, cr, hc, h1, h2⟩ := i_lifts hV (xs (i + 1))
  refine lv_aload_n hx hb dL_law_1434 rfl (lv_at hl 1 rfl) ?_
  refine sc_ld (k := 1) D hI hl rfl (by decide) dL_law_1435 dL_law_1436 dL_law_1438 dL_law_1439 dL_law_1440 ?_
  refine call_Vi X hI (Cj.keep (Cj.skip (Cj.skip (Cj.skip (Cj.skip (Cj.skip (Cj.keep (Cj.skip (Cj.skip (Cj.keep (Cj.skip (Cj.keep (Cj.skip (Cj.keep Cj.nil)))))))))))))) (c_X11_lifts l g (B 0) (B 6) (B 9) (B 11) (B 13) (B 1 0) (B 10 0) (B 3 0) (B 4 0) (B 5 0) (B 12 0) hk bo hi now ri (xs (i + 1)) cr.1 cr.2.1 cr.2.2.1 cr.2.2.2.1 cr.2.2.2.2 hc) ⟨rfl, rfl⟩ ⟨ht _ w_1442, w_1445, ht _ w_139, lk_X11_lifts⟩ w_1443 w_1444 rfl rfl rfl hl rfl rfl dL_law_1441 rfl rfl hc0 hs0 (fun H locs hI => ?_)
  refine lv_aload_n hx hb dL_law_1444 rfl (lv_at hl 2 rfl) ?_
  refine sc_ld (k := 1) D hI hl rfl (by decide) dL_law_1445 dL_law_1446 dL_law_1448 dL_law_1449 dL_law_1450 ?_
  cases ot with
  | none =>
    have hI : In g (Ah s) s.heap s (wHK g (B 0) (B 1 0) (B 13 0) (B 11 0) (B 10 0) (B 9 0) (B 6 0) (B 3 0) (B 4 0) (B 5 0) (B 12 0) cr.2.1 ++ (wRe g (B 1) (B 2 0) (B 14 0) re ++ (wTa g (B 2) ta ++ (wSe g (B 3) (B 7 0) se ++ (wWi g (B 4) (B 13 0) (B 8 0) ++ (wCo g (B 5) co ++ (wBo g (B 6) (B 13 0) cr.2.2.1 ++ (wBo g (B 7) (B 13 0) sb ++ (wBo g (B 8) (B 13 0) wb ++ (wHi g (B 9) cr.2.2.2.1 ++ (wMo g (B 10) tr ++ (wMo g (B 11) cr.2.2.2.2 ++ (wCh g (B 12) ch ++ (wRi g (B 13) ri ++ (wTo g (B 14) to ++ (wOut g qo fo ++ (wMd g am none qr md ++ []))))))))))))))))) H locs := hI
    refine call_Vi X hI (Cj.skip (Cj.skip (Cj.skip (Cj.skip (Cj.skip (Cj.skip (Cj.skip (Cj.skip (Cj.skip (Cj.skip (Cj.skip (Cj.skip (Cj.skip (Cj.skip (Cj.skip (Cj.skip Cj.id)))))))))))))))) (c_X13_lifts_N l g am qr md (xs (i + 1)) q.1 q.2 hq) ⟨rfl, rfl⟩ ⟨ht _ w_2251, w_2254, ht _ w_155, lk_X13_lifts⟩ w_2252 w_2253 rfl rfl rfl hl rfl rfl dL_law_1451 rfl rfl hc0 hs0 (fun H locs hI => ?_)
    refine lz_eq D h1 dL_law_1454 (by decide) (kk _ _ _ hl ⟨cr.2.1, re, ta, se, co, cr.2.2.1, sb, wb, cr.2.2.2.1, tr, cr.2.2.2.2, ch, ri, to, q.2, none, an, qr, fo, h2, hI⟩)
  | some tn =>
    have hI : In g (Ah s) s.heap s (wHK g (B 0) (B 1 0) (B 13 0) (B 11 0) (B 10 0) (B 9 0) (B 6 0) (B 3 0) (B 4 0) (B 5 0) (B 12 0) cr.2.1 ++ (wRe g (B 1) (B 2 0) (B 14 0) re ++ (wTa g (B 2) ta ++ (wSe g (B 3) (B 7 0) se ++ (wWi g (B 4) (B 13 0) (B 8 0) ++ (wCo g (B 5) co ++ (wBo g (B 6) (B 13 0) cr.2.2.1 ++ (wBo g (B 7) (B 13 0) sb ++ (wBo g (B 8) (B 13 0) wb ++ (wHi g (B 9) cr.2.2.2.1 ++ (wMo g (B 10) tr ++ (wMo g (B 11) cr.2.2.2.2 ++ (wCh g (B 12) ch ++ (wRi g (B 13) ri ++ (wTo g (B 14) to ++ (wOut g qo fo ++ (wMd g am (some (an 0)) qr md ++ (wTn g an tn ++ [])))))))))))))))))) H locs := hI
    refine call_Vi X hI (Cj.skip (Cj.skip (Cj.skip (Cj.skip (Cj.skip (Cj.skip (Cj.skip (Cj.skip (Cj.skip (Cj.skip (Cj.skip (Cj.skip (Cj.skip (Cj.skip (Cj.skip (Cj.skip Cj.id)))))))))))))))) (c_X13_lifts l g am an qr md tn (xs (i + 1)) q.1 q.2 hq) ⟨rfl, rfl⟩ ⟨ht _ w_2251, w_2254, ht _ w_155, lk_X13_lifts⟩ w_2252 w_2253 rfl rfl rfl hl rfl rfl dL_law_1451 rfl rfl hc0 hs0 (fun H locs hI => ?_)
    refine lz_eq D h1 dL_law_1454 (by decide) (kk _ _ _ hl ⟨cr.2.1, re, ta, se, co, cr.2.2.1, sb, wb, cr.2.2.2.1, tr, cr.2.2.2.2, ch, ri, to, q.2, (some tn), an, qr, fo, h2, hI⟩)
theorem k_lot (D : LC p s m meth c b L i xs) (hl : lv_has ls 7 (lo5 b B am qo i)) (hL : LzI g s B am qo H locs) (hm : cells + 24 ≤ room_1.cells) (hm2 : slots + 311 ≤ room_1.slots)
    (kk : ∀ (H : Heap) (locs : List Loc) (ls : Array Slot), lv_has ls 7 (lo5 b B am qo i) → LzI g s B am qo H locs → W p l e room_1 s m #[.ref b] below meth c H locs (cells + 24) (slots + 311) Q (F0 m 1655 ls [])) : W p l e room_1 s m #[.ref b] below meth c H locs cells slots Q (F0 m 1459 ls []) := by
  obtain ⟨hk, re, ta, se, co, bo, sb, wb, hi, tr, now, ch, ri, to, md, ot, an, qr, fo, hV, hI⟩ := hL
  obtain ⟨X, hX, hbl, hi6, hLm⟩ := id D
  obtain ⟨hx, hb, hml, hown, ht, hr, hlk⟩ := id X
  have hc0 : Nat.ble cells room_1.cells = true := Nat.ble_eq_true_of_le (Nat.le_trans (Nat.le_add_right _ _) hm)
  have hs0 : Nat.ble slots room_1.slots = true := Nat.ble_eq_true_of_le (Nat.le_trans (Nat.le_add_right _ _) hm2)
  obtain ⟨q, hq, cr, hc, h1, h2⟩ := i_lot hV
  refine lv_aload_n hx hb dL_law_1459 rfl (lv_at hl 1 rfl) ?_
  refine call_Vi X hI (Cj.keep (Cj.skip (Cj.skip (Cj.skip (Cj.skip (Cj.skip (Cj.keep (Cj.skip (Cj.skip (Cj.keep (Cj.skip (Cj.keep (Cj.skip (Cj.keep Cj.nil)))))))))))))) (c_X11_lot l g (B 0) (B 6) (B 9) (B 11) (B 13) (B 1 0) (B 10 0) (B 3 0) (B 4 0) (B 5 0) (B 12 0) hk bo hi now ri cr.1 cr.2.1 cr.2.2.1 cr.2.2.2.1 cr.2.2.2.2 hc) ⟨rfl, rfl⟩ ⟨ht _ w_1446, w_1449, ht _ w_139, lk_X11_lot⟩ w_1447 w_1448 rfl rfl rfl hl rfl rfl dL_law_1460 rfl rfl hc0 hs0 (fun H locs hI => ?_)
  refine lv_aload_n hx hb dL_law_1463 rfl (lv_at hl 2 rfl) ?_
  cases ot with
  | none =>
    have hI : In g (Ah s) s.heap s (wHK g (B 0) (B 1 0) (B 13 0) (B 11 0) (B 10 0) (B 9 0) (B 6 0) (B 3 0) (B 4 0) (B 5 0) (B 12 0) cr.2.1 ++ (wRe g (B 1) (B 2 0) (B 14 0) re ++ (wTa g (B 2) ta ++ (wSe g (B 3) (B 7 0) se ++ (wWi g (B 4) (B 13 0) (B 8 0) ++ (wCo g (B 5) co ++ (wBo g (B 6) (B 13 0) cr.2.2.1 ++ (wBo g (B 7) (B 13 0) sb ++ (wBo g (B 8) (B 13 0) wb ++ (wHi g (B 9) cr.2.2.2.1 ++ (wMo g (B 10) tr ++ (wMo g (B 11) cr.2.2.2.2 ++ (wCh g (B 12) ch ++ (wRi g (B 13) ri ++ (wTo g (B 14) to ++ (wOut g qo fo ++ (wMd g am none qr md ++ []))))))))))))))))) H locs := hI
    refine call_Vi X hI (Cj.skip (Cj.skip (Cj.skip (Cj.skip (Cj.skip (Cj.skip (Cj.skip (Cj.skip (Cj.skip (Cj.skip (Cj.skip (Cj.skip (Cj.skip (Cj.skip (Cj.skip (Cj.skip Cj.id)))))))))))))))) (c_X13_lot_N l g am qr md q.1 q.2 hq) ⟨rfl, rfl⟩ ⟨ht _ w_2358, w_2361, ht _ w_155, lk_X13_lot⟩ w_2359 w_2360 rfl rfl rfl hl rfl rfl dL_law_1464 rfl rfl hc0 hs0 (fun H locs hI => ?_)
    refine lz_eq D h1 dL_law_1467 (by decide) (kk _ _ _ hl ⟨cr.2.1, re, ta, se, co, cr.2.2.1, sb, wb, cr.2.2.2.1, tr, cr.2.2.2.2, ch, ri, to, q.2, none, an, qr, fo, h2, hI⟩)
  | some tn =>
    have hI : In g (Ah s) s.heap s (wHK g (B 0) (B 1 0) (B 13 0) (B 11 0) (B 10 0) (B 9 0) (B 6 0) (B 3 0) (B 4 0) (B 5 0) (B 12 0) cr.2.1 ++ (wRe g (B 1) (B 2 0) (B 14 0) re ++ (wTa g (B 2) ta ++ (wSe g (B 3) (B 7 0) se ++ (wWi g (B 4) (B 13 0) (B 8 0) ++ (wCo g (B 5) co ++ (wBo g (B 6) (B 13 0) cr.2.2.1 ++ (wBo g (B 7) (B 13 0) sb ++ (wBo g (B 8) (B 13 0) wb ++ (wHi g (B 9) cr.2.2.2.1 ++ (wMo g (B 10) tr ++ (wMo g (B 11) cr.2.2.2.2 ++ (wCh g (B 12) ch ++ (wRi g (B 13) ri ++ (wTo g (B 14) to ++ (wOut g qo fo ++ (wMd g am (some (an 0)) qr md ++ (wTn g an tn ++ [])))))))))))))))))) H locs := hI
    refine call_Vi X hI (Cj.skip (Cj.skip (Cj.skip (Cj.skip (Cj.skip (Cj.skip (Cj.skip (Cj.skip (Cj.skip (Cj.skip (Cj.skip (Cj.skip (Cj.skip (Cj.skip (Cj.skip (Cj.skip Cj.id)))))))))))))))) (c_X13_lot l g am an qr md tn q.1 q.2 hq) ⟨rfl, rfl⟩ ⟨ht _ w_2358, w_2361, ht _ w_155, lk_X13_lot⟩ w_2359 w_2360 rfl rfl rfl hl rfl rfl dL_law_1464 rfl rfl hc0 hs0 (fun H locs hI => ?_)
    refine lz_eq D h1 dL_law_1467 (by decide) (kk _ _ _ hl ⟨cr.2.1, re, ta, se, co, cr.2.2.1, sb, wb, cr.2.2.2.1, tr, cr.2.2.2.2, ch, ri, to, q.2, (some tn), an, qr, fo, h2, hI⟩)
theorem k_call (D : LC p s m meth c b L i xs) (hl : lv_has ls 7 (lo5 b B am qo i)) (hL : LzI g s B am qo H locs) (hm : cells + 24 ≤ room_1.cells) (hm2 : slots + 311 ≤ room_1.slots)
    (kk : ∀ (H : Heap) (locs : List Loc) (ls : Array Slot), lv_has ls 7 (lo5 b B am qo i) → LzI g s B am qo H locs → W p l e room_1 s m #[.ref b] below meth c H locs (cells + 24) (slots + 311) Q (F0 m 1655 ls [])) : W p l e room_1 s m #[.ref b] below meth c H locs cells slots Q (F0 m 1472 ls []) := by
  obtain ⟨hk, re, ta, se, co, bo, sb, wb, hi, tr, now, ch, ri, to, md, ot, an, qr, fo, hV, hI⟩ := hL
  obtain ⟨X, hX, hbl, hi6, hLm⟩ := id D
  obtain ⟨hx, hb, hml, hown, ht, hr, hlk⟩ := id X
  have hc0 : Nat.ble cells room_1.cells = true := Nat.ble_eq_true_of_le (Nat.le_trans (Nat.le_add_right _ _) hm)
  have hs0 : Nat.ble slots room_1.slots = true := Nat.ble_eq_true_of_le (Nat.le_trans (Nat.le_add_right _ _) hm2)
  obtain ⟨q, hq, cr, hc, h1, h2⟩ := i_call (wb := wb) hV
  refine lv_aload_n hx hb dL_law_1472 rfl (lv_at hl 1 rfl) ?_
  refine call_Vi X hI (Cj.keep (Cj.skip (Cj.skip (Cj.skip (Cj.keep (Cj.skip (Cj.keep (Cj.skip (Cj.keep (Cj.keep (Cj.skip (Cj.keep (Cj.skip (Cj.keep Cj.nil)))))))))))))) (c_X11_call l g (B 0) (B 4) (B 6) (B 8) (B 9) (B 11) (B 13) (B 1 0) (B 10 0) (B 3 0) (B 5 0) (B 12 0) hk bo wb hi now ri cr.1 cr.2.1 cr.2.2.1 cr.2.2.2.1 cr.2.2.2.2.1 cr.2.2.2.2.2 hc) ⟨rfl, rfl⟩ ⟨ht _ w_1452, w_1455, ht _ w_139, lk_X11_call⟩ w_1453 w_1454 rfl rfl rfl hl rfl rfl dL_law_1473 rfl rfl hc0 hs0 (fun H locs hI => ?_)
  refine lv_aload_n hx hb dL_law_1476 rfl (lv_at hl 2 rfl) ?_
  cases ot with
  | none =>
    have hI : In g (Ah s) s.heap s (wHK g (B 0) (B 1 0) (B 13 0) (B 11 0) (B 10 0) (B 9 0) (B 6 0) (B 3 0) (B 4 0) (B 5 0) (B 12 0) cr.2.1 ++ (wRe g (B 1) (B 2 0) (B 14 0) re ++ (wTa g (B 2) ta ++ (wSe g (B 3) (B 7 0) se ++ (wWi g (B 4) (B 13 0) (B 8 0) ++ (wCo g (B 5) co ++ (wBo g (B 6) (B 13 0) cr.2.2.1 ++ (wBo g (B 7) (B 13 0) sb ++ (wBo g (B 8) (B 13 0) cr.2.2.2.1 ++ (wHi g (B 9) cr.2.2.2.2.1 ++ (wMo g (B 10) tr ++ (wMo g (B 11) cr.2.2.2.2.2 ++ (wCh g (B 12) ch ++ (wRi g (B 13) ri ++ (wTo g (B 14) to ++ (wOut g qo fo ++ (wMd g am none qr md ++ []))))))))))))))))) H locs := hI
    refine call_Vi X hI (Cj.skip (Cj.skip (Cj.skip (Cj.skip (Cj.skip (Cj.skip (Cj.skip (Cj.skip (Cj.skip (Cj.skip (Cj.skip (Cj.skip (Cj.skip (Cj.skip (Cj.skip (Cj.skip Cj.id)))))))))))))))) (c_X13_call_N l g am qr md q.1 q.2 hq) ⟨rfl, rfl⟩ ⟨ht _ w_2362, w_2365, ht _ w_155, lk_X13_call⟩ w_2363 w_2364 rfl rfl rfl hl rfl rfl dL_law_1477 rfl rfl hc0 hs0 (fun H locs hI => ?_)
    refine lz_eq D h1 dL_law_1480 (by decide) (kk _ _ _ hl ⟨cr.2.1, re, ta, se, co, cr.2.2.1, sb, cr.2.2.2.1, cr.2.2.2.2.1, tr, cr.2.2.2.2.2, ch, ri, to, q.2, none, an, qr, fo, h2, hI⟩)
  | some tn =>
    have hI : In g (Ah s) s.heap s (wHK g (B 0) (B 1 0) (B 13 0) (B 11 0) (B 10 0) (B 9 0) (B 6 0) (B 3 0) (B 4 0) (B 5 0) (B 12 0) cr.2.1 ++ (wRe g (B 1) (B 2 0) (B 14 0) re ++ (wTa g (B 2) ta ++ (wSe g (B 3) (B 7 0) se ++ (wWi g (B 4) (B 13 0) (B 8 0) ++ (wCo g (B 5) co ++ (wBo g (B 6) (B 13 0) cr.2.2.1 ++ (wBo g (B 7) (B 13 0) sb ++ (wBo g (B 8) (B 13 0) cr.2.2.2.1 ++ (wHi g (B 9) cr.2.2.2.2.1 ++ (wMo g (B 10) tr ++ (wMo g (B 11) cr.2.2.2.2.2 ++ (wCh g (B 12) ch ++ (wRi g (B 13) ri ++ (wTo g (B 14) to ++ (wOut g qo fo ++ (wMd g am (some (an 0)) qr md ++ (wTn g an tn ++ [])))))))))))))))))) H locs := hI
    refine call_Vi X hI (Cj.skip (Cj.skip (Cj.skip (Cj.skip (Cj.skip (Cj.skip (Cj.skip (Cj.skip (Cj.skip (Cj.skip (Cj.skip (Cj.skip (Cj.skip (Cj.skip (Cj.skip (Cj.skip Cj.id)))))))))))))))) (c_X13_call l g am an qr md tn q.1 q.2 hq) ⟨rfl, rfl⟩ ⟨ht _ w_2362, w_2365, ht _ w_155, lk_X13_call⟩ w_2363 w_2364 rfl rfl rfl hl rfl rfl dL_law_1477 rfl rfl hc0 hs0 (fun H locs hI => ?_)
    refine lz_eq D h1 dL_law_1480 (by decide) (kk _ _ _ hl ⟨cr.2.1, re, ta, se, co, cr.2.2.1, sb, cr.2.2.2.1, cr.2.2.2.2.1, tr, cr.2.2.2.2.2, ch, ri, to, q.2, (some tn), an, qr, fo, h2, hI⟩)
theorem k_seed (D : LC p s m meth c b L i xs) (hl : lv_has ls 7 (lo5 b B am qo i)) (hL : LzI g s B am qo H locs) (hm : cells + 24 ≤ room_1.cells) (hm2 : slots + 311 ≤ room_1.slots)
    (kk : ∀ (H : Heap) (locs : List Loc) (ls : Array Slot), lv_has ls 7 (lo5 b B am qo i) → LzI g s B am qo H locs → W p l e room_1 s m #[.ref b] below meth c H locs (cells + 24) (slots + 311) Q (F0 m 1655 ls [])) : W p l e room_1 s m #[.ref b] below meth c H locs cells slots Q (F0 m 1485 ls []) := by
  obtain ⟨hk, re, ta, se, co, bo, sb, wb, hi, tr, now, ch, ri, to, md, ot, an, qr, fo, hV, hI⟩ := hL
  obtain ⟨X, hX, hbl, hi6, hLm⟩ := id D
  obtain ⟨hx, hb, hml, hown, ht, hr, hlk⟩ := id X
  have hc0 : Nat.ble cells room_1.cells = true := Nat.ble_eq_true_of_le (Nat.le_trans (Nat.le_add_right _ _) hm)
  have hs0 : Nat.ble slots room_1.slots = true := Nat.ble_eq_true_of_le (Nat.le_trans (Nat.le_add_right _ _) hm2)
  obtain ⟨q, hq, cr, hc, h1, h2⟩ := i_seed hV (xs (i + 1))
  refine lv_aload_n hx hb dL_law_1485 rfl (lv_at hl 1 rfl) ?_
  refine sc_ld (k := 1) D hI hl rfl (by decide) dL_law_1486 dL_law_1487 dL_law_1489 dL_law_1490 dL_law_1491 ?_
  refine call_Vi X hI (Cj.keep (Cj.skip (Cj.skip (Cj.skip (Cj.skip (Cj.skip (Cj.skip (Cj.skip (Cj.skip (Cj.skip (Cj.skip (Cj.keep Cj.nil)))))))))))) (c_X11_seed l g (B 0) (B 11) (B 1 0) (B 13 0) (B 10 0) (B 9 0) (B 6 0) (B 3 0) (B 4 0) (B 5 0) (B 12 0) hk now (xs (i + 1)) cr.1 cr.2.1 cr.2.2 hc) ⟨rfl, rfl⟩ ⟨ht _ w_1456, w_1459, ht _ w_139, lk_X11_seed⟩ w_1457 w_1458 rfl rfl rfl hl rfl rfl dL_law_1492 rfl rfl hc0 hs0 (fun H locs hI => ?_)
  refine lv_aload_n hx hb dL_law_1495 rfl (lv_at hl 2 rfl) ?_
  refine sc_ld (k := 1) D hI hl rfl (by decide) dL_law_1496 dL_law_1497 dL_law_1499 dL_law_1500 dL_law_1501 ?_
  cases ot with
  | none =>
    have hI : In g (Ah s) s.heap s (wHK g (B 0) (B 1 0) (B 13 0) (B 11 0) (B 10 0) (B 9 0) (B 6 0) (B 3 0) (B 4 0) (B 5 0) (B 12 0) cr.2.1 ++ (wRe g (B 1) (B 2 0) (B 14 0) re ++ (wTa g (B 2) ta ++ (wSe g (B 3) (B 7 0) se ++ (wWi g (B 4) (B 13 0) (B 8 0) ++ (wCo g (B 5) co ++ (wBo g (B 6) (B 13 0) bo ++ (wBo g (B 7) (B 13 0) sb ++ (wBo g (B 8) (B 13 0) wb ++ (wHi g (B 9) hi ++ (wMo g (B 10) tr ++ (wMo g (B 11) cr.2.2 ++ (wCh g (B 12) ch ++ (wRi g (B 13) ri ++ (wTo g (B 14) to ++ (wOut g qo fo ++ (wMd g am none qr md ++ []))))))))))))))))) H locs := hI
    refine call_Vi X hI (Cj.skip (Cj.skip (Cj.skip (Cj.skip (Cj.skip (Cj.skip (Cj.skip (Cj.skip (Cj.skip (Cj.skip (Cj.skip (Cj.skip (Cj.skip (Cj.skip (Cj.skip (Cj.skip Cj.id)))))))))))))))) (c_X13_seed_N l g am qr md (xs (i + 1)) q.1 q.2 hq) ⟨rfl, rfl⟩ ⟨ht _ w_2366, w_2369, ht _ w_155, lk_X13_seed⟩ w_2367 w_2368 rfl rfl rfl hl rfl rfl dL_law_1502 rfl rfl hc0 hs0 (fun H locs hI => ?_)
    refine lz_eq D h1 dL_law_1505 (by decide) (kk _ _ _ hl ⟨cr.2.1, re, ta, se, co, bo, sb, wb, hi, tr, cr.2.2, ch, ri, to, q.2, none, an, qr, fo, h2, hI⟩)
  | some tn =>
    have hI : In g (Ah s) s.heap s (wHK g (B 0) (B 1 0) (B 13 0) (B 11 0) (B 10 0) (B 9 0) (B 6 0) (B 3 0) (B 4 0) (B 5 0) (B 12 0) cr.2.1 ++ (wRe g (B 1) (B 2 0) (B 14 0) re ++ (wTa g (B 2) ta ++ (wSe g (B 3) (B 7 0) se ++ (wWi g (B 4) (B 13 0) (B 8 0) ++ (wCo g (B 5) co ++ (wBo g (B 6) (B 13 0) bo ++ (wBo g (B 7) (B 13 0) sb ++ (wBo g (B 8) (B 13 0) wb ++ (wHi g (B 9) hi ++ (wMo g (B 10) tr ++ (wMo g (B 11) cr.2.2 ++ (wCh g (B 12) ch ++ (wRi g (B 13) ri ++ (wTo g (B 14) to ++ (wOut g qo fo ++ (wMd g am (some (an 0)) qr md ++ (wTn g an tn ++ [])))))))))))))))))) H locs := hI
    refine call_Vi X hI (Cj.skip (Cj.skip (Cj.skip (Cj.skip (Cj.skip (Cj.skip (Cj.skip (Cj.skip (Cj.skip (Cj.skip (Cj.skip (Cj.skip (Cj.skip (Cj.skip (Cj.skip (Cj.skip Cj.id)))))))))))))))) (c_X13_seed l g am an qr md tn (xs (i + 1)) q.1 q.2 hq) ⟨rfl, rfl⟩ ⟨ht _ w_2366, w_2369, ht _ w_155, lk_X13_seed⟩ w_2367 w_2368 rfl rfl rfl hl rfl rfl dL_law_1502 rfl rfl hc0 hs0 (fun H locs hI => ?_)
    refine lz_eq D h1 dL_law_1505 (by decide) (kk _ _ _ hl ⟨cr.2.1, re, ta, se, co, bo, sb, wb, hi, tr, cr.2.2, ch, ri, to, q.2, (some tn), an, qr, fo, h2, hI⟩)
theorem k_undo (D : LC p s m meth c b L i xs) (hl : lv_has ls 7 (lo5 b B am qo i)) (hL : LzI g s B am qo H locs) (hm : cells + 24 ≤ room_1.cells) (hm2 : slots + 311 ≤ room_1.slots)
    (kk : ∀ (H : Heap) (locs : List Loc) (ls : Array Slot), lv_has ls 7 (lo5 b B am qo i) → LzI g s B am qo H locs → W p l e room_1 s m #[.ref b] below meth c H locs (cells + 24) (slots + 311) Q (F0 m 1655 ls [])) : W p l e room_1 s m #[.ref b] below meth c H locs cells slots Q (F0 m 1510 ls []) := by
  obtain ⟨hk, re, ta, se, co, bo, sb, wb, hi, tr, now, ch, ri, to, md, ot, an, qr, fo, hV, hI⟩ := hL
  obtain ⟨X, hX, hbl, hi6, hLm⟩ := id D
  obtain ⟨hx, hb, hml, hown, ht, hr, hlk⟩ := id X
  have hc0 : Nat.ble cells room_1.cells = true := Nat.ble_eq_true_of_le (Nat.le_trans (Nat.le_add_right _ _) hm)
  have hs0 : Nat.ble slots room_1.slots = true := Nat.ble_eq_true_of_le (Nat.le_trans (Nat.le_add_right _ _) hm2)
  obtain ⟨q, hq, cr, hc, h1, h2⟩ := i_undo hV
  refine lv_aload_n hx hb dL_law_1510 rfl (lv_at hl 1 rfl) ?_
  refine call_Vi X hI (Cj.keep (Cj.skip (Cj.skip (Cj.skip (Cj.skip (Cj.skip (Cj.keep (Cj.skip (Cj.skip (Cj.keep (Cj.skip (Cj.keep (Cj.skip (Cj.keep Cj.nil)))))))))))))) (c_X11_undo l g (B 0) (B 6) (B 9) (B 11) (B 13) (B 1 0) (B 10 0) (B 3 0) (B 4 0) (B 5 0) (B 12 0) hk bo hi now ri cr.1 cr.2.1 cr.2.2.1 cr.2.2.2.1 cr.2.2.2.2 hc) ⟨rfl, rfl⟩ ⟨ht _ w_1464, w_1467, ht _ w_139, lk_X11_undo⟩ w_1465 w_1466 rfl rfl rfl hl rfl rfl dL_law_1511 rfl rfl hc0 hs0 (fun H locs hI => ?_)
  refine lv_aload_n hx hb dL_law_1514 rfl (lv_at hl 2 rfl) ?_
  cases ot with
  | none =>
    have hI : In g (Ah s) s.heap s (wHK g (B 0) (B 1 0) (B 13 0) (B 11 0) (B 10 0) (B 9 0) (B 6 0) (B 3 0) (B 4 0) (B 5 0) (B 12 0) cr.2.1 ++ (wRe g (B 1) (B 2 0) (B 14 0) re ++ (wTa g (B 2) ta ++ (wSe g (B 3) (B 7 0) se ++ (wWi g (B 4) (B 13 0) (B 8 0) ++ (wCo g (B 5) co ++ (wBo g (B 6) (B 13 0) cr.2.2.1 ++ (wBo g (B 7) (B 13 0) sb ++ (wBo g (B 8) (B 13 0) wb ++ (wHi g (B 9) cr.2.2.2.1 ++ (wMo g (B 10) tr ++ (wMo g (B 11) cr.2.2.2.2 ++ (wCh g (B 12) ch ++ (wRi g (B 13) ri ++ (wTo g (B 14) to ++ (wOut g qo fo ++ (wMd g am none qr md ++ []))))))))))))))))) H locs := hI
    refine call_Vi X hI (Cj.skip (Cj.skip (Cj.skip (Cj.skip (Cj.skip (Cj.skip (Cj.skip (Cj.skip (Cj.skip (Cj.skip (Cj.skip (Cj.skip (Cj.skip (Cj.skip (Cj.skip (Cj.skip Cj.id)))))))))))))))) (c_X13_undo_N l g am qr md q.1 q.2 hq) ⟨rfl, rfl⟩ ⟨ht _ w_2378, w_2381, ht _ w_155, lk_X13_undo⟩ w_2379 w_2380 rfl rfl rfl hl rfl rfl dL_law_1515 rfl rfl hc0 hs0 (fun H locs hI => ?_)
    refine lz_eq D h1 dL_law_1518 (by decide) (kk _ _ _ hl ⟨cr.2.1, re, ta, se, co, cr.2.2.1, sb, wb, cr.2.2.2.1, tr, cr.2.2.2.2, ch, ri, to, q.2, none, an, qr, fo, h2, hI⟩)
  | some tn =>
    have hI : In g (Ah s) s.heap s (wHK g (B 0) (B 1 0) (B 13 0) (B 11 0) (B 10 0) (B 9 0) (B 6 0) (B 3 0) (B 4 0) (B 5 0) (B 12 0) cr.2.1 ++ (wRe g (B 1) (B 2 0) (B 14 0) re ++ (wTa g (B 2) ta ++ (wSe g (B 3) (B 7 0) se ++ (wWi g (B 4) (B 13 0) (B 8 0) ++ (wCo g (B 5) co ++ (wBo g (B 6) (B 13 0) cr.2.2.1 ++ (wBo g (B 7) (B 13 0) sb ++ (wBo g (B 8) (B 13 0) wb ++ (wHi g (B 9) cr.2.2.2.1 ++ (wMo g (B 10) tr ++ (wMo g (B 11) cr.2.2.2.2 ++ (wCh g (B 12) ch ++ (wRi g (B 13) ri ++ (wTo g (B 14) to ++ (wOut g qo fo ++ (wMd g am (some (an 0)) qr md ++ (wTn g an tn ++ [])))))))))))))))))) H locs := hI
    refine call_Vi X hI (Cj.skip (Cj.skip (Cj.skip (Cj.skip (Cj.skip (Cj.skip (Cj.skip (Cj.skip (Cj.skip (Cj.skip (Cj.skip (Cj.skip (Cj.skip (Cj.skip (Cj.skip (Cj.skip Cj.id)))))))))))))))) (c_X13_undo l g am an qr md tn q.1 q.2 hq) ⟨rfl, rfl⟩ ⟨ht _ w_2378, w_2381, ht _ w_155, lk_X13_undo⟩ w_2379 w_2380 rfl rfl rfl hl rfl rfl dL_law_1515 rfl rfl hc0 hs0 (fun H locs hI => ?_)
    refine lz_eq D h1 dL_law_1518 (by decide) (kk _ _ _ hl ⟨cr.2.1, re, ta, se, co, cr.2.2.1, sb, wb, cr.2.2.2.1, tr, cr.2.2.2.2, ch, ri, to, q.2, (some tn), an, qr, fo, h2, hI⟩)
theorem k_mark (D : LC p s m meth c b L i xs) (hl : lv_has ls 7 (lo5 b B am qo i)) (hL : LzI g s B am qo H locs) (hm : cells + 24 ≤ room_1.cells) (hm2 : slots + 311 ≤ room_1.slots)
    (kk : ∀ (H : Heap) (locs : List Loc) (ls : Array Slot), lv_has ls 7 (lo5 b B am qo i) → LzI g s B am qo H locs → W p l e room_1 s m #[.ref b] below meth c H locs (cells + 24) (slots + 311) Q (F0 m 1655 ls [])) : W p l e room_1 s m #[.ref b] below meth c H locs cells slots Q (F0 m 1523 ls []) := by
  obtain ⟨hk, re, ta, se, co, bo, sb, wb, hi, tr, now, ch, ri, to, md, ot, an, qr, fo, hV, hI⟩ := hL
  obtain ⟨X, hX, hbl, hi6, hLm⟩ := id D
  obtain ⟨hx, hb, hml, hown, ht, hr, hlk⟩ := id X
  have hc0 : Nat.ble cells room_1.cells = true := Nat.ble_eq_true_of_le (Nat.le_trans (Nat.le_add_right _ _) hm)
  have hs0 : Nat.ble slots room_1.slots = true := Nat.ble_eq_true_of_le (Nat.le_trans (Nat.le_add_right _ _) hm2)
  obtain ⟨q, hq, cr, hc, h1, h2⟩ := i_mark hV
  refine lv_aload_n hx hb dL_law_1523 rfl (lv_at hl 1 rfl) ?_
  refine call_Vi X hI (Cj.keep (Cj.skip (Cj.skip (Cj.skip (Cj.skip (Cj.skip (Cj.skip (Cj.skip (Cj.skip (Cj.keep (Cj.skip (Cj.keep Cj.nil)))))))))))) (c_X11_mark l g (B 0) (B 9) (B 11) (B 1 0) (B 13 0) (B 10 0) (B 6 0) (B 3 0) (B 4 0) (B 5 0) (B 12 0) hk hi now cr.1 cr.2.1 cr.2.2 hc) ⟨rfl, rfl⟩ ⟨ht _ w_1472, w_1475, ht _ w_139, lk_X11_mark⟩ w_1473 w_1474 rfl rfl rfl hl rfl rfl dL_law_1524 rfl rfl hc0 hs0 (fun H locs hI => ?_)
  refine lv_aload_n hx hb dL_law_1527 rfl (lv_at hl 2 rfl) ?_
  cases ot with
  | none =>
    have hI : In g (Ah s) s.heap s (wHK g (B 0) (B 1 0) (B 13 0) (B 11 0) (B 10 0) (B 9 0) (B 6 0) (B 3 0) (B 4 0) (B 5 0) (B 12 0) cr.2.1 ++ (wRe g (B 1) (B 2 0) (B 14 0) re ++ (wTa g (B 2) ta ++ (wSe g (B 3) (B 7 0) se ++ (wWi g (B 4) (B 13 0) (B 8 0) ++ (wCo g (B 5) co ++ (wBo g (B 6) (B 13 0) bo ++ (wBo g (B 7) (B 13 0) sb ++ (wBo g (B 8) (B 13 0) wb ++ (wHi g (B 9) cr.2.2 ++ (wMo g (B 10) tr ++ (wMo g (B 11) now ++ (wCh g (B 12) ch ++ (wRi g (B 13) ri ++ (wTo g (B 14) to ++ (wOut g qo fo ++ (wMd g am none qr md ++ []))))))))))))))))) H locs := hI
    refine call_Vi X hI (Cj.skip (Cj.skip (Cj.skip (Cj.skip (Cj.skip (Cj.skip (Cj.skip (Cj.skip (Cj.skip (Cj.skip (Cj.skip (Cj.skip (Cj.skip (Cj.skip (Cj.skip (Cj.skip Cj.id)))))))))))))))) (c_X13_mark_N l g am qr md q.1 q.2 hq) ⟨rfl, rfl⟩ ⟨ht _ w_2382, w_2385, ht _ w_155, lk_X13_mark⟩ w_2383 w_2384 rfl rfl rfl hl rfl rfl dL_law_1528 rfl rfl hc0 hs0 (fun H locs hI => ?_)
    refine lz_eq D h1 dL_law_1531 (by decide) (kk _ _ _ hl ⟨cr.2.1, re, ta, se, co, bo, sb, wb, cr.2.2, tr, now, ch, ri, to, q.2, none, an, qr, fo, h2, hI⟩)
  | some tn =>
    have hI : In g (Ah s) s.heap s (wHK g (B 0) (B 1 0) (B 13 0) (B 11 0) (B 10 0) (B 9 0) (B 6 0) (B 3 0) (B 4 0) (B 5 0) (B 12 0) cr.2.1 ++ (wRe g (B 1) (B 2 0) (B 14 0) re ++ (wTa g (B 2) ta ++ (wSe g (B 3) (B 7 0) se ++ (wWi g (B 4) (B 13 0) (B 8 0) ++ (wCo g (B 5) co ++ (wBo g (B 6) (B 13 0) bo ++ (wBo g (B 7) (B 13 0) sb ++ (wBo g (B 8) (B 13 0) wb ++ (wHi g (B 9) cr.2.2 ++ (wMo g (B 10) tr ++ (wMo g (B 11) now ++ (wCh g (B 12) ch ++ (wRi g (B 13) ri ++ (wTo g (B 14) to ++ (wOut g qo fo ++ (wMd g am (some (an 0)) qr md ++ (wTn g an tn ++ [])))))))))))))))))) H locs := hI
    refine call_Vi X hI (Cj.skip (Cj.skip (Cj.skip (Cj.skip (Cj.skip (Cj.skip (Cj.skip (Cj.skip (Cj.skip (Cj.skip (Cj.skip (Cj.skip (Cj.skip (Cj.skip (Cj.skip (Cj.skip Cj.id)))))))))))))))) (c_X13_mark l g am an qr md tn q.1 q.2 hq) ⟨rfl, rfl⟩ ⟨ht _ w_2382, w_2385, ht _ w_155, lk_X13_mark⟩ w_2383 w_2384 rfl rfl rfl hl rfl rfl dL_law_1528 rfl rfl hc0 hs0 (fun H locs hI => ?_)
    refine lz_eq D h1 dL_law_1531 (by decide) (kk _ _ _ hl ⟨cr.2.1, re, ta, se, co, bo, sb, wb, cr.2.2, tr, now, ch, ri, to, q.2, (some tn), an, qr, fo, h2, hI⟩)
theorem k_back (D : LC p s m meth c b L i xs) (hl : lv_has ls 7 (lo5 b B am qo i)) (hL : LzI g s B am qo H locs) (hm : cells + 24 ≤ room_1.cells) (hm2 : slots + 311 ≤ room_1.slots)
    (kk : ∀ (H : Heap) (locs : List Loc) (ls : Array Slot), lv_has ls 7 (lo5 b B am qo i) → LzI g s B am qo H locs → W p l e room_1 s m #[.ref b] below meth c H locs (cells + 24) (slots + 311) Q (F0 m 1655 ls [])) : W p l e room_1 s m #[.ref b] below meth c H locs cells slots Q (F0 m 1536 ls []) := by
  obtain ⟨hk, re, ta, se, co, bo, sb, wb, hi, tr, now, ch, ri, to, md, ot, an, qr, fo, hV, hI⟩ := hL
  obtain ⟨X, hX, hbl, hi6, hLm⟩ := id D
  obtain ⟨hx, hb, hml, hown, ht, hr, hlk⟩ := id X
  have hc0 : Nat.ble cells room_1.cells = true := Nat.ble_eq_true_of_le (Nat.le_trans (Nat.le_add_right _ _) hm)
  have hs0 : Nat.ble slots room_1.slots = true := Nat.ble_eq_true_of_le (Nat.le_trans (Nat.le_add_right _ _) hm2)
  obtain ⟨q, hq, cr, hc, h1, h2⟩ := i_back hV (xs (i + 1))
  refine lv_aload_n hx hb dL_law_1536 rfl (lv_at hl 1 rfl) ?_
  refine sc_ld (k := 1) D hI hl rfl (by decide) dL_law_1537 dL_law_1538 dL_law_1540 dL_law_1541 dL_law_1542 ?_
  refine call_Vi X hI (Cj.keep (Cj.skip (Cj.skip (Cj.skip (Cj.skip (Cj.skip (Cj.keep (Cj.skip (Cj.skip (Cj.keep (Cj.skip (Cj.keep (Cj.skip (Cj.keep Cj.nil)))))))))))))) (c_X11_back l g (B 0) (B 6) (B 9) (B 11) (B 13) (B 1 0) (B 10 0) (B 3 0) (B 4 0) (B 5 0) (B 12 0) hk bo hi now ri (xs (i + 1)) cr.1 cr.2.1 cr.2.2.1 cr.2.2.2.1 cr.2.2.2.2 hc) ⟨rfl, rfl⟩ ⟨ht _ w_1480, w_1483, ht _ w_139, lk_X11_back⟩ w_1481 w_1482 rfl rfl rfl hl rfl rfl dL_law_1543 rfl rfl hc0 hs0 (fun H locs hI => ?_)
  refine lv_aload_n hx hb dL_law_1546 rfl (lv_at hl 2 rfl) ?_
  refine sc_ld (k := 1) D hI hl rfl (by decide) dL_law_1547 dL_law_1548 dL_law_1550 dL_law_1551 dL_law_1552 ?_
  cases ot with
  | none =>
    have hI : In g (Ah s) s.heap s (wHK g (B 0) (B 1 0) (B 13 0) (B 11 0) (B 10 0) (B 9 0) (B 6 0) (B 3 0) (B 4 0) (B 5 0) (B 12 0) cr.2.1 ++ (wRe g (B 1) (B 2 0) (B 14 0) re ++ (wTa g (B 2) ta ++ (wSe g (B 3) (B 7 0) se ++ (wWi g (B 4) (B 13 0) (B 8 0) ++ (wCo g (B 5) co ++ (wBo g (B 6) (B 13 0) cr.2.2.1 ++ (wBo g (B 7) (B 13 0) sb ++ (wBo g (B 8) (B 13 0) wb ++ (wHi g (B 9) cr.2.2.2.1 ++ (wMo g (B 10) tr ++ (wMo g (B 11) cr.2.2.2.2 ++ (wCh g (B 12) ch ++ (wRi g (B 13) ri ++ (wTo g (B 14) to ++ (wOut g qo fo ++ (wMd g am none qr md ++ []))))))))))))))))) H locs := hI
    refine call_Vi X hI (Cj.skip (Cj.skip (Cj.skip (Cj.skip (Cj.skip (Cj.skip (Cj.skip (Cj.skip (Cj.skip (Cj.skip (Cj.skip (Cj.skip (Cj.skip (Cj.skip (Cj.skip (Cj.skip Cj.id)))))))))))))))) (c_X13_back_N l g am qr md (xs (i + 1)) q.1 q.2 hq) ⟨rfl, rfl⟩ ⟨ht _ w_2386, w_2389, ht _ w_155, lk_X13_back⟩ w_2387 w_2388 rfl rfl rfl hl rfl rfl dL_law_1553 rfl rfl hc0 hs0 (fun H locs hI => ?_)
    refine lz_eq D h1 dL_law_1556 (by decide) (kk _ _ _ hl ⟨cr.2.1, re, ta, se, co, cr.2.2.1, sb, wb, cr.2.2.2.1, tr, cr.2.2.2.2, ch, ri, to, q.2, none, an, qr, fo, h2, hI⟩)
  | some tn =>
    have hI : In g (Ah s) s.heap s (wHK g (B 0) (B 1 0) (B 13 0) (B 11 0) (B 10 0) (B 9 0) (B 6 0) (B 3 0) (B 4 0) (B 5 0) (B 12 0) cr.2.1 ++ (wRe g (B 1) (B 2 0) (B 14 0) re ++ (wTa g (B 2) ta ++ (wSe g (B 3) (B 7 0) se ++ (wWi g (B 4) (B 13 0) (B 8 0) ++ (wCo g (B 5) co ++ (wBo g (B 6) (B 13 0) cr.2.2.1 ++ (wBo g (B 7) (B 13 0) sb ++ (wBo g (B 8) (B 13 0) wb ++ (wHi g (B 9) cr.2.2.2.1 ++ (wMo g (B 10) tr ++ (wMo g (B 11) cr.2.2.2.2 ++ (wCh g (B 12) ch ++ (wRi g (B 13) ri ++ (wTo g (B 14) to ++ (wOut g qo fo ++ (wMd g am (some (an 0)) qr md ++ (wTn g an tn ++ [])))))))))))))))))) H locs := hI
    refine call_Vi X hI (Cj.skip (Cj.skip (Cj.skip (Cj.skip (Cj.skip (Cj.skip (Cj.skip (Cj.skip (Cj.skip (Cj.skip (Cj.skip (Cj.skip (Cj.skip (Cj.skip (Cj.skip (Cj.skip Cj.id)))))))))))))))) (c_X13_back l g am an qr md tn (xs (i + 1)) q.1 q.2 hq) ⟨rfl, rfl⟩ ⟨ht _ w_2386, w_2389, ht _ w_155, lk_X13_back⟩ w_2387 w_2388 rfl rfl rfl hl rfl rfl dL_law_1553 rfl rfl hc0 hs0 (fun H locs hI => ?_)
    refine lz_eq D h1 dL_law_1556 (by decide) (kk _ _ _ hl ⟨cr.2.1, re, ta, se, co, cr.2.2.1, sb, wb, cr.2.2.2.1, tr, cr.2.2.2.2, ch, ri, to, q.2, (some tn), an, qr, fo, h2, hI⟩)
theorem k_size (D : LC p s m meth c b L i xs) (hl : lv_has ls 7 (lo5 b B am qo i)) (hL : LzI g s B am qo H locs) (hm : cells + 24 ≤ room_1.cells) (hm2 : slots + 311 ≤ room_1.slots)
    (kk : ∀ (H : Heap) (locs : List Loc) (ls : Array Slot), lv_has ls 7 (lo5 b B am qo i) → LzI g s B am qo H locs → W p l e room_1 s m #[.ref b] below meth c H locs (cells + 24) (slots + 311) Q (F0 m 1655 ls [])) : W p l e room_1 s m #[.ref b] below meth c H locs cells slots Q (F0 m 1617 ls []) := by
  obtain ⟨hk, re, ta, se, co, bo, sb, wb, hi, tr, now, ch, ri, to, md, ot, an, qr, fo, hV, hI⟩ := hL
  obtain ⟨X, hX, hbl, hi6, hLm⟩ := id D
  obtain ⟨hx, hb, hml, hown, ht, hr, hlk⟩ := id X
  have hc0 : Nat.ble cells room_1.cells = true := Nat.ble_eq_true_of_le (Nat.le_trans (Nat.le_add_right _ _) hm)
  have hs0 : Nat.ble slots room_1.slots = true := Nat.ble_eq_true_of_le (Nat.le_trans (Nat.le_add_right _ _) hm2)
  obtain ⟨q, hq, cr, hc, h1, h2⟩ := i_size hV (xs (i + 1))
  refine lv_aload_n hx hb dL_law_1617 rfl (lv_at hl 1 rfl) ?_
  refine sc_ld (k := 1) D hI hl rfl (by decide) dL_law_1618 dL_law_1619 dL_law_1621 dL_law_1622 dL_law_1623 ?_
  refine call_Vi X hI (Cj.keep (Cj.keep (Cj.keep (Cj.skip (Cj.skip (Cj.skip (Cj.skip (Cj.skip (Cj.skip (Cj.keep (Cj.skip (Cj.keep (Cj.skip (Cj.keep Cj.nil)))))))))))))) (c_X11_size l g (B 0) (B 1) (B 2) (B 9) (B 11) (B 13) (B 10 0) (B 6 0) (B 3 0) (B 4 0) (B 5 0) (B 12 0) (B 14 0) hk re ta hi now ri (xs (i + 1)) cr hc) ⟨rfl, rfl⟩ ⟨ht _ w_1488, w_1491, ht _ w_139, lk_X11_size⟩ w_1489 w_1490 rfl rfl rfl hl rfl rfl dL_law_1624 rfl rfl hc0 hs0 (fun H locs hI => ?_)
  refine lv_aload_n hx hb dL_law_1627 rfl (lv_at hl 2 rfl) ?_
  refine sc_ld (k := 1) D hI hl rfl (by decide) dL_law_1628 dL_law_1629 dL_law_1631 dL_law_1632 dL_law_1633 ?_
  cases ot with
  | none =>
    have hI : In g (Ah s) s.heap s (wHK g (B 0) (B 1 0) (B 13 0) (B 11 0) (B 10 0) (B 9 0) (B 6 0) (B 3 0) (B 4 0) (B 5 0) (B 12 0) hk ++ (wRe g (B 1) (B 2 0) (B 14 0) re ++ (wTa g (B 2) ta ++ (wSe g (B 3) (B 7 0) se ++ (wWi g (B 4) (B 13 0) (B 8 0) ++ (wCo g (B 5) co ++ (wBo g (B 6) (B 13 0) bo ++ (wBo g (B 7) (B 13 0) sb ++ (wBo g (B 8) (B 13 0) wb ++ (wHi g (B 9) hi ++ (wMo g (B 10) tr ++ (wMo g (B 11) now ++ (wCh g (B 12) ch ++ (wRi g (B 13) ri ++ (wTo g (B 14) to ++ (wOut g qo fo ++ (wMd g am none qr md ++ []))))))))))))))))) H locs := hI
    refine call_Vi X hI (Cj.skip (Cj.skip (Cj.skip (Cj.skip (Cj.skip (Cj.skip (Cj.skip (Cj.skip (Cj.skip (Cj.skip (Cj.skip (Cj.skip (Cj.skip (Cj.skip (Cj.skip (Cj.skip Cj.id)))))))))))))))) (c_X13_size_N l g am qr md (xs (i + 1)) q.1 q.2 hq) ⟨rfl, rfl⟩ ⟨ht _ w_2394, w_2397, ht _ w_155, lk_X13_size⟩ w_2395 w_2396 rfl rfl rfl hl rfl rfl dL_law_1634 rfl rfl hc0 hs0 (fun H locs hI => ?_)
    refine lz_eq D h1 dL_law_1637 (by decide) (kk _ _ _ hl ⟨hk, re, ta, se, co, bo, sb, wb, hi, tr, now, ch, ri, to, q.2, none, an, qr, fo, h2, hI⟩)
  | some tn =>
    have hI : In g (Ah s) s.heap s (wHK g (B 0) (B 1 0) (B 13 0) (B 11 0) (B 10 0) (B 9 0) (B 6 0) (B 3 0) (B 4 0) (B 5 0) (B 12 0) hk ++ (wRe g (B 1) (B 2 0) (B 14 0) re ++ (wTa g (B 2) ta ++ (wSe g (B 3) (B 7 0) se ++ (wWi g (B 4) (B 13 0) (B 8 0) ++ (wCo g (B 5) co ++ (wBo g (B 6) (B 13 0) bo ++ (wBo g (B 7) (B 13 0) sb ++ (wBo g (B 8) (B 13 0) wb ++ (wHi g (B 9) hi ++ (wMo g (B 10) tr ++ (wMo g (B 11) now ++ (wCh g (B 12) ch ++ (wRi g (B 13) ri ++ (wTo g (B 14) to ++ (wOut g qo fo ++ (wMd g am (some (an 0)) qr md ++ (wTn g an tn ++ [])))))))))))))))))) H locs := hI
    refine call_Vi X hI (Cj.skip (Cj.skip (Cj.skip (Cj.skip (Cj.skip (Cj.skip (Cj.skip (Cj.skip (Cj.skip (Cj.skip (Cj.skip (Cj.skip (Cj.skip (Cj.skip (Cj.skip (Cj.skip Cj.id)))))))))))))))) (c_X13_size l g am an qr md tn (xs (i + 1)) q.1 q.2 hq) ⟨rfl, rfl⟩ ⟨ht _ w_2394, w_2397, ht _ w_155, lk_X13_size⟩ w_2395 w_2396 rfl rfl rfl hl rfl rfl dL_law_1634 rfl rfl hc0 hs0 (fun H locs hI => ?_)
    refine lz_eq D h1 dL_law_1637 (by decide) (kk _ _ _ hl ⟨hk, re, ta, se, co, bo, sb, wb, hi, tr, now, ch, ri, to, q.2, (some tn), an, qr, fo, h2, hI⟩)
theorem k_trouble (D : LC p s m meth c b L i xs) (hl : lv_has ls 7 (lo5 b B am qo i)) (hL : LzI g s B am qo H locs) (hm : cells + 24 ≤ room_1.cells) (hm2 : slots + 311 ≤ room_1.slots)
    (kk : ∀ (H : Heap) (locs : List Loc) (ls : Array Slot), lv_has ls 7 (lo5 b B am qo i) → LzI g s B am qo H locs → W p l e room_1 s m #[.ref b] below meth c H locs (cells + 24) (slots + 311) Q (F0 m 1655 ls [])) : W p l e room_1 s m #[.ref b] below meth c H locs cells slots Q (F0 m 1642 ls []) := by
  obtain ⟨hk, re, ta, se, co, bo, sb, wb, hi, tr, now, ch, ri, to, md, ot, an, qr, fo, hV, hI⟩ := hL
  obtain ⟨X, hX, hbl, hi6, hLm⟩ := id D
  obtain ⟨hx, hb, hml, hown, ht, hr, hlk⟩ := id X
  have hc0 : Nat.ble cells room_1.cells = true := Nat.ble_eq_true_of_le (Nat.le_trans (Nat.le_add_right _ _) hm)
  have hs0 : Nat.ble slots room_1.slots = true := Nat.ble_eq_true_of_le (Nat.le_trans (Nat.le_add_right _ _) hm2)
  obtain ⟨q, hq, cr, hc, h1, h2⟩ := i_trouble hV
  refine lv_aload_n hx hb dL_law_1642 rfl (lv_at hl 1 rfl) ?_
  refine call_Vi X hI (Cj.keep Cj.nil) (c_X11_trouble l g (B 0) (B 1 0) (B 13 0) (B 11 0) (B 10 0) (B 9 0) (B 6 0) (B 3 0) (B 4 0) (B 5 0) (B 12 0) hk cr hc) ⟨rfl, rfl⟩ ⟨ht _ w_1500, w_1503, ht _ w_139, lk_X11_trouble⟩ w_1501 w_1502 rfl rfl rfl hl rfl rfl dL_law_1643 rfl rfl hc0 hs0 (fun H locs hI => ?_)
  refine lv_aload_n hx hb dL_law_1646 rfl (lv_at hl 2 rfl) ?_
  cases ot with
  | none =>
    have hI : In g (Ah s) s.heap s (wHK g (B 0) (B 1 0) (B 13 0) (B 11 0) (B 10 0) (B 9 0) (B 6 0) (B 3 0) (B 4 0) (B 5 0) (B 12 0) hk ++ (wRe g (B 1) (B 2 0) (B 14 0) re ++ (wTa g (B 2) ta ++ (wSe g (B 3) (B 7 0) se ++ (wWi g (B 4) (B 13 0) (B 8 0) ++ (wCo g (B 5) co ++ (wBo g (B 6) (B 13 0) bo ++ (wBo g (B 7) (B 13 0) sb ++ (wBo g (B 8) (B 13 0) wb ++ (wHi g (B 9) hi ++ (wMo g (B 10) tr ++ (wMo g (B 11) now ++ (wCh g (B 12) ch ++ (wRi g (B 13) ri ++ (wTo g (B 14) to ++ (wOut g qo fo ++ (wMd g am none qr md ++ []))))))))))))))))) H locs := hI
    refine call_Vi X hI (Cj.skip (Cj.skip (Cj.skip (Cj.skip (Cj.skip (Cj.skip (Cj.skip (Cj.skip (Cj.skip (Cj.skip (Cj.skip (Cj.skip (Cj.skip (Cj.skip (Cj.skip (Cj.skip (Cj.keep Cj.nil))))))))))))))))) (c_X13_trouble l g am none qr md q.1 q.2 hq) ⟨rfl, rfl⟩ ⟨ht _ w_2398, w_2401, ht _ w_155, lk_X13_trouble⟩ w_2399 w_2400 rfl rfl rfl hl rfl rfl dL_law_1647 rfl rfl hc0 hs0 (fun H locs hI => ?_)
    refine lz_eq D h1 dL_law_1650 (by decide) (kk _ _ _ hl ⟨hk, re, ta, se, co, bo, sb, wb, hi, tr, now, ch, ri, to, q.2, none, an, qr, fo, h2, hI⟩)
  | some tn =>
    have hI : In g (Ah s) s.heap s (wHK g (B 0) (B 1 0) (B 13 0) (B 11 0) (B 10 0) (B 9 0) (B 6 0) (B 3 0) (B 4 0) (B 5 0) (B 12 0) hk ++ (wRe g (B 1) (B 2 0) (B 14 0) re ++ (wTa g (B 2) ta ++ (wSe g (B 3) (B 7 0) se ++ (wWi g (B 4) (B 13 0) (B 8 0) ++ (wCo g (B 5) co ++ (wBo g (B 6) (B 13 0) bo ++ (wBo g (B 7) (B 13 0) sb ++ (wBo g (B 8) (B 13 0) wb ++ (wHi g (B 9) hi ++ (wMo g (B 10) tr ++ (wMo g (B 11) now ++ (wCh g (B 12) ch ++ (wRi g (B 13) ri ++ (wTo g (B 14) to ++ (wOut g qo fo ++ (wMd g am (some (an 0)) qr md ++ (wTn g an tn ++ [])))))))))))))))))) H locs := hI
    refine call_Vi X hI (Cj.skip (Cj.skip (Cj.skip (Cj.skip (Cj.skip (Cj.skip (Cj.skip (Cj.skip (Cj.skip (Cj.skip (Cj.skip (Cj.skip (Cj.skip (Cj.skip (Cj.skip (Cj.skip (Cj.keep Cj.nil))))))))))))))))) (c_X13_trouble l g am (some (an 0)) qr md q.1 q.2 hq) ⟨rfl, rfl⟩ ⟨ht _ w_2398, w_2401, ht _ w_155, lk_X13_trouble⟩ w_2399 w_2400 rfl rfl rfl hl rfl rfl dL_law_1647 rfl rfl hc0 hs0 (fun H locs hI => ?_)
    refine lz_eq D h1 dL_law_1650 (by decide) (kk _ _ _ hl ⟨hk, re, ta, se, co, bo, sb, wb, hi, tr, now, ch, ri, to, q.2, (some tn), an, qr, fo, h2, hI⟩)
end LCASES
