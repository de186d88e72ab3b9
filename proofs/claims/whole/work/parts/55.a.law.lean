section LCASES
variable {p : Program} {l : Launch} {e : Env} {s : State} {m : MethodId} {below : List Frame} {meth : Method} {c : Code} {H : Heap} {locs : List Loc} {cells slots : Nat} {Q : State → Prop}
variable {ls : Array Slot} {g : GT} {B : Nat → Nat → Nat} {am : Nat → Nat} {qo b L i : Nat} {xs : Nat → Int32}
theorem k_feed (D : LC p s m meth c b L i xs) (hl : lv_has ls 7 (lo5 b B am qo i)) (hL : LzI g s B am qo H locs) (hm : cells + 24 ≤ room_1.cells) (hm2 : slots + 311 ≤ room_1.slots)
    (kk : ∀ (H : Heap) (locs : List Loc) (ls : Array Slot), lv_has ls 7 (lo5 b B am qo i) → LzI g s B am qo H locs → W p l e room_1 s m #[.ref b] below meth c H locs (cells + 24) (slots + 311) Q (F0 m 1655 ls [])) : W p l e room_1 s m #[.ref b] below meth c H locs cells slots Q (F0 m 252 ls []) := by
  obtain ⟨hk, re, ta, se, co, bo, sb, wb, hi, tr, now, ch, ri, to, md, ot, an, qr, fo, hV, hI⟩ := hL
  obtain ⟨X, hX, hbl, hi6, hLm⟩ := id D
  obtain ⟨hx, hb, hml, hown, ht, hr, hlk⟩ := id X
  have hc0 : Nat.ble cells room_1.cells = true := Nat.ble_eq_true_of_le (Nat.le_trans (Nat.le_add_right _ _) hm)
  have hs0 : Nat.ble slots room_1.slots = true := Nat.ble_eq_true_of_le (Nat.le_trans (Nat.le_add_right _ _) hm2)
  obtain ⟨q, hq, cr, hc, h1, h2⟩ := i_feed hV (xs (i + 1)) (xs (i + 2)) (xs (i + 3)) (xs (i + 4)) (xs (i + 5))
  refine lv_aload_n hx hb dL_law_252 rfl (lv_at hl 1 rfl) ?_
  refine sc_ld (k := 1) D hI hl rfl (by decide) dL_law_253 dL_law_254 dL_law_256 dL_law_257 dL_law_258 ?_
  refine sc_ld (k := 2) D hI hl rfl (by decide) dL_law_259 dL_law_260 dL_law_262 dL_law_263 dL_law_264 ?_
  refine sc_ld (k := 3) D hI hl rfl (by decide) dL_law_265 dL_law_266 dL_law_268 dL_law_269 dL_law_270 ?_
  refine sc_ld (k := 4) D hI hl rfl (by decide) dL_law_271 dL_law_272 dL_law_274 dL_law_275 dL_law_276 ?_
  refine sc_ld (k := 5) D hI hl rfl (by decide) dL_law_277 dL_law_278 dL_law_280 dL_law_281 dL_law_282 ?_
  refine call_Vi X hI (Cj.keep (Cj.keep (Cj.keep Cj.nil))) (c_X11_feed l g (B 0) (B 1) (B 2) (B 13 0) (B 11 0) (B 10 0) (B 9 0) (B 6 0) (B 3 0) (B 4 0) (B 5 0) (B 12 0) (B 14 0) hk re ta (xs (i + 1)) (xs (i + 2)) (xs (i + 3)) (xs (i + 4)) (xs (i + 5)) cr.1 cr.2 hc) ⟨rfl, rfl⟩ ⟨ht _ w_713, w_716, ht _ w_139, lk_X11_feed⟩ w_714 w_715 rfl rfl rfl hl rfl rfl dL_law_283 rfl rfl hc0 hs0 (fun H locs hI => ?_)
  refine lv_aload_n hx hb dL_law_286 rfl (lv_at hl 2 rfl) ?_
  refine sc_ld (k := 1) D hI hl rfl (by decide) dL_law_287 dL_law_288 dL_law_290 dL_law_291 dL_law_292 ?_
  refine sc_ld (k := 2) D hI hl rfl (by decide) dL_law_293 dL_law_294 dL_law_296 dL_law_297 dL_law_298 ?_
  refine sc_ld (k := 3) D hI hl rfl (by decide) dL_law_299 dL_law_300 dL_law_302 dL_law_303 dL_law_304 ?_
  refine sc_ld (k := 4) D hI hl rfl (by decide) dL_law_305 dL_law_306 dL_law_308 dL_law_309 dL_law_310 ?_
  refine sc_ld (k := 5) D hI hl rfl (by decide) dL_law_311 dL_law_312 dL_law_314 dL_law_315 dL_law_316 ?_
  cases ot with
  | none =>
    have hI : In g (Ah s) s.heap s (wHK g (B 0) (B 1 0) (B 13 0) (B 11 0) (B 10 0) (B 9 0) (B 6 0) (B 3 0) (B 4 0) (B 5 0) (B 12 0) hk ++ (wRe g (B 1) (B 2 0) (B 14 0) re ++ (wTa g (B 2) cr.2 ++ (wSe g (B 3) (B 7 0) se ++ (wWi g (B 4) (B 13 0) (B 8 0) ++ (wCo g (B 5) co ++ (wBo g (B 6) (B 13 0) bo ++ (wBo g (B 7) (B 13 0) sb ++ (wBo g (B 8) (B 13 0) wb ++ (wHi g (B 9) hi ++ (wMo g (B 10) tr ++ (wMo g (B 11) now ++ (wCh g (B 12) ch ++ (wRi g (B 13) ri ++ (wTo g (B 14) to ++ (wOut g qo fo ++ (wMd g am none qr md ++ []))))))))))))))))) H locs := hI
    refine call_Vi X hI (Cj.skip (Cj.skip (Cj.skip (Cj.skip (Cj.skip (Cj.skip (Cj.skip (Cj.skip (Cj.skip (Cj.skip (Cj.skip (Cj.skip (Cj.skip (Cj.skip (Cj.skip (Cj.skip (Cj.keep Cj.nil))))))))))))))))) (c_X13_feed l g am none qr md (xs (i + 1)) (xs (i + 2)) (xs (i + 3)) (xs (i + 4)) (xs (i + 5)) q.1 q.2 hq) ⟨rfl, rfl⟩ ⟨ht _ w_1711, w_1714, ht _ w_155, lk_X13_feed⟩ w_1712 w_1713 rfl rfl rfl hl rfl rfl dL_law_317 rfl rfl hc0 hs0 (fun H locs hI => ?_)
    refine lz_eq D h1 dL_law_320 (by decide) (kk _ _ _ hl ⟨hk, re, cr.2, se, co, bo, sb, wb, hi, tr, now, ch, ri, to, q.2, none, an, qr, fo, h2, hI⟩)
  | some tn =>
    have hI : In g (Ah s) s.heap s (wHK g (B 0) (B 1 0) (B 13 0) (B 11 0) (B 10 0) (B 9 0) (B 6 0) (B 3 0) (B 4 0) (B 5 0) (B 12 0) hk ++ (wRe g (B 1) (B 2 0) (B 14 0) re ++ (wTa g (B 2) cr.2 ++ (wSe g (B 3) (B 7 0) se ++ (wWi g (B 4) (B 13 0) (B 8 0) ++ (wCo g (B 5) co ++ (wBo g (B 6) (B 13 0) bo ++ (wBo g (B 7) (B 13 0) sb ++ (wBo g (B 8) (B 13 0) wb ++ (wHi g (B 9) hi ++ (wMo g (B 10) tr ++ (wMo g (B 11) now ++ (wCh g (B 12) ch ++ (wRi g (B 13) ri ++ (wTo g (B 14) to ++ (wOut g qo fo ++ (wMd g am (some (an 0)) qr md ++ (wTn g an tn ++ [])))))))))))))))))) H locs := hI
    refine call_Vi X hI (Cj.skip (Cj.skip (Cj.skip (Cj.skip (Cj.skip (Cj.skip (Cj.skip (Cj.skip (Cj.skip (Cj.skip (Cj.skip (Cj.skip (Cj.skip (Cj.skip (Cj.skip (Cj.skip (Cj.keep Cj.nil))))))))))))))))) (c_X13_feed l g am (some (an 0)) qr md (xs (i + 1)) (xs (i + 2)) (xs (i + 3)) (xs (i + 4)) (xs (i + 5)) q.1 q.2 hq) ⟨rfl, rfl⟩ ⟨ht _ w_1711, w_1714, ht _ w_155, lk_X13_feed⟩ w_1712 w_1713 rfl rfl rfl hl rfl rfl dL_law_317 rfl rfl hc0 hs0 (fun H locs hI => ?_)
    refine lz_eq D h1 dL_law_320 (by decide) (kk _ _ _ hl ⟨hk, re, cr.2, se, co, bo, sb, wb, hi, tr, now, ch, ri, to, q.2, (some tn), an, qr, fo, h2, hI⟩)
theorem k_fault (D : LC p s m meth c b L i xs) (hl : lv_has ls 7 (lo5 b B am qo i)) (hL : LzI g s B am qo H locs) (hm : cells + 24 ≤ room_1.cells) (hm2 : slots + 311 ≤ room_1.slots)
    (kk : ∀ (H : Heap) (locs : List Loc) (ls : Array Slot), lv_has ls 7 (lo5 b B am qo i) → LzI g s B am qo H locs → W p l e room_1 s m #[.ref b] below meth c H locs (cells + 24) (slots + 311) Q (F0 m 1655 ls [])) : W p l e room_1 s m #[.ref b] below meth c H locs cells slots Q (F0 m 350 ls []) := by
  obtain ⟨hk, re, ta, se, co, bo, sb, wb, hi, tr, now, ch, ri, to, md, ot, an, qr, fo, hV, hI⟩ := hL
  obtain ⟨X, hX, hbl, hi6, hLm⟩ := id D
  obtain ⟨hx, hb, hml, hown, ht, hr, hlk⟩ := id X
  have hc0 : Nat.ble cells room_1.cells = true := Nat.ble_eq_true_of_le (Nat.le_trans (Nat.le_add_right _ _) hm)
  have hs0 : Nat.ble slots room_1.slots = true := Nat.ble_eq_true_of_le (Nat.le_trans (Nat.le_add_right _ _) hm2)
  obtain ⟨q, hq, cr, hc, h1, h2⟩ := i_fault hV
  refine lv_aload_n hx hb dL_law_350 rfl (lv_at hl 1 rfl) ?_
  refine call_Vi X hI (Cj.keep (Cj.keep Cj.nil)) (c_X11_fault l g (B 0) (B 1) (B 13 0) (B 11 0) (B 10 0) (B 9 0) (B 6 0) (B 3 0) (B 4 0) (B 5 0) (B 12 0) (B 2 0) (B 14 0) hk re cr hc) ⟨rfl, rfl⟩ ⟨ht _ w_999, w_1002, ht _ w_139, lk_X11_fault⟩ w_1000 w_1001 rfl rfl rfl hl rfl rfl dL_law_351 rfl rfl hc0 hs0 (fun H locs hI => ?_)
  refine lv_aload_n hx hb dL_law_354 rfl (lv_at hl 2 rfl) ?_
  cases ot with
  | none =>
    have hI : In g (Ah s) s.heap s (wHK g (B 0) (B 1 0) (B 13 0) (B 11 0) (B 10 0) (B 9 0) (B 6 0) (B 3 0) (B 4 0) (B 5 0) (B 12 0) hk ++ (wRe g (B 1) (B 2 0) (B 14 0) re ++ (wTa g (B 2) ta ++ (wSe g (B 3) (B 7 0) se ++ (wWi g (B 4) (B 13 0) (B 8 0) ++ (wCo g (B 5) co ++ (wBo g (B 6) (B 13 0) bo ++ (wBo g (B 7) (B 13 0) sb ++ (wBo g (B 8) (B 13 0) wb ++ (wHi g (B 9) hi ++ (wMo g (B 10) tr ++ (wMo g (B 11) now ++ (wCh g (B 12) ch ++ (wRi g (B 13) ri ++ (wTo g (B 14) to ++ (wOut g qo fo ++ (wMd g am none qr md ++ []))))))))))))))))) H locs := hI
    refine call_Vi X hI (Cj.skip (Cj.skip (Cj.skip (Cj.skip (Cj.skip (Cj.skip (Cj.skip (Cj.skip (Cj.skip (Cj.skip (Cj.skip (Cj.skip (Cj.skip (Cj.skip (Cj.skip (Cj.skip (Cj.keep Cj.nil))))))))))))))))) (c_X13_fault l g am none qr md q.1 q.2 hq) ⟨rfl, rfl⟩ ⟨ht _ w_2002, w_2005, ht _ w_155, lk_X13_fault⟩ w_2003 w_2004 rfl rfl rfl hl rfl rfl dL_law_355 rfl rfl hc0 hs0 (fun H locs hI => ?_)
    refine lz_eq D h1 dL_law_358 (by decide) (kk _ _ _ hl ⟨hk, re, ta, se, co, bo, sb, wb, hi, tr, now, ch, ri, to, q.2, none, an, qr, fo, h2, hI⟩)
  | some tn =>
    have hI : In g (Ah s) s.heap s (wHK g (B 0) (B 1 0) (B 13 0) (B 11 0) (B 10 0) (B 9 0) (B 6 0) (B 3 0) (B 4 0) (B 5 0) (B 12 0) hk ++ (wRe g (B 1) (B 2 0) (B 14 0) re ++ (wTa g (B 2) ta ++ (wSe g (B 3) (B 7 0) se ++ (wWi g (B 4) (B 13 0) (B 8 0) ++ (wCo g (B 5) co ++ (wBo g (B 6) (B 13 0) bo ++ (wBo g (B 7) (B 13 0) sb ++ (wBo g (B 8) (B 13 0) wb ++ (wHi g (B 9) hi ++ (wMo g (B 10) tr ++ (wMo g (B 11) now ++ (wCh g (B 12) ch ++ (wRi g (B 13) ri ++ (wTo g (B 14) to ++ (wOut g qo fo ++ (wMd g am (some (an 0)) qr md ++ (wTn g an tn ++ [])))))))))))))))))) H locs := hI
    refine call_Vi X hI (Cj.skip (Cj.skip (Cj.skip (Cj.skip (Cj.skip (Cj.skip (Cj.skip (Cj.skip (Cj.skip (Cj.skip (Cj.skip (Cj.skip (Cj.skip (Cj.skip (Cj.skip (Cj.skip (Cj.keep Cj.nil))))))))))))))))) (c_X13_fault l g am (some (an 0)) qr md q.1 q.2 hq) ⟨rfl, rfl⟩ ⟨ht _ w_2002, w_2005, ht _ w_155, lk_X13_fault⟩ w_2003 w_2004 rfl rfl rfl hl rfl rfl dL_law_355 rfl rfl hc0 hs0 (fun H locs hI => ?_)
    refine lz_eq D h1 dL_law_358 (by decide) (kk _ _ _ hl ⟨hk, re, ta, se, co, bo, sb, wb, hi, tr, now, ch, ri, to, q.2, (some tn), an, qr, fo, h2, hI⟩)
theorem k_where (D : LC p s m meth c b L i xs) (hl : lv_has ls 7 (lo5 b B am qo i)) (hL : LzI g s B am qo H locs) (hm : cells + 24 ≤ room_1.cells) (hm2 : slots + 311 ≤ room_1.slots)
    (kk : ∀ (H : Heap) (locs : List Loc) (ls : Array Slot), lv_has ls 7 (lo5 b B am qo i) → LzI g s B am qo H locs → W p l e room_1 s m #[.ref b] below meth c H locs (cells + 24) (slots + 311) Q (F0 m 1655 ls [])) : W p l e room_1 s m #[.ref b] below meth c H locs cells slots Q (F0 m 363 ls []) := by
  obtain ⟨hk, re, ta, se, co, bo, sb, wb, hi, tr, now, ch, ri, to, md, ot, an, qr, fo, hV, hI⟩ := hL
  obtain ⟨X, hX, hbl, hi6, hLm⟩ := id D
  obtain ⟨hx, hb, hml, hown, ht, hr, hlk⟩ := id X
  have hc0 : Nat.ble cells room_1.cells = true := Nat.ble_eq_true_of_le (Nat.le_trans (Nat.le_add_right _ _) hm)
  have hs0 : Nat.ble slots room_1.slots = true := Nat.ble_eq_true_of_le (Nat.le_trans (Nat.le_add_right _ _) hm2)
  obtain ⟨q, hq, cr, hc, h1, h2⟩ := i_where hV
  refine lv_aload_n hx hb dL_law_363 rfl (lv_at hl 1 rfl) ?_
  refine call_Vi X hI (Cj.keep (Cj.keep Cj.nil)) (c_X11_where l g (B 0) (B 1) (B 13 0) (B 11 0) (B 10 0) (B 9 0) (B 6 0) (B 3 0) (B 4 0) (B 5 0) (B 12 0) (B 2 0) (B 14 0) hk re cr hc) ⟨rfl, rfl⟩ ⟨ht _ w_1003, w_1006, ht _ w_139, lk_X11_where⟩ w_1004 w_1005 rfl rfl rfl hl rfl rfl dL_law_364 rfl rfl hc0 hs0 (fun H locs hI => ?_)
  refine lv_aload_n hx hb dL_law_367 rfl (lv_at hl 2 rfl) ?_
  cases ot with
  | none =>
    have hI : In g (Ah s) s.heap s (wHK g (B 0) (B 1 0) (B 13 0) (B 11 0) (B 10 0) (B 9 0) (B 6 0) (B 3 0) (B 4 0) (B 5 0) (B 12 0) hk ++ (wRe g (B 1) (B 2 0) (B 14 0) re ++ (wTa g (B 2) ta ++ (wSe g (B 3) (B 7 0) se ++ (wWi g (B 4) (B 13 0) (B 8 0) ++ (wCo g (B 5) co ++ (wBo g (B 6) (B 13 0) bo ++ (wBo g (B 7) (B 13 0) sb ++ (wBo g (B 8) (B 13 0) wb ++ (wHi g (B 9) hi ++ (wMo g (B 10) tr ++ (wMo g (B 11) now ++ (wCh g (B 12) ch ++ (wRi g (B 13) ri ++ (wTo g (B 14) to ++ (wOut g qo fo ++ (wMd g am none qr md ++ []))))))))))))))))) H locs := hI
    refine call_Vi X hI (Cj.skip (Cj.skip (Cj.skip (Cj.skip (Cj.skip (Cj.skip (Cj.skip (Cj.skip (Cj.skip (Cj.skip (Cj.skip (Cj.skip (Cj.skip (Cj.skip (Cj.skip (Cj.skip (Cj.keep Cj.nil))))))))))))))))) (c_X13_where l g am none qr md q.1 q.2 hq) ⟨rfl, rfl⟩ ⟨ht _ w_2006, w_2009, ht _ w_155, lk_X13_where⟩ w_2007 w_2008 rfl rfl rfl hl rfl rfl dL_law_368 rfl rfl hc0 hs0 (fun H locs hI => ?_)
    refine lz_eq D h1 dL_law_371 (by decide) (kk _ _ _ hl ⟨hk, re, ta, se, co, bo, sb, wb, hi, tr, now, ch, ri, to, q.2, none, an, qr, fo, h2, hI⟩)
  | some tn =>
    have hI : In g (Ah s) s.heap s (wHK g (B 0) (B 1 0) (B 13 0) (B 11 0) (B 10 0) (B 9 0) (B 6 0) (B 3 0) (B 4 0) (B 5 0) (B 12 0) hk ++ (wRe g (B 1) (B 2 0) (B 14 0) re ++ (wTa g (B 2) ta ++ (wSe g (B 3) (B 7 0) se ++ (wWi g (B 4) (B 13 0) (B 8 0) ++ (wCo g (B 5) co ++ (wBo g (B 6) (B 13 0) bo ++ (wBo g (B 7) (B 13 0) sb ++ (wBo g (B 8) (B 13 0) wb ++ (wHi g (B 9) hi ++ (wMo g (B 10) tr ++ (wMo g (B 11) now ++ (wCh g (B 12) ch ++ (wRi g (B 13) ri ++ (wTo g (B 14) to ++ (wOut g qo fo ++ (wMd g am (some (an 0)) qr md ++ (wTn g an tn ++ [])))))))))))))))))) H locs := hI
    refine call_Vi X hI (Cj.skip (Cj.skip (Cj.skip (Cj.skip (Cj.skip (Cj.skip (Cj.skip (Cj.skip (Cj.skip (Cj.skip (Cj.skip (Cj.skip (Cj.skip (Cj.skip (Cj.skip (Cj.skip (Cj.keep Cj.nil))))))))))))))))) (c_X13_where l g am (some (an 0)) qr md q.1 q.2 hq) ⟨rfl, rfl⟩ ⟨ht _ w_2006, w_2009, ht _ w_155, lk_X13_where⟩ w_2007 w_2008 rfl rfl rfl hl rfl rfl dL_law_368 rfl rfl hc0 hs0 (fun H locs hI => ?_)
    refine lz_eq D h1 dL_law_371 (by decide) (kk _ _ _ hl ⟨hk, re, ta, se, co, bo, sb, wb, hi, tr, now, ch, ri, to, q.2, (some tn), an, qr, fo, h2, hI⟩)
theorem k_ring (D : LC p s m meth c b L i xs) (hl : lv_has ls 7 (lo5 b B am qo i)) (hL : LzI g s B am qo H locs) (hm : cells + 24 ≤ room_1.cells) (hm2 : slots + 311 ≤ room_1.slots)
    (kk : ∀ (H : Heap) (locs : List Loc) (ls : Array Slot), lv_has ls 7 (lo5 b B am qo i) → LzI g s B am qo H locs → W p l e room_1 s m #[.ref b] below meth c H locs (cells + 24) (slots + 311) Q (F0 m 1655 ls [])) : W p l e room_1 s m #[.ref b] below meth c H locs cells slots Q (F0 m 376 ls []) := by
  obtain ⟨hk, re, ta, se, co, bo, sb, wb, hi, tr, now, ch, ri, to, md, ot, an, qr, fo, hV, hI⟩ := hL
  obtain ⟨X, hX, hbl, hi6, hLm⟩ := id D
  obtain ⟨hx, hb, hml, hown, ht, hr, hlk⟩ := id X
  have hc0 : Nat.ble cells room_1.cells = true := Nat.ble_eq_true_of_le (Nat.le_trans (Nat.le_add_right _ _) hm)
  have hs0 : Nat.ble slots room_1.slots = true := Nat.ble_eq_true_of_le (Nat.le_trans (Nat.le_add_right _ _) hm2)
  obtain ⟨q, hq, cr, hc, h1, h2⟩ := i_ring hV (xs (i + 1))
  refine lv_aload_n hx hb dL_law_376 rfl (lv_at hl 1 rfl) ?_
  refine sc_ld (k := 1) D hI hl rfl (by decide) dL_law_377 dL_law_378 dL_law_380 dL_law_381 dL_law_382 ?_
  refine call_Vi X hI (Cj.keep (Cj.skip (Cj.skip (Cj.skip (Cj.skip (Cj.skip (Cj.skip (Cj.skip (Cj.skip (Cj.skip (Cj.skip (Cj.skip (Cj.skip (Cj.keep Cj.nil)))))))))))))) (c_X11_ring l g (B 0) (B 13) (B 1 0) (B 11 0) (B 10 0) (B 9 0) (B 6 0) (B 3 0) (B 4 0) (B 5 0) (B 12 0) hk ri (xs (i + 1)) cr.1 cr.2 hc) ⟨rfl, rfl⟩ ⟨ht _ w_1007, w_1010, ht _ w_139, lk_X11_ring⟩ w_1008 w_1009 rfl rfl rfl hl rfl rfl dL_law_383 rfl rfl hc0 hs0 (fun H locs hI => ?_)
  refine lv_aload_n hx hb dL_law_386 rfl (lv_at hl 2 rfl) ?_
  refine sc_ld (k := 1) D hI hl rfl (by decide) dL_law_387 dL_law_388 dL_law_390 dL_law_391 dL_law_392 ?_
  cases ot with
  | none =>
    have hI : In g (Ah s) s.heap s (wHK g (B 0) (B 1 0) (B 13 0) (B 11 0) (B 10 0) (B 9 0) (B 6 0) (B 3 0) (B 4 0) (B 5 0) (B 12 0) cr.2 ++ (wRe g (B 1) (B 2 0) (B 14 0) re ++ (wTa g (B 2) ta ++ (wSe g (B 3) (B 7 0) se ++ (wWi g (B 4) (B 13 0) (B 8 0) ++ (wCo g (B 5) co ++ (wBo g (B 6) (B 13 0) bo ++ (wBo g (B 7) (B 13 0) sb ++ (wBo g (B 8) (B 13 0) wb ++ (wHi g (B 9) hi ++ (wMo g (B 10) tr ++ (wMo g (B 11) now ++ (wCh g (B 12) ch ++ (wRi g (B 13) ri ++ (wTo g (B 14) to ++ (wOut g qo fo ++ (wMd g am none qr md ++ []))))))))))))))))) H locs := hI
    refine call_Vi X hI (Cj.skip (Cj.skip (Cj.skip (Cj.skip (Cj.skip (Cj.skip (Cj.skip (Cj.skip (Cj.skip (Cj.skip (Cj.skip (Cj.skip (Cj.skip (Cj.skip (Cj.skip (Cj.skip Cj.id)))))))))))))))) (c_X13_ring_N l g am qr md (xs (i + 1)) q.1 q.2 hq) ⟨rfl, rfl⟩ ⟨ht _ w_2010, w_2013, ht _ w_155, lk_X13_ring⟩ w_2011 w_2012 rfl rfl rfl hl rfl rfl dL_law_393 rfl rfl hc0 hs0 (fun H locs hI => ?_)
    refine lz_eq D h1 dL_law_396 (by decide) (kk _ _ _ hl ⟨cr.2, re, ta, se, co, bo, sb, wb, hi, tr, now, ch, ri, to, q.2, none, an, qr, fo, h2, hI⟩)
  | some tn =>
    have hI : In g (Ah s) s.heap s (wHK g (B 0) (B 1 0) (B 13 0) (B 11 0) (B 10 0) (B 9 0) (B 6 0) (B 3 0) (B 4 0) (B 5 0) (B 12 0) cr.2 ++ (wRe g (B 1) (B 2 0) (B 14 0) re ++ (wTa g (B 2) ta ++ (wSe g (B 3) (B 7 0) se ++ (wWi g (B 4) (B 13 0) (B 8 0) ++ (wCo g (B 5) co ++ (wBo g (B 6) (B 13 0) bo ++ (wBo g (B 7) (B 13 0) sb ++ (wBo g (B 8) (B 13 0) wb ++ (wHi g (B 9) hi ++ (wMo g (B 10) tr ++ (wMo g (B 11) now ++ (wCh g (B 12) ch ++ (wRi g (B 13) ri ++ (wTo g (B 14) to ++ (wOut g qo fo ++ (wMd g am (some (an 0)) qr md ++ (wTn g an tn ++ [])))))))))))))))))) H locs := hI
    refine call_Vi X hI (Cj.skip (Cj.skip (Cj.skip (Cj.skip (Cj.skip (Cj.skip (Cj.skip (Cj.skip (Cj.skip (Cj.skip (Cj.skip (Cj.skip (Cj.skip (Cj.skip (Cj.skip (Cj.skip Cj.id)))))))))))))))) (c_X13_ring l g am an qr md tn (xs (i + 1)) q.1 q.2 hq) ⟨rfl, rfl⟩ ⟨ht _ w_2010, w_2013, ht _ w_155, lk_X13_ring⟩ w_2011 w_2012 rfl rfl rfl hl rfl rfl dL_law_393 rfl rfl hc0 hs0 (fun H locs hI => ?_)
    refine lz_eq D h1 dL_law_396 (by decide) (kk _ _ _ hl ⟨cr.2, re, ta, se, co, bo, sb, wb, hi, tr, now, ch, ri, to, q.2, (some tn), an, qr, fo, h2, hI⟩)
theorem k_people (D : LC p s m meth c b L i xs) (hl : lv_has ls 7 (lo5 b B am qo i)) (hL : LzI g s B am qo H locs) (hm : cells + 24 ≤ room_1.cells) (hm2 : slots + 311 ≤ room_1.slots)
    (kk : ∀ (H : Heap) (locs : List Loc) (ls : Array Slot), lv_has ls 7 (lo5 b B am qo i) → LzI g s B am qo H locs → W p l e room_1 s m #[.ref b] below meth c H locs (cells + 24) (slots + 311) Q (F0 m 1655 ls [])) : W p l e room_1 s m #[.ref b] below meth c H locs cells slots Q (F0 m 401 ls []) := by
  obtain ⟨hk, re, ta, se, co, bo, sb, wb, hi, tr, now, ch, ri, to, md, ot, an, qr, fo, hV, hI⟩ := hL
  obtain ⟨X, hX, hbl, hi6, hLm⟩ := id D
  obtain ⟨hx, hb, hml, hown, ht, hr, hlk⟩ := id X
  have hc0 : Nat.ble cells room_1.cells = true := Nat.ble_eq_true_of_le (Nat.le_trans (Nat.le_add_right _ _) hm)
  have hs0 : Nat.ble slots room_1.slots = true := Nat.ble_eq_true_of_le (Nat.le_trans (Nat.le_add_right _ _) hm2)
  obtain ⟨q, hq, cr, hc, h1, h2⟩ := i_people hV (xs (i + 1))
  refine lv_aload_n hx hb dL_law_401 rfl (lv_at hl 1 rfl) ?_
  refine sc_ld (k := 1) D hI hl rfl (by decide) dL_law_402 dL_law_403 dL_law_405 dL_law_406 dL_law_407 ?_
  refine call_Vi X hI (Cj.keep (Cj.skip (Cj.skip (Cj.skip (Cj.skip (Cj.skip (Cj.skip (Cj.skip (Cj.skip (Cj.skip (Cj.skip (Cj.skip (Cj.skip (Cj.keep Cj.nil)))))))))))))) (c_X11_people l g (B 0) (B 13) (B 1 0) (B 11 0) (B 10 0) (B 9 0) (B 6 0) (B 3 0) (B 4 0) (B 5 0) (B 12 0) hk ri (xs (i + 1)) cr.1 cr.2 hc) ⟨rfl, rfl⟩ ⟨ht _ w_1016, w_1019, ht _ w_139, lk_X11_people⟩ w_1017 w_1018 rfl rfl rfl hl rfl rfl dL_law_408 rfl rfl hc0 hs0 (fun H locs hI => ?_)
  refine lv_aload_n hx hb dL_law_411 rfl (lv_at hl 2 rfl) ?_
  refine sc_ld (k := 1) D hI hl rfl (by decide) dL_law_412 dL_law_413 dL_law_415 dL_law_416 dL_law_417 ?_
  cases ot with
  | none =>
    have hI : In g (Ah s) s.heap s (wHK g (B 0) (B 1 0) (B 13 0) (B 11 0) (B 10 0) (B 9 0) (B 6 0) (B 3 0) (B 4 0) (B 5 0) (B 12 0) cr.2 ++ (wRe g (B 1) (B 2 0) (B 14 0) re ++ (wTa g (B 2) ta ++ (wSe g (B 3) (B 7 0) se ++ (wWi g (B 4) (B 13 0) (B 8 0) ++ (wCo g (B 5) co ++ (wBo g (B 6) (B 13 0) bo ++ (wBo g (B 7) (B 13 0) sb ++ (wBo g (B 8) (B 13 0) wb ++ (wHi g (B 9) hi ++ (wMo g (B 10) tr ++ (wMo g (B 11) now ++ (wCh g (B 12) ch ++ (wRi g (B 13) ri ++ (wTo g (B 14) to ++ (wOut g qo fo ++ (wMd g am none qr md ++ []))))))))))))))))) H locs := hI
    refine call_Vi X hI (Cj.skip (Cj.skip (Cj.skip (Cj.skip (Cj.skip (Cj.skip (Cj.skip (Cj.skip (Cj.skip (Cj.skip (Cj.skip (Cj.skip (Cj.skip (Cj.skip (Cj.skip (Cj.skip Cj.id)))))))))))))))) (c_X13_people_N l g am qr md (xs (i + 1)) q.1 q.2 hq) ⟨rfl, rfl⟩ ⟨ht _ w_2018, w_2021, ht _ w_155, lk_X13_people⟩ w_2019 w_2020 rfl rfl rfl hl rfl rfl dL_law_418 rfl rfl hc0 hs0 (fun H locs hI => ?_)
    refine lz_eq D h1 dL_law_421 (by decide) (kk _ _ _ hl ⟨cr.2, re, ta, se, co, bo, sb, wb, hi, tr, now, ch, ri, to, q.2, none, an, qr, fo, h2, hI⟩)
  | some tn =>
    have hI : In g (Ah s) s.heap s (wHK g (B 0) (B 1 0) (B 13 0) (B 11 0) (B 10 0) (B 9 0) (B 6 0) (B 3 0) (B 4 0) (B 5 0) (B 12 0) cr.2 ++ (wRe g (B 1) (B 2 0) (B 14 0) re ++ (wTa g (B 2) ta ++ (wSe g (B 3) (B 7 0) se ++ (wWi g (B 4) (B 13 0) (B 8 0) ++ (wCo g (B 5) co ++ (wBo g (B 6) (B 13 0) bo ++ (wBo g (B 7) (B 13 0) sb ++ (wBo g (B 8) (B 13 0) wb ++ (wHi g (B 9) hi ++ (wMo g (B 10) tr ++ (wMo g (B 11) now ++ (wCh g (B 12) ch ++ (wRi g (B 13) ri ++ (wTo g (B 14) to ++ (wOut g qo fo ++ (wMd g am (some (an 0)) qr md ++ (wTn g an tn ++ [])))))))))))))))))) H locs := hI
    refine call_Vi X hI (Cj.skip (Cj.skip (Cj.skip (Cj.skip (Cj.skip (Cj.skip (Cj.skip (Cj.skip (Cj.skip (Cj.skip (Cj.skip (Cj.skip (Cj.skip (Cj.skip (Cj.skip (Cj.skip Cj.id)))))))))))))))) (c_X13_people l g am an qr md tn (xs (i + 1)) q.1 q.2 hq) ⟨rfl, rfl⟩ ⟨ht _ w_2018, w_2021, ht _ w_155, lk_X13_people⟩ w_2019 w_2020 rfl rfl rfl hl rfl rfl dL_law_418 rfl rfl hc0 hs0 (fun H locs hI => ?_)
    refine lz_eq D h1 dL_law_421 (by decide) (kk _ _ _ hl ⟨cr.2, re, ta, se, co, bo, sb, wb, hi, tr, now, ch, ri, to, q.2, (some tn), an, qr, fo, h2, hI⟩)
theorem k_member (D : LC p s m meth c b L i xs) (hl : lv_has ls 7 (lo5 b B am qo i)) (hL : LzI g s B am qo H locs) (hm : cells + 24 ≤ room_1.cells) (hm2 : slots + 311 ≤ room_1.slots)
    (kk : ∀ (H : Heap) (locs : List Loc) (ls : Array Slot), lv_has ls 7 (lo5 b B am qo i) → LzI g s B am qo H locs → W p l e room_1 s m #[.ref b] below meth c H locs (cells + 24) (slots + 311) Q (F0 m 1655 ls [])) : W p l e room_1 s m #[.ref b] below meth c H locs cells slots Q (F0 m 426 ls []) := by
  obtain ⟨hk, re, ta, se, co, bo, sb, wb, hi, tr, now, ch, ri, to, md, ot, an, qr, fo, hV, hI⟩ := hL
  obtain ⟨X, hX, hbl, hi6, hLm⟩ := id D
  obtain ⟨hx, hb, hml, hown, ht, hr, hlk⟩ := id X
  have hc0 : Nat.ble cells room_1.cells = true := Nat.ble_eq_true_of_le (Nat.le_trans (Nat.le_add_right _ _) hm)
  have hs0 : Nat.ble slots room_1.slots = true := Nat.ble_eq_true_of_le (Nat.le_trans (Nat.le_add_right _ _) hm2)
  obtain ⟨q, hq, cr, hc, h1, h2⟩ := i_member hV (xs (i + 1)) (xs (i + 2))
  refine lv_aload_n hx hb dL_law_426 rfl (lv_at hl 1 rfl) ?_
  refine sc_ld (k := 1) D hI hl rfl (by decide) dL_law_427 dL_law_428 dL_law_430 dL_law_431 dL_law_432 ?_
  refine sc_ld (k := 2) D hI hl rfl (by decide) dL_law_433 dL_law_434 dL_law_436 dL_law_437 dL_law_438 ?_
  refine call_Vi X hI (Cj.keep (Cj.skip (Cj.skip (Cj.skip (Cj.skip (Cj.skip (Cj.skip (Cj.skip (Cj.skip (Cj.skip (Cj.skip (Cj.skip (Cj.skip (Cj.keep Cj.nil)))))))))))))) (c_X11_member l g (B 0) (B 13) (B 1 0) (B 11 0) (B 10 0) (B 9 0) (B 6 0) (B 3 0) (B 4 0) (B 5 0) (B 12 0) hk ri (xs (i + 1)) (xs (i + 2)) cr.1 cr.2 hc) ⟨rfl, rfl⟩ ⟨ht _ w_1028, w_1031, ht _ w_139, lk_X11_member⟩ w_1029 w_1030 rfl rfl rfl hl rfl rfl dL_law_439 rfl rfl hc0 hs0 (fun H locs hI => ?_)
  refine lv_aload_n hx hb dL_law_442 rfl (lv_at hl 2 rfl) ?_
  refine sc_ld (k := 1) D hI hl rfl (by decide) dL_law_443 dL_law_444 dL_law_446 dL_law_447 dL_law_448 ?_
  refine sc_ld (k := 2) D hI hl rfl (by decide) dL_law_449 dL_law_450 dL_law_452 dL_law_453 dL_law_454 ?_
  cases ot with
  | none =>
    have hI : In g (Ah s) s.heap s (wHK g (B 0) (B 1 0) (B 13 0) (B 11 0) (B 10 0) (B 9 0) (B 6 0) (B 3 0) (B 4 0) (B 5 0) (B 12 0) cr.2 ++ (wRe g (B 1) (B 2 0) (B 14 0) re ++ (wTa g (B 2) ta ++ (wSe g (B 3) (B 7 0) se ++ (wWi g (B 4) (B 13 0) (B 8 0) ++ (wCo g (B 5) co ++ (wBo g (B 6) (B 13 0) bo ++ (wBo g (B 7) (B 13 0) sb ++ (wBo g (B 8) (B 13 0) wb ++ (wHi g (B 9) hi ++ (wMo g (B 10) tr ++ (wMo g (B 11) now ++ (wCh g (B 12) ch ++ (wRi g (B 13) ri ++ (wTo g (B 14) to ++ (wOut g qo fo ++ (wMd g am none qr md ++ []))))))))))))))))) H locs := hI
    refine call_Vi X hI (Cj.skip (Cj.skip (Cj.skip (Cj.skip (Cj.skip (Cj.skip (Cj.skip (Cj.skip (Cj.skip (Cj.skip (Cj.skip (Cj.skip (Cj.skip (Cj.skip (Cj.skip (Cj.skip Cj.id)))))))))))))))) (c_X13_member_N l g am qr md (xs (i + 1)) (xs (i + 2)) q.1 q.2 hq) ⟨rfl, rfl⟩ ⟨ht _ w_2026, w_2029, ht _ w_155, lk_X13_member⟩ w_2027 w_2028 rfl rfl rfl hl rfl rfl dL_law_455 rfl rfl hc0 hs0 (fun H locs hI => ?_)
    refine lz_eq D h1 dL_law_458 (by decide) (kk _ _ _ hl ⟨cr.2, re, ta, se, co, bo, sb, wb, hi, tr, now, ch, ri, to, q.2, none, an, qr, fo, h2, hI⟩)
  | some tn =>
    have hI : In g (Ah s) s.heap s (wHK g (B 0) (B 1 0) (B 13 0) (B 11 0) (B 10 0) (B 9 0) (B 6 0) (B 3 0) (B 4 0) (B 5 0) (B 12 0) cr.2 ++ (wRe g (B 1) (B 2 0) (B 14 0) re ++ (wTa g (B 2) ta ++ (wSe g (B 3) (B 7 0) se ++ (wWi g (B 4) (B 13 0) (B 8 0) ++ (wCo g (B 5) co ++ (wBo g (B 6) (B 13 0) bo ++ (wBo g (B 7) (B 13 0) sb ++ (wBo g (B 8) (B 13 0) wb ++ (wHi g (B 9) hi ++ (wMo g (B 10) tr ++ (wMo g (B 11) now ++ (wCh g (B 12) ch ++ (wRi g (B 13) ri ++ (wTo g (B 14) to ++ (wOut g qo fo ++ (wMd g am (some (an 0)) qr md ++ (wTn g an tn ++ [])))))))))))))))))) H locs := hI
    refine call_Vi X hI (Cj.skip (Cj.skip (Cj.skip (Cj.skip (Cj.skip (Cj.skip (Cj.skip (Cj.skip (Cj.skip (Cj.skip (Cj.skip (Cj.skip (Cj.skip (Cj.skip (Cj.skip (Cj.skip Cj.id)))))))))))))))) (c_X13_member l g am an qr md tn (xs (i + 1)) (xs (i + 2)) q.1 q.2 hq) ⟨rfl, rfl⟩ ⟨ht _ w_2026, w_2029, ht _ w_155, lk_X13_member⟩ w_2027 w_2028 rfl rfl rfl hl rfl rfl dL_law_455 rfl rfl hc0 hs0 (fun H locs hI => ?_)
    refine lz_eq D h1 dL_law_458 (by decide) (kk _ _ _ hl ⟨cr.2, re, ta, se, co, bo, sb, wb, hi, tr, now, ch, ri, to, q.2, (some tn), an, qr, fo, h2, hI⟩)
theorem k_holds (D : LC p s m meth c b L i xs) (hl : lv_has ls 7 (lo5 b B am qo i)) (hL : LzI g s B am qo H locs) (hm : cells + 24 ≤ room_1.cells) (hm2 : slots + 311 ≤ room_1.slots)
    (kk : ∀ (H : Heap) (locs : List Loc) (ls : Array Slot), lv_has ls 7 (lo5 b B am qo i) → LzI g s B am qo H locs → W p l e room_1 s m #[.ref b] below meth c H locs (cells + 24) (slots + 311) Q (F0 m 1655 ls [])) : W p l e room_1 s m #[.ref b] below meth c H locs cells slots Q (F0 m 463 ls []) := by
  obtain ⟨hk, re, ta, se, co, bo, sb, wb, hi, tr, now, ch, ri, to, md, ot, an, qr, fo, hV, hI⟩ := hL
  obtain ⟨X, hX, hbl, hi6, hLm⟩ := id D
  obtain ⟨hx, hb, hml, hown, ht, hr, hlk⟩ := id X
  have hc0 : Nat.ble cells room_1.cells = true := Nat.ble_eq_true_of_le (Nat.le_trans (Nat.le_add_right _ _) hm)
  have hs0 : Nat.ble slots room_1.slots = true := Nat.ble_eq_true_of_le (Nat.le_trans (Nat.le_add_right _ _) hm2)
  obtain ⟨q, hq, cr, hc, h1, h2⟩ := i_holds hV (xs (i + 1)) (decide (xs (i + 2) ≠ 0))
  refine lv_aload_n hx hb dL_law_463 rfl (lv_at hl 1 rfl) ?_
  refine sc_ld (k := 1) D hI hl rfl (by decide) dL_law_464 dL_law_465 dL_law_467 dL_law_468 dL_law_469 ?_
  refine sc_ld (k := 2) D hI hl rfl (by decide) dL_law_470 dL_law_471 dL_law_473 dL_law_474 dL_law_475 ?_
  refine sc_bool D dL_law_476 dL_law_479 dL_law_480 dL_law_483 ?_
  refine call_Vi X hI (Cj.keep (Cj.skip (Cj.skip (Cj.skip (Cj.skip (Cj.skip (Cj.skip (Cj.skip (Cj.skip (Cj.skip (Cj.skip (Cj.skip (Cj.skip (Cj.keep Cj.nil)))))))))))))) (c_X11_holds l g (B 0) (B 13) (B 1 0) (B 11 0) (B 10 0) (B 9 0) (B 6 0) (B 3 0) (B 4 0) (B 5 0) (B 12 0) hk ri (xs (i + 1)) (bI (decide (xs (i + 2) ≠ 0))) cr.1 cr.2 hc) ⟨rfl, rfl⟩ ⟨ht _ w_1032, w_1035, ht _ w_139, lk_X11_holds⟩ w_1033 w_1034 rfl rfl rfl hl rfl rfl dL_law_484 rfl rfl hc0 hs0 (fun H locs hI => ?_)
  refine lv_aload_n hx hb dL_law_487 rfl (lv_at hl 2 rfl) ?_
  refine sc_ld (k := 1) D hI hl rfl (by decide) dL_law_488 dL_law_489 dL_law_491 dL_law_492 dL_law_493 ?_
  refine sc_ld (k := 2) D hI hl rfl (by decide) dL_law_494 dL_law_495 dL_law_497 dL_law_498 dL_law_499 ?_
  refine sc_bool D dL_law_500 dL_law_503 dL_law_504 dL_law_507 ?_
  cases ot with
  | none =>
    have hI : In g (Ah s) s.heap s (wHK g (B 0) (B 1 0) (B 13 0) (B 11 0) (B 10 0) (B 9 0) (B 6 0) (B 3 0) (B 4 0) (B 5 0) (B 12 0) cr.2 ++ (wRe g (B 1) (B 2 0) (B 14 0) re ++ (wTa g (B 2) ta ++ (wSe g (B 3) (B 7 0) se ++ (wWi g (B 4) (B 13 0) (B 8 0) ++ (wCo g (B 5) co ++ (wBo g (B 6) (B 13 0) bo ++ (wBo g (B 7) (B 13 0) sb ++ (wBo g (B 8) (B 13 0) wb ++ (wHi g (B 9) hi ++ (wMo g (B 10) tr ++ (wMo g (B 11) now ++ (wCh g (B 12) ch ++ (wRi g (B 13) ri ++ (wTo g (B 14) to ++ (wOut g qo fo ++ (wMd g am none qr md ++ []))))))))))))))))) H locs := hI
    refine call_Vi X hI (Cj.skip (Cj.skip (Cj.skip (Cj.skip (Cj.skip (Cj.skip (Cj.skip (Cj.skip (Cj.skip (Cj.skip (Cj.skip (Cj.skip (Cj.skip (Cj.skip (Cj.skip (Cj.skip Cj.id)))))))))))))))) (c_X13_holds_N l g am qr md (xs (i + 1)) (bI (decide (xs (i + 2) ≠ 0))) q.1 q.2 hq) ⟨rfl, rfl⟩ ⟨ht _ w_2030, w_2033, ht _ w_155, lk_X13_holds⟩ w_2031 w_2032 rfl rfl rfl hl rfl rfl dL_law_508 rfl rfl hc0 hs0 (fun H locs hI => ?_)
    refine lz_eq D h1 dL_law_511 (by decide) (kk _ _ _ hl ⟨cr.2, re, ta, se, co, bo, sb, wb, hi, tr, now, ch, ri, to, q.2, none, an, qr, fo, h2, hI⟩)
  | some tn =>
    have hI : In g (Ah s) s.heap s (wHK g (B 0) (B 1 0) (B 13 0) (B 11 0) (B 10 0) (B 9 0) (B 6 0) (B 3 0) (B 4 0) (B 5 0) (B 12 0) cr.2 ++ (wRe g (B 1) (B 2 0) (B 14 0) re ++ (wTa g (B 2) ta ++ (wSe g (B 3) (B 7 0) se ++ (wWi g (B 4) (B 13 0) (B 8 0) ++ (wCo g (B 5) co ++ (wBo g (B 6) (B 13 0) bo ++ (wBo g (B 7) (B 13 0) sb ++ (wBo g (B 8) (B 13 0) wb ++ (wHi g (B 9) hi ++ (wMo g (B 10) tr ++ (wMo g (B 11) now ++ (wCh g (B 12) ch ++ (wRi g (B 13) ri ++ (wTo g (B 14) to ++ (wOut g qo fo ++ (wMd g am (some (an 0)) qr md ++ (wTn g an tn ++ [])))))))))))))))))) H locs := hI
    refine call_Vi X hI (Cj.skip (Cj.skip (Cj.skip (Cj.skip (Cj.skip (Cj.skip (Cj.skip (Cj.skip (Cj.skip (Cj.skip (Cj.skip (Cj.skip (Cj.skip (Cj.skip (Cj.skip (Cj.skip Cj.id)))))))))))))))) (c_X13_holds l g am an qr md tn (xs (i + 1)) (bI (decide (xs (i + 2) ≠ 0))) q.1 q.2 hq) ⟨rfl, rfl⟩ ⟨ht _ w_2030, w_2033, ht _ w_155, lk_X13_holds⟩ w_2031 w_2032 rfl rfl rfl hl rfl rfl dL_law_508 rfl rfl hc0 hs0 (fun H locs hI => ?_)
    refine lz_eq D h1 dL_law_511 (by decide) (kk _ _ _ hl ⟨cr.2, re, ta, se, co, bo, sb, wb, hi, tr, now, ch, ri, to, q.2, (some tn), an, qr, fo, h2, hI⟩)
theorem k_along (D : LC p s m meth c b L i xs) (hl : lv_has ls 7 (lo5 b B am qo i)) (hL : LzI g s B am qo H locs) (hm : cells + 24 ≤ room_1.cells) (hm2 : slots + 311 ≤ room_1.slots)
    (kk : ∀ (H : Heap) (locs : List Loc) (ls : Array Slot), lv_has ls 7 (lo5 b B am qo i) → LzI g s B am qo H locs → W p l e room_1 s m #[.ref b] below meth c H locs (cells + 24) (slots + 311) Q (F0 m 1655 ls [])) : W p l e room_1 s m #[.ref b] below meth c H locs cells slots Q (F0 m 516 ls []) := by
  obtain ⟨hk, re, ta, se, co, bo, sb, wb, hi, tr, now, ch, ri, to, md, ot, an, qr, fo, hV, hI⟩ := hL
  obtain ⟨X, hX, hbl, hi6, hLm⟩ := id D
  obtain ⟨hx, hb, hml, hown, ht, hr, hlk⟩ := id X
  have hc0 : Nat.ble cells room_1.cells = true := Nat.ble_eq_true_of_le (Nat.le_trans (Nat.le_add_right _ _) hm)
  have hs0 : Nat.ble slots room_1.slots = true := Nat.ble_eq_true_of_le (Nat.le_trans (Nat.le_add_right _ _) hm2)
  obtain ⟨q, hq, cr, hc, h1, h2⟩ := i_along hV (xs (i + 1))
  refine lv_aload_n hx hb dL_law_516 rfl (lv_at hl 1 rfl) ?_
  refine sc_ld (k := 1) D hI hl rfl (by decide) dL_law_517 dL_law_518 dL_law_520 dL_law_521 dL_law_522 ?_
  refine call_Vi X hI (Cj.keep (Cj.skip (Cj.skip (Cj.skip (Cj.skip (Cj.skip (Cj.skip (Cj.skip (Cj.skip (Cj.skip (Cj.skip (Cj.skip (Cj.skip (Cj.keep Cj.nil)))))))))))))) (c_X11_along l g (B 0) (B 13) (B 1 0) (B 11 0) (B 10 0) (B 9 0) (B 6 0) (B 3 0) (B 4 0) (B 5 0) (B 12 0) hk ri (xs (i + 1)) cr.1 cr.2 hc) ⟨rfl, rfl⟩ ⟨ht _ w_1036, w_1039, ht _ w_139, lk_X11_along⟩ w_1037 w_1038 rfl rfl rfl hl rfl rfl dL_law_523 rfl rfl hc0 hs0 (fun H locs hI => ?_)
  refine lv_aload_n hx hb dL_law_526 rfl (lv_at hl 2 rfl) ?_
  refine sc_ld (k := 1) D hI hl rfl (by decide) dL_law_527 dL_law_528 dL_law_530 dL_law_531 dL_law_532 ?_
  cases ot with
  | none =>
    have hI : In g (Ah s) s.heap s (wHK g (B 0) (B 1 0) (B 13 0) (B 11 0) (B 10 0) (B 9 0) (B 6 0) (B 3 0) (B 4 0) (B 5 0) (B 12 0) cr.2 ++ (wRe g (B 1) (B 2 0) (B 14 0) re ++ (wTa g (B 2) ta ++ (wSe g (B 3) (B 7 0) se ++ (wWi g (B 4) (B 13 0) (B 8 0) ++ (wCo g (B 5) co ++ (wBo g (B 6) (B 13 0) bo ++ (wBo g (B 7) (B 13 0) sb ++ (wBo g (B 8) (B 13 0) wb ++ (wHi g (B 9) hi ++ (wMo g (B 10) tr ++ (wMo g (B 11) now ++ (wCh g (B 12) ch ++ (wRi g (B 13) ri ++ (wTo g (B 14) to ++ (wOut g qo fo ++ (wMd g am none qr md ++ []))))))))))))))))) H locs := hI
    refine call_Vi X hI (Cj.skip (Cj.skip (Cj.skip (Cj.skip (Cj.skip (Cj.skip (Cj.skip (Cj.skip (Cj.skip (Cj.skip (Cj.skip (Cj.skip (Cj.skip (Cj.skip (Cj.skip (Cj.skip Cj.id)))))))))))))))) (c_X13_along_N l g am qr md (xs (i + 1)) q.1 q.2 hq) ⟨rfl, rfl⟩ ⟨ht _ w_2035, w_2038, ht _ w_155, lk_X13_along⟩ w_2036 w_2037 rfl rfl rfl hl rfl rfl dL_law_533 rfl rfl hc0 hs0 (fun H locs hI => ?_)
    refine lz_eq D h1 dL_law_536 (by decide) (kk _ _ _ hl ⟨cr.2, re, ta, se, co, bo, sb, wb, hi, tr, now, ch, ri, to, q.2, none, an, qr, fo, h2, hI⟩)
  | some tn =>
    have hI : In g (Ah s) s.heap s (wHK g (B 0) (B 1 0) (B 13 0) (B 11 0) (B 10 0) (B 9 0) (B 6 0) (B 3 0) (B 4 0) (B 5 0) (B 12 0) cr.2 ++ (wRe g (B 1) (B 2 0) (B 14 0) re ++ (wTa g (B 2) ta ++ (wSe g (B 3) (B 7 0) se ++ (wWi g (B 4) (B 13 0) (B 8 0) ++ (wCo g (B 5) co ++ (wBo g (B 6) (B 13 0) bo ++ (wBo g (B 7) (B 13 0) sb ++ (wBo g (B 8) (B 13 0) wb ++ (wHi g (B 9) hi ++ (wMo g (B 10) tr ++ (wMo g (B 11) now ++ (wCh g (B 12) ch ++ (wRi g (B 13) ri ++ (wTo g (B 14) to ++ (wOut g qo fo ++ (wMd g am (some (an 0)) qr md ++ (wTn g an tn ++ [])))))))))))))))))) H locs := hI
    refine call_Vi X hI (Cj.skip (Cj.skip (Cj.skip (Cj.skip (Cj.skip (Cj.skip (Cj.skip (Cj.skip (Cj.skip (Cj.skip (Cj.skip (Cj.skip (Cj.skip (Cj.skip (Cj.skip (Cj.skip Cj.id)))))))))))))))) (c_X13_along l g am an qr md tn (xs (i + 1)) q.1 q.2 hq) ⟨rfl, rfl⟩ ⟨ht _ w_2035, w_2038, ht _ w_155, lk_X13_along⟩ w_2036 w_2037 rfl rfl rfl hl rfl rfl dL_law_533 rfl rfl hc0 hs0 (fun H locs hI => ?_)
    refine lz_eq D h1 dL_law_536 (by decide) (kk _ _ _ hl ⟨cr.2, re, ta, se, co, bo, sb, wb, hi, tr, now, ch, ri, to, q.2, (some tn), an, qr, fo, h2, hI⟩)
theorem k_stands (D : LC p s m meth c b L i xs) (hl : lv_has ls 7 (lo5 b B am qo i)) (hL : LzI g s B am qo H locs) (hm : cells + 24 ≤ room_1.cells) (hm2 : slots + 311 ≤ room_1.slots)
    (kk : ∀ (H : Heap) (locs : List Loc) (ls : Array Slot), lv_has ls 7 (lo5 b B am qo i) → LzI g s B am qo H locs → W p l e room_1 s m #[.ref b] below meth c H locs (cells + 24) (slots + 311) Q (F0 m 1655 ls [])) : W p l e room_1 s m #[.ref b] below meth c H locs cells slots Q (F0 m 541 ls []) := by
  obtain ⟨hk, re, ta, se, co, bo, sb, wb, hi, tr, now, ch, ri, to, md, ot, an, qr, fo, hV, hI⟩ := hL
  obtain ⟨X, hX, hbl, hi6, hLm⟩ := id D
  obtain ⟨hx, hb, hml, hown, ht, hr, hlk⟩ := id X
  have hc0 : Nat.ble cells room_1.cells = true := Nat.ble_eq_true_of_le (Nat.le_trans (Nat.le_add_right _ _) hm)
  have hs0 : Nat.ble slots room_1.slots = true := Nat.ble_eq_true_of_le (Nat.le_trans (Nat.le_add_right _ _) hm2)
  obtain ⟨q, hq, cr, hc, h1, h2⟩ := i_stands hV (xs (i + 1))
  refine lv_aload_n hx hb dL_law_541 rfl (lv_at hl 1 rfl) ?_
  refine sc_ld (k := 1) D hI hl rfl (by decide) dL_law_542 dL_law_543 dL_law_545 dL_law_546 dL_law_547 ?_
  refine call_Vi X hI (Cj.keep (Cj.skip (Cj.skip (Cj.skip (Cj.skip (Cj.skip (Cj.skip (Cj.skip (Cj.skip (Cj.skip (Cj.skip (Cj.keep (Cj.skip (Cj.keep Cj.nil)))))))))))))) (c_X11_stands l g (B 0) (B 11) (B 13) (B 1 0) (B 10 0) (B 9 0) (B 6 0) (B 3 0) (B 4 0) (B 5 0) (B 12 0) hk now ri (xs (i + 1)) cr.1 cr.2 hc) ⟨rfl, rfl⟩ ⟨ht _ w_1044, w_1047, ht _ w_139, lk_X11_stands⟩ w_1045 w_1046 rfl rfl rfl hl rfl rfl dL_law_548 rfl rfl hc0 hs0 (fun H locs hI => ?_)
  refine lv_aload_n hx hb dL_law_551 rfl (lv_at hl 2 rfl) ?_
  refine sc_ld (k := 1) D hI hl rfl (by decide) dL_law_552 dL_law_553 dL_law_555 dL_law_556 dL_law_557 ?_
  cases ot with
  | none =>
    have hI : In g (Ah s) s.heap s (wHK g (B 0) (B 1 0) (B 13 0) (B 11 0) (B 10 0) (B 9 0) (B 6 0) (B 3 0) (B 4 0) (B 5 0) (B 12 0) cr.2 ++ (wRe g (B 1) (B 2 0) (B 14 0) re ++ (wTa g (B 2) ta ++ (wSe g (B 3) (B 7 0) se ++ (wWi g (B 4) (B 13 0) (B 8 0) ++ (wCo g (B 5) co ++ (wBo g (B 6) (B 13 0) bo ++ (wBo g (B 7) (B 13 0) sb ++ (wBo g (B 8) (B 13 0) wb ++ (wHi g (B 9) hi ++ (wMo g (B 10) tr ++ (wMo g (B 11) now ++ (wCh g (B 12) ch ++ (wRi g (B 13) ri ++ (wTo g (B 14) to ++ (wOut g qo fo ++ (wMd g am none qr md ++ []))))))))))))))))) H locs := hI
    refine call_Vi X hI (Cj.skip (Cj.skip (Cj.skip (Cj.skip (Cj.skip (Cj.skip (Cj.skip (Cj.skip (Cj.skip (Cj.skip (Cj.skip (Cj.skip (Cj.skip (Cj.skip (Cj.skip (Cj.skip Cj.id)))))))))))))))) (c_X13_stands_N l g am qr md (xs (i + 1)) q.1 q.2 hq) ⟨rfl, rfl⟩ ⟨ht _ w_2043, w_2046, ht _ w_155, lk_X13_stands⟩ w_2044 w_2045 rfl rfl rfl hl rfl rfl dL_law_558 rfl rfl hc0 hs0 (fun H locs hI => ?_)
    refine lz_eq D h1 dL_law_561 (by decide) (kk _ _ _ hl ⟨cr.2, re, ta, se, co, bo, sb, wb, hi, tr, now, ch, ri, to, q.2, none, an, qr, fo, h2, hI⟩)
  | some tn =>
    have hI : In g (Ah s) s.heap s (wHK g (B 0) (B 1 0) (B 13 0) (B 11 0) (B 10 0) (B 9 0) (B 6 0) (B 3 0) (B 4 0) (B 5 0) (B 12 0) cr.2 ++ (wRe g (B 1) (B 2 0) (B 14 0) re ++ (wTa g (B 2) ta ++ (wSe g (B 3) (B 7 0) se ++ (wWi g (B 4) (B 13 0) (B 8 0) ++ (wCo g (B 5) co ++ (wBo g (B 6) (B 13 0) bo ++ (wBo g (B 7) (B 13 0) sb ++ (wBo g (B 8) (B 13 0) wb ++ (wHi g (B 9) hi ++ (wMo g (B 10) tr ++ (wMo g (B 11) now ++ (wCh g (B 12) ch ++ (wRi g (B 13) ri ++ (wTo g (B 14) to ++ (wOut g qo fo ++ (wMd g am (some (an 0)) qr md ++ (wTn g an tn ++ [])))))))))))))))))) H locs := hI
    refine call_Vi X hI (Cj.skip (Cj.skip (Cj.skip (Cj.skip (Cj.skip (Cj.skip (Cj.skip (Cj.skip (Cj.skip (Cj.skip (Cj.skip (Cj.skip (Cj.skip (Cj.skip (Cj.skip (Cj.skip Cj.id)))))))))))))))) (c_X13_stands l g am an qr md tn (xs (i + 1)) q.1 q.2 hq) ⟨rfl, rfl⟩ ⟨ht _ w_2043, w_2046, ht _ w_155, lk_X13_stands⟩ w_2044 w_2045 rfl rfl rfl hl rfl rfl dL_law_558 rfl rfl hc0 hs0 (fun H locs hI => ?_)
    refine lz_eq D h1 dL_law_561 (by decide) (kk _ _ _ hl ⟨cr.2, re, ta, se, co, bo, sb, wb, hi, tr, now, ch, ri, to, q.2, (some tn), an, qr, fo, h2, hI⟩)
theorem k_place (D : LC p s m meth c b L i xs) (hl : lv_has ls 7 (lo5 b B am qo i)) (hL : LzI g s B am qo H locs) (hm : cells + 24 ≤ room_1.cells) (hm2 : slots + 311 ≤ room_1.slots)
    (kk : ∀ (H : Heap) (locs : List Loc) (ls : Array Slot), lv_has ls 7 (lo5 b B am qo i) → LzI g s B am qo H locs → W p l e room_1 s m #[.ref b] below meth c H locs (cells + 24) (slots + 311) Q (F0 m 1655 ls [])) : W p l e room_1 s m #[.ref b] below meth c H locs cells slots Q (F0 m 566 ls []) := by
  obtain ⟨hk, re, ta, se, co, bo, sb, wb, hi, tr, now, ch, ri, to, md, ot, an, qr, fo, hV, hI⟩ := hL
  obtain ⟨X, hX, hbl, hi6, hLm⟩ := id D
  obtain ⟨hx, hb, hml, hown, ht, hr, hlk⟩ := id X
  have hc0 : Nat.ble cells room_1.cells = true := Nat.ble_eq_true_of_le (Nat.le_trans (Nat.le_add_right _ _) hm)
  have hs0 : Nat.ble slots room_1.slots = true := Nat.ble_eq_true_of_le (Nat.le_trans (Nat.le_add_right _ _) hm2)
  obtain ⟨q, hq, cr, hc, h1, h2⟩ := i_place hV (xs (i + 1)) (xs (i + 2))
  refine lv_aload_n hx hb dL_law_566 rfl (lv_at hl 1 rfl) ?_
  refine sc_ld (k := 1) D hI hl rfl (by decide) dL_law_567 dL_law_568 dL_law_570 dL_law_571 dL_law_572 ?_
  refine sc_ld (k := 2) D hI hl rfl (by decide) dL_law_573 dL_law_574 dL_law_576 dL_law_577 dL_law_578 ?_
  refine call_Vi X hI (Cj.keep (Cj.skip (Cj.skip (Cj.skip (Cj.skip (Cj.skip (Cj.skip (Cj.skip (Cj.skip (Cj.skip (Cj.skip (Cj.skip (Cj.skip (Cj.keep Cj.nil)))))))))))))) (c_X11_place l g (B 0) (B 13) (B 1 0) (B 11 0) (B 10 0) (B 9 0) (B 6 0) (B 3 0) (B 4 0) (B 5 0) (B 12 0) hk ri (xs (i + 1)) (xs (i + 2)) cr.1 cr.2 hc) ⟨rfl, rfl⟩ ⟨ht _ w_1053, w_1056, ht _ w_139, lk_X11_place⟩ w_1054 w_1055 rfl rfl rfl hl rfl rfl dL_law_579 rfl rfl hc0 hs0 (fun H locs hI => ?_)
  refine lv_aload_n hx hb dL_law_582 rfl (lv_at hl 2 rfl) ?_
  refine sc_ld (k := 1) D hI hl rfl (by decide) dL_law_583 dL_law_584 dL_law_586 dL_law_587 dL_law_588 ?_
  refine sc_ld (k := 2) D hI hl rfl (by decide) dL_law_589 dL_law_590 dL_law_592 dL_law_593 dL_law_594 ?_
  cases ot with
  | none =>
    have hI : In g (Ah s) s.heap s (wHK g (B 0) (B 1 0) (B 13 0) (B 11 0) (B 10 0) (B 9 0) (B 6 0) (B 3 0) (B 4 0) (B 5 0) (B 12 0) cr.2 ++ (wRe g (B 1) (B 2 0) (B 14 0) re ++ (wTa g (B 2) ta ++ (wSe g (B 3) (B 7 0) se ++ (wWi g (B 4) (B 13 0) (B 8 0) ++ (wCo g (B 5) co ++ (wBo g (B 6) (B 13 0) bo ++ (wBo g (B 7) (B 13 0) sb ++ (wBo g (B 8) (B 13 0) wb ++ (wHi g (B 9) hi ++ (wMo g (B 10) tr ++ (wMo g (B 11) now ++ (wCh g (B 12) ch ++ (wRi g (B 13) ri ++ (wTo g (B 14) to ++ (wOut g qo fo ++ (wMd g am none qr md ++ []))))))))))))))))) H locs := hI
    refine call_Vi X hI (Cj.skip (Cj.skip (Cj.skip (Cj.skip (Cj.skip (Cj.skip (Cj.skip (Cj.skip (Cj.skip (Cj.skip (Cj.skip (Cj.skip (Cj.skip (Cj.skip (Cj.skip (Cj.skip Cj.id)))))))))))))))) (c_X13_place_N l g am qr md (xs (i + 1)) (xs (i + 2)) q.1 q.2 hq) ⟨rfl, rfl⟩ ⟨ht _ w_2055, w_2058, ht _ w_155, lk_X13_place⟩ w_2056 w_2057 rfl rfl rfl hl rfl rfl dL_law_595 rfl rfl hc0 hs0 (fun H locs hI => ?_)
    refine lz_eq D h1 dL_law_598 (by decide) (kk _ _ _ hl ⟨cr.2, re, ta, se, co, bo, sb, wb, hi, tr, now, ch, ri, to, q.2, none, an, qr, fo, h2, hI⟩)
  | some tn =>
    have hI : In g (Ah s) s.heap s (wHK g (B 0) (B 1 0) (B 13 0) (B 11 0) (B 10 0) (B 9 0) (B 6 0) (B 3 0) (B 4 0) (B 5 0) (B 12 0) cr.2 ++ (wRe g (B 1) (B 2 0) (B 14 0) re ++ (wTa g (B 2) ta ++ (wSe g (B 3) (B 7 0) se ++ (wWi g (B 4) (B 13 0) (B 8 0) ++ (wCo g (B 5) co ++ (wBo g (B 6) (B 13 0) bo ++ (wBo g (B 7) (B 13 0) sb ++ (wBo g (B 8) (B 13 0) wb ++ (wHi g (B 9) hi ++ (wMo g (B 10) tr ++ (wMo g (B 11) now ++ (wCh g (B 12) ch ++ (wRi g (B 13) ri ++ (wTo g (B 14) to ++ (wOut g qo fo ++ (wMd g am (some (an 0)) qr md ++ (wTn g an tn ++ [])))))))))))))))))) H locs := hI
    refine call_Vi X hI (Cj.skip (Cj.skip (Cj.skip (Cj.skip (Cj.skip (Cj.skip (Cj.skip (Cj.skip (Cj.skip (Cj.skip (Cj.skip (Cj.skip (Cj.skip (Cj.skip (Cj.skip (Cj.skip Cj.id)))))))))))))))) (c_X13_place l g am an qr md tn (xs (i + 1)) (xs (i + 2)) q.1 q.2 hq) ⟨rfl, rfl⟩ ⟨ht _ w_2055, w_2058, ht _ w_155, lk_X13_place⟩ w_2056 w_2057 rfl rfl rfl hl rfl rfl dL_law_595 rfl rfl hc0 hs0 (fun H locs hI => ?_)
    refine lz_eq D h1 dL_law_598 (by decide) (kk _ _ _ hl ⟨cr.2, re, ta, se, co, bo, sb, wb, hi, tr, now, ch, ri, to, q.2, (some tn), an, qr, fo, h2, hI⟩)
theorem k_sign (D : LC p s m meth c b L i xs) (hl : lv_has ls 7 (lo5 b B am qo i)) (hL : LzI g s B am qo H locs) (hm : cells + 24 ≤ room_1.cells) (hm2 : slots + 311 ≤ room_1.slots)
    (kk : ∀ (H : Heap) (locs : List Loc) (ls : Array Slot), lv_has ls 7 (lo5 b B am qo i) → LzI g s B am qo H locs → W p l e room_1 s m #[.ref b] below meth c H locs (cells + 24) (slots + 311) Q (F0 m 1655 ls [])) : W p l e room_1 s m #[.ref b] below meth c H locs cells slots Q (F0 m 603 ls []) := by
  obtain ⟨hk, re, ta, se, co, bo, sb, wb, hi, tr, now, ch, ri, to, md, ot, an, qr, fo, hV, hI⟩ := hL
  obtain ⟨X, hX, hbl, hi6, hLm⟩ := id D
  obtain ⟨hx, hb, hml, hown, ht, hr, hlk⟩ := id X
  have hc0 : Nat.ble cells room_1.cells = true := Nat.ble_eq_true_of_le (Nat.le_trans (Nat.le_add_right _ _) hm)
  have hs0 : Nat.ble slots room_1.slots = true := Nat.ble_eq_true_of_le (Nat.le_trans (Nat.le_add_right _ _) hm2)
  obtain ⟨q, hq, cr, hc, h1, h2⟩ := i_sign hV (xs (i + 1))
  refine lv_aload_n hx hb dL_law_603 rfl (lv_at hl 1 rfl) ?_
  refine sc_ld (k := 1) D hI hl rfl (by decide) dL_law_604 dL_law_605 dL_law_607 dL_law_608 dL_law_609 ?_
  refine call_Vi X hI (Cj.keep (Cj.skip (Cj.skip (Cj.skip (Cj.skip (Cj.skip (Cj.keep (Cj.skip (Cj.skip (Cj.skip (Cj.skip (Cj.skip (Cj.skip (Cj.keep Cj.nil)))))))))))))) (c_X11_sign l g (B 0) (B 6) (B 13) (B 1 0) (B 11 0) (B 10 0) (B 9 0) (B 3 0) (B 4 0) (B 5 0) (B 12 0) hk bo ri (xs (i + 1)) cr.1 cr.2 hc) ⟨rfl, rfl⟩ ⟨ht _ w_1057, w_1060, ht _ w_139, lk_X11_sign⟩ w_1058 w_1059 rfl rfl rfl hl rfl rfl dL_law_610 rfl rfl hc0 hs0 (fun H locs hI => ?_)
  refine lv_aload_n hx hb dL_law_613 rfl (lv_at hl 2 rfl) ?_
  refine sc_ld (k := 1) D hI hl rfl (by decide) dL_law_614 dL_law_615 dL_law_617 dL_law_618 dL_law_619 ?_
  cases ot with
  | none =>
    have hI : In g (Ah s) s.heap s (wHK g (B 0) (B 1 0) (B 13 0) (B 11 0) (B 10 0) (B 9 0) (B 6 0) (B 3 0) (B 4 0) (B 5 0) (B 12 0) cr.2 ++ (wRe g (B 1) (B 2 0) (B 14 0) re ++ (wTa g (B 2) ta ++ (wSe g (B 3) (B 7 0) se ++ (wWi g (B 4) (B 13 0) (B 8 0) ++ (wCo g (B 5) co ++ (wBo g (B 6) (B 13 0) bo ++ (wBo g (B 7) (B 13 0) sb ++ (wBo g (B 8) (B 13 0) wb ++ (wHi g (B 9) hi ++ (wMo g (B 10) tr ++ (wMo g (B 11) now ++ (wCh g (B 12) ch ++ (wRi g (B 13) ri ++ (wTo g (B 14) to ++ (wOut g qo fo ++ (wMd g am none qr md ++ []))))))))))))))))) H locs := hI
    refine call_Vi X hI (Cj.skip (Cj.skip (Cj.skip (Cj.skip (Cj.skip (Cj.skip (Cj.skip (Cj.skip (Cj.skip (Cj.skip (Cj.skip (Cj.skip (Cj.skip (Cj.skip (Cj.skip (Cj.skip Cj.id)))))))))))))))) (c_X13_sign_N l g am qr md (xs (i + 1)) q.1 q.2 hq) ⟨rfl, rfl⟩ ⟨ht _ w_2059, w_2062, ht _ w_155, lk_X13_sign⟩ w_2060 w_2061 rfl rfl rfl hl rfl rfl dL_law_620 rfl rfl hc0 hs0 (fun H locs hI => ?_)
    refine lz_eq D h1 dL_law_623 (by decide) (kk _ _ _ hl ⟨cr.2, re, ta, se, co, bo, sb, wb, hi, tr, now, ch, ri, to, q.2, none, an, qr, fo, h2, hI⟩)
  | some tn =>
    have hI : In g (Ah s) s.heap s (wHK g (B 0) (B 1 0) (B 13 0) (B 11 0) (B 10 0) (B 9 0) (B 6 0) (B 3 0) (B 4 0) (B 5 0) (B 12 0) cr.2 ++ (wRe g (B 1) (B 2 0) (B 14 0) re ++ (wTa g (B 2) ta ++ (wSe g (B 3) (B 7 0) se ++ (wWi g (B 4) (B 13 0) (B 8 0) ++ (wCo g (B 5) co ++ (wBo g (B 6) (B 13 0) bo ++ (wBo g (B 7) (B 13 0) sb ++ (wBo g (B 8) (B 13 0) wb ++ (wHi g (B 9) hi ++ (wMo g (B 10) tr ++ (wMo g (B 11) now ++ (wCh g (B 12) ch ++ (wRi g (B 13) ri ++ (wTo g (B 14) to ++ (wOut g qo fo ++ (wMd g am (some (an 0)) qr md ++ (wTn g an tn ++ [])))))))))))))))))) H locs := hI
    refine call_Vi X hI (Cj.skip (Cj.skip (Cj.skip (Cj.skip (Cj.skip (Cj.skip (Cj.skip (Cj.skip (Cj.skip (Cj.skip (Cj.skip (Cj.skip (Cj.skip (Cj.skip (Cj.skip (Cj.skip Cj.id)))))))))))))))) (c_X13_sign l g am an qr md tn (xs (i + 1)) q.1 q.2 hq) ⟨rfl, rfl⟩ ⟨ht _ w_2059, w_2062, ht _ w_155, lk_X13_sign⟩ w_2060 w_2061 rfl rfl rfl hl rfl rfl dL_law_620 rfl rfl hc0 hs0 (fun H locs hI => ?_)
    refine lz_eq D h1 dL_law_623 (by decide) (kk _ _ _ hl ⟨cr.2, re, ta, se, co, bo, sb, wb, hi, tr, now, ch, ri, to, q.2, (some tn), an, qr, fo, h2, hI⟩)
theorem k_left (D : LC p s m meth c b L i xs) (hl : lv_has ls 7 (lo5 b B am qo i)) (hL : LzI g s B am qo H locs) (hm : cells + 24 ≤ room_1.cells) (hm2 : slots + 311 ≤ room_1.slots)
    (kk : ∀ (H : Heap) (locs : List Loc) (ls : Array Slot), lv_has ls 7 (lo5 b B am qo i) → LzI g s B am qo H locs → W p l e room_1 s m #[.ref b] below meth c H locs (cells + 24) (slots + 311) Q (F0 m 1655 ls [])) : W p l e room_1 s m #[.ref b] below meth c H locs cells slots Q (F0 m 628 ls []) := by
  obtain ⟨hk, re, ta, se, co, bo, sb, wb, hi, tr, now, ch, ri, to, md, ot, an, qr, fo, hV, hI⟩ := hL
  obtain ⟨X, hX, hbl, hi6, hLm⟩ := id D
  obtain ⟨hx, hb, hml, hown, ht, hr, hlk⟩ := id X
  have hc0 : Nat.ble cells room_1.cells = true := Nat.ble_eq_true_of_le (Nat.le_trans (Nat.le_add_right _ _) hm)
  have hs0 : Nat.ble slots room_1.slots = true := Nat.ble_eq_true_of_le (Nat.le_trans (Nat.le_add_right _ _) hm2)
  obtain ⟨q, hq, cr, hc, h1, h2⟩ := i_left hV
  refine lv_aload_n hx hb dL_law_628 rfl (lv_at hl 1 rfl) ?_
  refine call_Vi X hI (Cj.keep (Cj.skip (Cj.skip (Cj.skip (Cj.skip (Cj.skip (Cj.keep Cj.nil))))))) (c_X11_left l g (B 0) (B 6) (B 1 0) (B 13 0) (B 11 0) (B 10 0) (B 9 0) (B 3 0) (B 4 0) (B 5 0) (B 12 0) (B 13 0) hk bo cr.1 cr.2 hc) ⟨rfl, rfl⟩ ⟨ht _ w_1077, w_1080, ht _ w_139, lk_X11_left⟩ w_1078 w_1079 rfl rfl rfl hl rfl rfl dL_law_629 rfl rfl hc0 hs0 (fun H locs hI => ?_)
  refine lv_aload_n hx hb dL_law_632 rfl (lv_at hl 2 rfl) ?_
  cases ot with
  | none =>
    have hI : In g (Ah s) s.heap s (wHK g (B 0) (B 1 0) (B 13 0) (B 11 0) (B 10 0) (B 9 0) (B 6 0) (B 3 0) (B 4 0) (B 5 0) (B 12 0) cr.2 ++ (wRe g (B 1) (B 2 0) (B 14 0) re ++ (wTa g (B 2) ta ++ (wSe g (B 3) (B 7 0) se ++ (wWi g (B 4) (B 13 0) (B 8 0) ++ (wCo g (B 5) co ++ (wBo g (B 6) (B 13 0) bo ++ (wBo g (B 7) (B 13 0) sb ++ (wBo g (B 8) (B 13 0) wb ++ (wHi g (B 9) hi ++ (wMo g (B 10) tr ++ (wMo g (B 11) now ++ (wCh g (B 12) ch ++ (wRi g (B 13) ri ++ (wTo g (B 14) to ++ (wOut g qo fo ++ (wMd g am none qr md ++ []))))))))))))))))) H locs := hI
    refine call_Vi X hI (Cj.skip (Cj.skip (Cj.skip (Cj.skip (Cj.skip (Cj.skip (Cj.skip (Cj.skip (Cj.skip (Cj.skip (Cj.skip (Cj.skip (Cj.skip (Cj.skip (Cj.skip (Cj.skip Cj.id)))))))))))))))) (c_X13_left_N l g am qr md q.1 q.2 hq) ⟨rfl, rfl⟩ ⟨ht _ w_2091, w_2094, ht _ w_155, lk_X13_left⟩ w_2092 w_2093 rfl rfl rfl hl rfl rfl dL_law_633 rfl rfl hc0 hs0 (fun H locs hI => ?_)
    refine lz_eq D h1 dL_law_636 (by decide) (kk _ _ _ hl ⟨cr.2, re, ta, se, co, bo, sb, wb, hi, tr, now, ch, ri, to, q.2, none, an, qr, fo, h2, hI⟩)
  | some tn =>
    have hI : In g (Ah s) s.heap s (wHK g (B 0) (B 1 0) (B 13 0) (B 11 0) (B 10 0) (B 9 0) (B 6 0) (B 3 0) (B 4 0) (B 5 0) (B 12 0) cr.2 ++ (wRe g (B 1) (B 2 0) (B 14 0) re ++ (wTa g (B 2) ta ++ (wSe g (B 3) (B 7 0) se ++ (wWi g (B 4) (B 13 0) (B 8 0) ++ (wCo g (B 5) co ++ (wBo g (B 6) (B 13 0) bo ++ (wBo g (B 7) (B 13 0) sb ++ (wBo g (B 8) (B 13 0) wb ++ (wHi g (B 9) hi ++ (wMo g (B 10) tr ++ (wMo g (B 11) now ++ (wCh g (B 12) ch ++ (wRi g (B 13) ri ++ (wTo g (B 14) to ++ (wOut g qo fo ++ (wMd g am (some (an 0)) qr md ++ (wTn g an tn ++ [])))))))))))))))))) H locs := hI
    refine call_Vi X hI (Cj.skip (Cj.skip (Cj.skip (Cj.skip (Cj.skip (Cj.skip (Cj.skip (Cj.skip (Cj.skip (Cj.skip (Cj.skip (Cj.skip (Cj.skip (Cj.skip (Cj.skip (Cj.skip Cj.id)))))))))))))))) (c_X13_left l g am an qr md tn q.1 q.2 hq) ⟨rfl, rfl⟩ ⟨ht _ w_2091, w_2094, ht _ w_155, lk_X13_left⟩ w_2092 w_2093 rfl rfl rfl hl rfl rfl dL_law_633 rfl rfl hc0 hs0 (fun H locs hI => ?_)
    refine lz_eq D h1 dL_law_636 (by decide) (kk _ _ _ hl ⟨cr.2, re, ta, se, co, bo, sb, wb, hi, tr, now, ch, ri, to, q.2, (some tn), an, qr, fo, h2, hI⟩)
end LCASES
