section LCASES
variable {p : Program} {l : Launch} {e : Env} {s : State} {m : MethodId} {below : List Frame} {meth : Method} {c : Code} {H : Heap} {locs : List Loc} {cells slots : Nat} {Q : State → Prop}
variable {ls : Array Slot} {g : GT} {B : Nat → Nat → Nat} {am : Nat → Nat} {qo b L i : Nat} {xs : Nat → Int32}
theorem k_lift (D : LC p s m meth c b L i xs) (hl : lv_has ls 7 (lo5 b B am qo i)) (hL : LzI g s B am qo H locs) (hm : cells + 24 ≤ room_1.cells) (hm2 : slots + 311 ≤ room_1.slots)
    (kk : ∀ (H : Heap) (locs : List Loc) (ls : Array Slot), lv_has ls 7 (lo5 b B am qo i) → LzI g s B am qo H locs → W p l e room_1 s m #[.ref b] below meth c H locs (cells + 24) (slots + 311) Q (F0 m 1655 ls [])) : W p l e room_1 s m #[.ref b] below meth c H locs cells slots Q (F0 m 905 ls []) := by
  obtain ⟨hk, re, ta, se, co, bo, sb, wb, hi, tr, now, ch, ri, to, md, ot, an, qr, fo, hV, hI⟩ := hL
  obtain ⟨X, hX, hbl, hi6, hLm⟩ := id D
  obtain ⟨hx, hb, hml, hown, ht, hr, hlk⟩ := id X
  have hc0 : Nat.ble cells room_1.cells = true := Nat.ble_eq_true_of_le (Nat.le_trans (Nat.le_add_right _ _) hm)
  have hs0 : Nat.ble slots room_1.slots = true := Nat.ble_eq_true_of_le (Nat.le_trans (Nat.le_add_right _ _) hm2)
  obtain ⟨q, hq, cr, hc, h1, h2⟩ := i_lift (sb := sb) (tr := tr) hV (xs (i + 1))
  refine lv_aload_n hx hb dL_law_905 rfl (lv_at hl 1 rfl) ?_
  refine sc_ld (k := 1) D hI hl rfl (by decide) dL_law_906 dL_law_907 dL_law_909 dL_law_910 dL_law_911 ?_
  refine call_Vi X hI (Cj.keep (Cj.skip (Cj.skip (Cj.keep (Cj.skip (Cj.skip (Cj.keep (Cj.keep (Cj.skip (Cj.skip (Cj.keep (Cj.keep (Cj.skip (Cj.keep Cj.nil)))))))))))))) (c_X11_lift l g (B 0) (B 3) (B 6) (B 7) (B 10) (B 11) (B 13) (B 1 0) (B 9 0) (B 4 0) (B 5 0) (B 12 0) hk se bo sb tr now ri (xs (i + 1)) cr.1 cr.2.1 cr.2.2.1 cr.2.2.2.1 cr.2.2.2.2 hc) ⟨rfl, rfl⟩ ⟨ht _ w_1281, w_1284, ht _ w_139, lk_X11_lift⟩ w_1282 w_1283 rfl rfl rfl hl rfl rfl dL_law_912 rfl rfl hc0 hs0 (fun H locs hI => ?_)
  refine lv_aload_n hx hb dL_law_915 rfl (lv_at hl 2 rfl) ?_
  refine sc_ld (k := 1) D hI hl rfl (by decide) dL_law_916 dL_law_917 dL_law_919 dL_law_920 dL_law_921 ?_
  cases ot with
  | none =>
    have hI : In g (Ah s) s.heap s (wHK g (B 0) (B 1 0) (B 13 0) (B 11 0) (B 10 0) (B 9 0) (B 6 0) (B 3 0) (B 4 0) (B 5 0) (B 12 0) cr.2.1 ++ (wRe g (B 1) (B 2 0) (B 14 0) re ++ (wTa g (B 2) ta ++ (wSe g (B 3) (B 7 0) cr.2.2.1 ++ (wWi g (B 4) (B 13 0) (B 8 0) ++ (wCo g (B 5) co ++ (wBo g (B 6) (B 13 0) bo ++ (wBo g (B 7) (B 13 0) cr.2.2.2.1 ++ (wBo g (B 8) (B 13 0) wb ++ (wHi g (B 9) hi ++ (wMo g (B 10) cr.2.2.2.2 ++ (wMo g (B 11) now ++ (wCh g (B 12) ch ++ (wRi g (B 13) ri ++ (wTo g (B 14) to ++ (wOut g qo fo ++ (wMd g am none qr md ++ []))))))))))))))))) H locs := hI
    refine call_Vi X hI (Cj.skip (Cj.skip (Cj.skip (Cj.skip (Cj.skip (Cj.skip (Cj.skip (Cj.skip (Cj.skip (Cj.skip (Cj.skip (Cj.skip (Cj.skip (Cj.skip (Cj.skip (Cj.skip Cj.id)))))))))))))))) (c_X13_lift_N l g am qr md (xs (i + 1)) q.1 q.2 hq) ⟨rfl, rfl⟩ ⟨ht _ w_2243, w_2246, ht _ w_155, lk_X13_lift⟩ w_2244 w_2245 rfl rfl rfl hl rfl rfl dL_law_922 rfl rfl hc0 hs0 (fun H locs hI => ?_)
    refine lz_eq D h1 dL_law_925 (by decide) (kk _ _ _ hl ⟨cr.2.1, re, ta, cr.2.2.1, co, bo, cr.2.2.2.1, wb, hi, cr.2.2.2.2, now, ch, ri, to, q.2, none, an, qr, fo, h2, hI⟩)
  | some tn =>
    have hI : In g (Ah s) s.heap s (wHK g (B 0) (B 1 0) (B 13 0) (B 11 0) (B 10 0) (B 9 0) (B 6 0) (B 3 0) (B 4 0) (B 5 0) (B 12 0) cr.2.1 ++ (wRe g (B 1) (B 2 0) (B 14 0) re ++ (wTa g (B 2) ta ++ (wSe g (B 3) (B 7 0) cr.2.2.1 ++ (wWi g (B 4) (B 13 0) (B 8 0) ++ (wCo g (B 5) co ++ (wBo g (B 6) (B 13 0) bo ++ (wBo g (B 7) (B 13 0) cr.2.2.2.1 ++ (wBo g (B 8) (B 13 0) wb ++ (wHi g (B 9) hi ++ (wMo g (B 10) cr.2.2.2.2 ++ (wMo g (B 11) now ++ (wCh g (B 12) ch ++ (wRi g (B 13) ri ++ (wTo g (B 14) to ++ (wOut g qo fo ++ (wMd g am (some (an 0)) qr md ++ (wTn g an tn ++ [])))))))))))))))))) H locs := hI
    refine call_Vi X hI (Cj.skip (Cj.skip (Cj.skip (Cj.skip (Cj.skip (Cj.skip (Cj.skip (Cj.skip (Cj.skip (Cj.skip (Cj.skip (Cj.skip (Cj.skip (Cj.skip (Cj.skip (Cj.skip Cj.id)))))))))))))))) (c_X13_lift l g am an qr md tn (xs (i + 1)) q.1 q.2 hq) ⟨rfl, rfl⟩ ⟨ht _ w_2243, w_2246, ht _ w_155, lk_X13_lift⟩ w_2244 w_2245 rfl rfl rfl hl rfl rfl dL_law_922 rfl rfl hc0 hs0 (fun H locs hI => ?_)
    refine lz_eq D h1 dL_law_925 (by decide) (kk _ _ _ hl ⟨cr.2.1, re, ta, cr.2.2.1, co, bo, cr.2.2.2.1, wb, hi, cr.2.2.2.2, now, ch, ri, to, q.2, (some tn), an, qr, fo, h2, hI⟩)
theorem k_twist (D : LC p s m meth c b L i xs) (hl : lv_has ls 7 (lo5 b B am qo i)) (hL : LzI g s B am qo H locs) (hm : cells + 24 ≤ room_1.cells) (hm2 : slots + 311 ≤ room_1.slots)
    (kk : ∀ (H : Heap) (locs : List Loc) (ls : Array Slot), lv_has ls 7 (lo5 b B am qo i) → LzI g s B am qo H locs → W p l e room_1 s m #[.ref b] below meth c H locs (cells + 24) (slots + 311) Q (F0 m 1655 ls [])) : W p l e room_1 s m #[.ref b] below meth c H locs cells slots Q (F0 m 930 ls []) := by
  obtain ⟨hk, re, ta, se, co, bo, sb, wb, hi, tr, now, ch, ri, to, md, ot, an, qr, fo, hV, hI⟩ := hL
  obtain ⟨X, hX, hbl, hi6, hLm⟩ := id D
  obtain ⟨hx, hb, hml, hown, ht, hr, hlk⟩ := id X
  have hc0 : Nat.ble cells room_1.cells = true := Nat.ble_eq_true_of_le (Nat.le_trans (Nat.le_add_right _ _) hm)
  have hs0 : Nat.ble slots room_1.slots = true := Nat.ble_eq_true_of_le (Nat.le_trans (Nat.le_add_right _ _) hm2)
  obtain ⟨q, hq, cr, hc, h1, h2⟩ := i_twist hV (xs (i + 1))
  refine lv_aload_n hx hb dL_law_930 rfl (lv_at hl 1 rfl) ?_
  refine sc_ld (k := 1) D hI hl rfl (by decide) dL_law_931 dL_law_932 dL_law_934 dL_law_935 dL_law_936 ?_
  refine call_Vi X hI (Cj.keep (Cj.skip (Cj.skip (Cj.skip (Cj.skip (Cj.skip (Cj.keep (Cj.skip (Cj.skip (Cj.skip (Cj.skip (Cj.skip (Cj.skip (Cj.keep Cj.nil)))))))))))))) (c_X11_twist l g (B 0) (B 6) (B 13) (B 1 0) (B 11 0) (B 10 0) (B 9 0) (B 3 0) (B 4 0) (B 5 0) (B 12 0) hk bo ri (xs (i + 1)) cr.1 cr.2 hc) ⟨rfl, rfl⟩ ⟨ht _ w_1294, w_1297, ht _ w_139, lk_X11_twist⟩ w_1295 w_1296 rfl rfl rfl hl rfl rfl dL_law_937 rfl rfl hc0 hs0 (fun H locs hI => ?_)
  refine lv_aload_n hx hb dL_law_940 rfl (lv_at hl 2 rfl) ?_
  refine sc_ld (k := 1) D hI hl rfl (by decide) dL_law_941 dL_law_942 dL_law_944 dL_law_945 dL_law_946 ?_
  cases ot with
  | none =>
    have hI : In g (Ah s) s.heap s (wHK g (B 0) (B 1 0) (B 13 0) (B 11 0) (B 10 0) (B 9 0) (B 6 0) (B 3 0) (B 4 0) (B 5 0) (B 12 0) cr.2 ++ (wRe g (B 1) (B 2 0) (B 14 0) re ++ (wTa g (B 2) ta ++ (wSe g (B 3) (B 7 0) se ++ (wWi g (B 4) (B 13 0) (B 8 0) ++ (wCo g (B 5) co ++ (wBo g (B 6) (B 13 0) bo ++ (wBo g (B 7) (B 13 0) sb ++ (wBo g (B 8) (B 13 0) wb ++ (wHi g (B 9) hi ++ (wMo g (B 10) tr ++ (wMo g (B 11) now ++ (wCh g (B 12) ch ++ (wRi g (B 13) ri ++ (wTo g (B 14) to ++ (wOut g qo fo ++ (wMd g am none qr md ++ []))))))))))))))))) H locs := hI
    refine call_Vi X hI (Cj.skip (Cj.skip (Cj.skip (Cj.skip (Cj.skip (Cj.skip (Cj.skip (Cj.skip (Cj.skip (Cj.skip (Cj.skip (Cj.skip (Cj.skip (Cj.skip (Cj.skip (Cj.skip Cj.id)))))))))))))))) (c_X13_twist_N l g am qr md (xs (i + 1)) q.1 q.2 hq) ⟨rfl, rfl⟩ ⟨ht _ w_2263, w_2266, ht _ w_155, lk_X13_twist⟩ w_2264 w_2265 rfl rfl rfl hl rfl rfl dL_law_947 rfl rfl hc0 hs0 (fun H locs hI => ?_)
    refine lz_eq D h1 dL_law_950 (by decide) (kk _ _ _ hl ⟨cr.2, re, ta, se, co, bo, sb, wb, hi, tr, now, ch, ri, to, q.2, none, an, qr, fo, h2, hI⟩)
  | some tn =>
    have hI : In g (Ah s) s.heap s (wHK g (B 0) (B 1 0) (B 13 0) (B 11 0) (B 10 0) (B 9 0) (B 6 0) (B 3 0) (B 4 0) (B 5 0) (B 12 0) cr.2 ++ (wRe g (B 1) (B 2 0) (B 14 0) re ++ (wTa g (B 2) ta ++ (wSe g (B 3) (B 7 0) se ++ (wWi g (B 4) (B 13 0) (B 8 0) ++ (wCo g (B 5) co ++ (wBo g (B 6) (B 13 0) bo ++ (wBo g (B 7) (B 13 0) sb ++ (wBo g (B 8) (B 13 0) wb ++ (wHi g (B 9) hi ++ (wMo g (B 10) tr ++ (wMo g (B 11) now ++ (wCh g (B 12) ch ++ (wRi g (B 13) ri ++ (wTo g (B 14) to ++ (wOut g qo fo ++ (wMd g am (some (an 0)) qr md ++ (wTn g an tn ++ [])))))))))))))))))) H locs := hI
    refine call_Vi X hI (Cj.skip (Cj.skip (Cj.skip (Cj.skip (Cj.skip (Cj.skip (Cj.skip (Cj.skip (Cj.skip (Cj.skip (Cj.skip (Cj.skip (Cj.skip (Cj.skip (Cj.skip (Cj.skip Cj.id)))))))))))))))) (c_X13_twist l g am an qr md tn (xs (i + 1)) q.1 q.2 hq) ⟨rfl, rfl⟩ ⟨ht _ w_2263, w_2266, ht _ w_155, lk_X13_twist⟩ w_2264 w_2265 rfl rfl rfl hl rfl rfl dL_law_947 rfl rfl hc0 hs0 (fun H locs hI => ?_)
    refine lz_eq D h1 dL_law_950 (by decide) (kk _ _ _ hl ⟨cr.2, re, ta, se, co, bo, sb, wb, hi, tr, now, ch, ri, to, q.2, (some tn), an, qr, fo, h2, hI⟩)
theorem k_arcs (D : LC p s m meth c b L i xs) (hl : lv_has ls 7 (lo5 b B am qo i)) (hL : LzI g s B am qo H locs) (hm : cells + 24 ≤ room_1.cells) (hm2 : slots + 311 ≤ room_1.slots)
    (kk : ∀ (H : Heap) (locs : List Loc) (ls : Array Slot), lv_has ls 7 (lo5 b B am qo i) → LzI g s B am qo H locs → W p l e room_1 s m #[.ref b] below meth c H locs (cells + 24) (slots + 311) Q (F0 m 1655 ls [])) : W p l e room_1 s m #[.ref b] below meth c H locs cells slots Q (F0 m 955 ls []) := by
  obtain ⟨hk, re, ta, se, co, bo, sb, wb, hi, tr, now, ch, ri, to, md, ot, an, qr, fo, hV, hI⟩ := hL
  obtain ⟨X, hX, hbl, hi6, hLm⟩ := id D
  obtain ⟨hx, hb, hml, hown, ht, hr, hlk⟩ := id X
  have hc0 : Nat.ble cells room_1.cells = true := Nat.ble_eq_true_of_le (Nat.le_trans (Nat.le_add_right _ _) hm)
  have hs0 : Nat.ble slots room_1.slots = true := Nat.ble_eq_true_of_le (Nat.le_trans (Nat.le_add_right _ _) hm2)
  obtain ⟨q, hq, cr, hc, h1, h2⟩ := i_arcs hV
  refine lv_aload_n hx hb dL_law_955 rfl (lv_at hl 1 rfl) ?_
  refine call_Vi X hI (Cj.keep (Cj.skip (Cj.skip (Cj.skip (Cj.skip (Cj.keep (Cj.keep (Cj.skip (Cj.skip (Cj.skip (Cj.skip (Cj.skip (Cj.skip (Cj.keep Cj.nil)))))))))))))) (c_X11_arcs l g (B 0) (B 5) (B 6) (B 13) (B 1 0) (B 11 0) (B 10 0) (B 9 0) (B 3 0) (B 4 0) (B 12 0) hk co bo ri cr.1 cr.2.1 cr.2.2 hc) ⟨rfl, rfl⟩ ⟨ht _ w_1298, w_1301, ht _ w_139, lk_X11_arcs⟩ w_1299 w_1300 rfl rfl rfl hl rfl rfl dL_law_956 rfl rfl hc0 hs0 (fun H locs hI => ?_)
  refine lv_aload_n hx hb dL_law_959 rfl (lv_at hl 2 rfl) ?_
  cases ot with
  | none =>
    have hI : In g (Ah s) s.heap s (wHK g (B 0) (B 1 0) (B 13 0) (B 11 0) (B 10 0) (B 9 0) (B 6 0) (B 3 0) (B 4 0) (B 5 0) (B 12 0) cr.2.1 ++ (wRe g (B 1) (B 2 0) (B 14 0) re ++ (wTa g (B 2) ta ++ (wSe g (B 3) (B 7 0) se ++ (wWi g (B 4) (B 13 0) (B 8 0) ++ (wCo g (B 5) cr.2.2 ++ (wBo g (B 6) (B 13 0) bo ++ (wBo g (B 7) (B 13 0) sb ++ (wBo g (B 8) (B 13 0) wb ++ (wHi g (B 9) hi ++ (wMo g (B 10) tr ++ (wMo g (B 11) now ++ (wCh g (B 12) ch ++ (wRi g (B 13) ri ++ (wTo g (B 14) to ++ (wOut g qo fo ++ (wMd g am none qr md ++ []))))))))))))))))) H locs := hI
    refine call_Vi X hI (Cj.skip (Cj.skip (Cj.skip (Cj.skip (Cj.skip (Cj.skip (Cj.skip (Cj.skip (Cj.skip (Cj.skip (Cj.skip (Cj.skip (Cj.skip (Cj.skip (Cj.skip (Cj.skip Cj.id)))))))))))))))) (c_X13_arcs_N l g am qr md q.1 q.2 hq) ⟨rfl, rfl⟩ ⟨ht _ w_2267, w_2270, ht _ w_155, lk_X13_arcs⟩ w_2268 w_2269 rfl rfl rfl hl rfl rfl dL_law_960 rfl rfl hc0 hs0 (fun H locs hI => ?_)
    refine lz_eq D h1 dL_law_963 (by decide) (kk _ _ _ hl ⟨cr.2.1, re, ta, se, cr.2.2, bo, sb, wb, hi, tr, now, ch, ri, to, q.2, none, an, qr, fo, h2, hI⟩)
  | some tn =>
    have hI : In g (Ah s) s.heap s (wHK g (B 0) (B 1 0) (B 13 0) (B 11 0) (B 10 0) (B 9 0) (B 6 0) (B 3 0) (B 4 0) (B 5 0) (B 12 0) cr.2.1 ++ (wRe g (B 1) (B 2 0) (B 14 0) re ++ (wTa g (B 2) ta ++ (wSe g (B 3) (B 7 0) se ++ (wWi g (B 4) (B 13 0) (B 8 0) ++ (wCo g (B 5) cr.2.2 ++ (wBo g (B 6) (B 13 0) bo ++ (wBo g (B 7) (B 13 0) sb ++ (wBo g (B 8) (B 13 0) wb ++ (wHi g (B 9) hi ++ (wMo g (B 10) tr ++ (wMo g (B 11) now ++ (wCh g (B 12) ch ++ (wRi g (B 13) ri ++ (wTo g (B 14) to ++ (wOut g qo fo ++ (wMd g am (some (an 0)) qr md ++ (wTn g an tn ++ [])))))))))))))))))) H locs := hI
    refine call_Vi X hI (Cj.skip (Cj.skip (Cj.skip (Cj.skip (Cj.skip (Cj.skip (Cj.skip (Cj.skip (Cj.skip (Cj.skip (Cj.skip (Cj.skip (Cj.skip (Cj.skip (Cj.skip (Cj.skip Cj.id)))))))))))))))) (c_X13_arcs l g am an qr md tn q.1 q.2 hq) ⟨rfl, rfl⟩ ⟨ht _ w_2267, w_2270, ht _ w_155, lk_X13_arcs⟩ w_2268 w_2269 rfl rfl rfl hl rfl rfl dL_law_960 rfl rfl hc0 hs0 (fun H locs hI => ?_)
    refine lz_eq D h1 dL_law_963 (by decide) (kk _ _ _ hl ⟨cr.2.1, re, ta, se, cr.2.2, bo, sb, wb, hi, tr, now, ch, ri, to, q.2, (some tn), an, qr, fo, h2, hI⟩)
theorem k_reached (D : LC p s m meth c b L i xs) (hl : lv_has ls 7 (lo5 b B am qo i)) (hL : LzI g s B am qo H locs) (hm : cells + 24 ≤ room_1.cells) (hm2 : slots + 311 ≤ room_1.slots)
    (kk : ∀ (H : Heap) (locs : List Loc) (ls : Array Slot), lv_has ls 7 (lo5 b B am qo i) → LzI g s B am qo H locs → W p l e room_1 s m #[.ref b] below meth c H locs (cells + 24) (slots + 311) Q (F0 m 1655 ls [])) : W p l e room_1 s m #[.ref b] below meth c H locs cells slots Q (F0 m 968 ls []) := by
  obtain ⟨hk, re, ta, se, co, bo, sb, wb, hi, tr, now, ch, ri, to, md, ot, an, qr, fo, hV, hI⟩ := hL
  obtain ⟨X, hX, hbl, hi6, hLm⟩ := id D
  obtain ⟨hx, hb, hml, hown, ht, hr, hlk⟩ := id X
  have hc0 : Nat.ble cells room_1.cells = true := Nat.ble_eq_true_of_le (Nat.le_trans (Nat.le_add_right _ _) hm)
  have hs0 : Nat.ble slots room_1.slots = true := Nat.ble_eq_true_of_le (Nat.le_trans (Nat.le_add_right _ _) hm2)
  obtain ⟨q, hq, cr, hc, h1, h2⟩ := i_reached (sb := sb) hV (xs (i + 1))
  refine lv_aload_n hx hb dL_law_968 rfl (lv_at hl 1 rfl) ?_
  refine sc_ld (k := 1) D hI hl rfl (by decide) dL_law_969 dL_law_970 dL_law_972 dL_law_973 dL_law_974 ?_
  refine call_Vi X hI (Cj.keep (Cj.skip (Cj.skip (Cj.keep (Cj.skip (Cj.skip (Cj.skip (Cj.keep (Cj.skip (Cj.skip (Cj.skip (Cj.keep (Cj.skip (Cj.keep Cj.nil)))))))))))))) (c_X11_reached l g (B 0) (B 3) (B 7) (B 11) (B 13) (B 1 0) (B 10 0) (B 9 0) (B 6 0) (B 4 0) (B 5 0) (B 12 0) hk se sb now ri (xs (i + 1)) cr.1 cr.2.1 cr.2.2.1 cr.2.2.2 hc) ⟨rfl, rfl⟩ ⟨ht _ w_1303, w_1306, ht _ w_139, lk_X11_reached⟩ w_1304 w_1305 rfl rfl rfl hl rfl rfl dL_law_975 rfl rfl hc0 hs0 (fun H locs hI => ?_)
  refine lv_aload_n hx hb dL_law_978 rfl (lv_at hl 2 rfl) ?_
  refine sc_ld (k := 1) D hI hl rfl (by decide) dL_law_979 dL_law_980 dL_law_982 dL_law_983 dL_law_984 ?_
  cases ot with
  | none =>
    have hI : In g (Ah s) s.heap s (wHK g (B 0) (B 1 0) (B 13 0) (B 11 0) (B 10 0) (B 9 0) (B 6 0) (B 3 0) (B 4 0) (B 5 0) (B 12 0) cr.2.1 ++ (wRe g (B 1) (B 2 0) (B 14 0) re ++ (wTa g (B 2) ta ++ (wSe g (B 3) (B 7 0) cr.2.2.1 ++ (wWi g (B 4) (B 13 0) (B 8 0) ++ (wCo g (B 5) co ++ (wBo g (B 6) (B 13 0) bo ++ (wBo g (B 7) (B 13 0) cr.2.2.2 ++ (wBo g (B 8) (B 13 0) wb ++ (wHi g (B 9) hi ++ (wMo g (B 10) tr ++ (wMo g (B 11) now ++ (wCh g (B 12) ch ++ (wRi g (B 13) ri ++ (wTo g (B 14) to ++ (wOut g qo fo ++ (wMd g am none qr md ++ []))))))))))))))))) H locs := hI
    refine call_Vi X hI (Cj.skip (Cj.skip (Cj.skip (Cj.skip (Cj.skip (Cj.skip (Cj.skip (Cj.skip (Cj.skip (Cj.skip (Cj.skip (Cj.skip (Cj.skip (Cj.skip (Cj.skip (Cj.skip Cj.id)))))))))))))))) (c_X13_reached_N l g am qr md (xs (i + 1)) q.1 q.2 hq) ⟨rfl, rfl⟩ ⟨ht _ w_2271, w_2274, ht _ w_155, lk_X13_reached⟩ w_2272 w_2273 rfl rfl rfl hl rfl rfl dL_law_985 rfl rfl hc0 hs0 (fun H locs hI => ?_)
    refine lz_eq D h1 dL_law_988 (by decide) (kk _ _ _ hl ⟨cr.2.1, re, ta, cr.2.2.1, co, bo, cr.2.2.2, wb, hi, tr, now, ch, ri, to, q.2, none, an, qr, fo, h2, hI⟩)
  | some tn =>
    have hI : In g (Ah s) s.heap s (wHK g (B 0) (B 1 0) (B 13 0) (B 11 0) (B 10 0) (B 9 0) (B 6 0) (B 3 0) (B 4 0) (B 5 0) (B 12 0) cr.2.1 ++ (wRe g (B 1) (B 2 0) (B 14 0) re ++ (wTa g (B 2) ta ++ (wSe g (B 3) (B 7 0) cr.2.2.1 ++ (wWi g (B 4) (B 13 0) (B 8 0) ++ (wCo g (B 5) co ++ (wBo g (B 6) (B 13 0) bo ++ (wBo g (B 7) (B 13 0) cr.2.2.2 ++ (wBo g (B 8) (B 13 0) wb ++ (wHi g (B 9) hi ++ (wMo g (B 10) tr ++ (wMo g (B 11) now ++ (wCh g (B 12) ch ++ (wRi g (B 13) ri ++ (wTo g (B 14) to ++ (wOut g qo fo ++ (wMd g am (some (an 0)) qr md ++ (wTn g an tn ++ [])))))))))))))))))) H locs := hI
    refine call_Vi X hI (Cj.skip (Cj.skip (Cj.skip (Cj.skip (Cj.skip (Cj.skip (Cj.skip (Cj.skip (Cj.skip (Cj.skip (Cj.skip (Cj.skip (Cj.skip (Cj.skip (Cj.skip (Cj.skip Cj.id)))))))))))))))) (c_X13_reached l g am an qr md tn (xs (i + 1)) q.1 q.2 hq) ⟨rfl, rfl⟩ ⟨ht _ w_2271, w_2274, ht _ w_155, lk_X13_reached⟩ w_2272 w_2273 rfl rfl rfl hl rfl rfl dL_law_985 rfl rfl hc0 hs0 (fun H locs hI => ?_)
    refine lz_eq D h1 dL_law_988 (by decide) (kk _ _ _ hl ⟨cr.2.1, re, ta, cr.2.2.1, co, bo, cr.2.2.2, wb, hi, tr, now, ch, ri, to, q.2, (some tn), an, qr, fo, h2, hI⟩)
theorem k_few (D : LC p s m meth c b L i xs) (hl : lv_has ls 7 (lo5 b B am qo i)) (hL : LzI g s B am qo H locs) (hm : cells + 24 ≤ room_1.cells) (hm2 : slots + 311 ≤ room_1.slots)
    (kk : ∀ (H : Heap) (locs : List Loc) (ls : Array Slot), lv_has ls 7 (lo5 b B am qo i) → LzI g s B am qo H locs → W p l e room_1 s m #[.ref b] below meth c H locs (cells + 24) (slots + 311) Q (F0 m 1655 ls [])) : W p l e room_1 s m #[.ref b] below meth c H locs cells slots Q (F0 m 993 ls []) := by
  obtain ⟨hk, re, ta, se, co, bo, sb, wb, hi, tr, now, ch, ri, to, md, ot, an, qr, fo, hV, hI⟩ := hL
  obtain ⟨X, hX, hbl, hi6, hLm⟩ := id D
  obtain ⟨hx, hb, hml, hown, ht, hr, hlk⟩ := id X
  have hc0 : Nat.ble cells room_1.cells = true := Nat.ble_eq_true_of_le (Nat.le_trans (Nat.le_add_right _ _) hm)
  have hs0 : Nat.ble slots room_1.slots = true := Nat.ble_eq_true_of_le (Nat.le_trans (Nat.le_add_right _ _) hm2)
  obtain ⟨q, hq, cr, hc, h1, h2⟩ := i_few (sb := sb) hV (xs (i + 1))
  refine lv_aload_n hx hb dL_law_993 rfl (lv_at hl 1 rfl) ?_
  refine sc_ld (k := 1) D hI hl rfl (by decide) dL_law_994 dL_law_995 dL_law_997 dL_law_998 dL_law_999 ?_
  refine call_Vi X hI (Cj.keep (Cj.skip (Cj.skip (Cj.keep (Cj.skip (Cj.skip (Cj.skip (Cj.keep (Cj.skip (Cj.skip (Cj.skip (Cj.keep (Cj.skip (Cj.keep Cj.nil)))))))))))))) (c_X11_few l g (B 0) (B 3) (B 7) (B 11) (B 13) (B 1 0) (B 10 0) (B 9 0) (B 6 0) (B 4 0) (B 5 0) (B 12 0) hk se sb now ri (xs (i + 1)) cr.1 cr.2.1 cr.2.2.1 cr.2.2.2 hc) ⟨rfl, rfl⟩ ⟨ht _ w_1311, w_1314, ht _ w_139, lk_X11_few⟩ w_1312 w_1313 rfl rfl rfl hl rfl rfl dL_law_1000 rfl rfl hc0 hs0 (fun H locs hI => ?_)
  refine lv_aload_n hx hb dL_law_1003 rfl (lv_at hl 2 rfl) ?_
  refine sc_ld (k := 1) D hI hl rfl (by decide) dL_law_1004 dL_law_1005 dL_law_1007 dL_law_1008 dL_law_1009 ?_
  cases ot with
  | none =>
    have hI : In g (Ah s) s.heap s (wHK g (B 0) (B 1 0) (B 13 0) (B 11 0) (B 10 0) (B 9 0) (B 6 0) (B 3 0) (B 4 0) (B 5 0) (B 12 0) cr.2.1 ++ (wRe g (B 1) (B 2 0) (B 14 0) re ++ (wTa g (B 2) ta ++ (wSe g (B 3) (B 7 0) cr.2.2.1 ++ (wWi g (B 4) (B 13 0) (B 8 0) ++ (wCo g (B 5) co ++ (wBo g (B 6) (B 13 0) bo ++ (wBo g (B 7) (B 13 0) cr.2.2.2 ++ (wBo g (B 8) (B 13 0) wb ++ (wHi g (B 9) hi ++ (wMo g (B 10) tr ++ (wMo g (B 11) now ++ (wCh g (B 12) ch ++ (wRi g (B 13) ri ++ (wTo g (B 14) to ++ (wOut g qo fo ++ (wMd g am none qr md ++ []))))))))))))))))) H locs := hI
    refine call_Vi X hI (Cj.skip (Cj.skip (Cj.skip (Cj.skip (Cj.skip (Cj.skip (Cj.skip (Cj.skip (Cj.skip (Cj.skip (Cj.skip (Cj.skip (Cj.skip (Cj.skip (Cj.skip (Cj.skip Cj.id)))))))))))))))) (c_X13_few_N l g am qr md (xs (i + 1)) q.1 q.2 hq) ⟨rfl, rfl⟩ ⟨ht _ w_2279, w_2282, ht _ w_155, lk_X13_few⟩ w_2280 w_2281 rfl rfl rfl hl rfl rfl dL_law_1010 rfl rfl hc0 hs0 (fun H locs hI => ?_)
    refine lz_eq D h1 dL_law_1013 (by decide) (kk _ _ _ hl ⟨cr.2.1, re, ta, cr.2.2.1, co, bo, cr.2.2.2, wb, hi, tr, now, ch, ri, to, q.2, none, an, qr, fo, h2, hI⟩)
  | some tn =>
    have hI : In g (Ah s) s.heap s (wHK g (B 0) (B 1 0) (B 13 0) (B 11 0) (B 10 0) (B 9 0) (B 6 0) (B 3 0) (B 4 0) (B 5 0) (B 12 0) cr.2.1 ++ (wRe g (B 1) (B 2 0) (B 14 0) re ++ (wTa g (B 2) ta ++ (wSe g (B 3) (B 7 0) cr.2.2.1 ++ (wWi g (B 4) (B 13 0) (B 8 0) ++ (wCo g (B 5) co ++ (wBo g (B 6) (B 13 0) bo ++ (wBo g (B 7) (B 13 0) cr.2.2.2 ++ (wBo g (B 8) (B 13 0) wb ++ (wHi g (B 9) hi ++ (wMo g (B 10) tr ++ (wMo g (B 11) now ++ (wCh g (B 12) ch ++ (wRi g (B 13) ri ++ (wTo g (B 14) to ++ (wOut g qo fo ++ (wMd g am (some (an 0)) qr md ++ (wTn g an tn ++ [])))))))))))))))))) H locs := hI
    refine call_Vi X hI (Cj.skip (Cj.skip (Cj.skip (Cj.skip (Cj.skip (Cj.skip (Cj.skip (Cj.skip (Cj.skip (Cj.skip (Cj.skip (Cj.skip (Cj.skip (Cj.skip (Cj.skip (Cj.skip Cj.id)))))))))))))))) (c_X13_few l g am an qr md tn (xs (i + 1)) q.1 q.2 hq) ⟨rfl, rfl⟩ ⟨ht _ w_2279, w_2282, ht _ w_155, lk_X13_few⟩ w_2280 w_2281 rfl rfl rfl hl rfl rfl dL_law_1010 rfl rfl hc0 hs0 (fun H locs hI => ?_)
    refine lz_eq D h1 dL_law_1013 (by decide) (kk _ _ _ hl ⟨cr.2.1, re, ta, cr.2.2.1, co, bo, cr.2.2.2, wb, hi, tr, now, ch, ri, to, q.2, (some tn), an, qr, fo, h2, hI⟩)
theorem k_sees (D : LC p s m meth c b L i xs) (hl : lv_has ls 7 (lo5 b B am qo i)) (hL : LzI g s B am qo H locs) (hm : cells + 24 ≤ room_1.cells) (hm2 : slots + 311 ≤ room_1.slots)
    (kk : ∀ (H : Heap) (locs : List Loc) (ls : Array Slot), lv_has ls 7 (lo5 b B am qo i) → LzI g s B am qo H locs → W p l e room_1 s m #[.ref b] below meth c H locs (cells + 24) (slots + 311) Q (F0 m 1655 ls [])) : W p l e room_1 s m #[.ref b] below meth c H locs cells slots Q (F0 m 1018 ls []) := by
  obtain ⟨hk, re, ta, se, co, bo, sb, wb, hi, tr, now, ch, ri, to, md, ot, an, qr, fo, hV, hI⟩ := hL
  obtain ⟨X, hX, hbl, hi6, hLm⟩ := id D
  obtain ⟨hx, hb, hml, hown, ht, hr, hlk⟩ := id X
  have hc0 : Nat.ble cells room_1.cells = true := Nat.ble_eq_true_of_le (Nat.le_trans (Nat.le_add_right _ _) hm)
  have hs0 : Nat.ble slots room_1.slots = true := Nat.ble_eq_true_of_le (Nat.le_trans (Nat.le_add_right _ _) hm2)
  obtain ⟨q, hq, cr, hc, h1, h2⟩ := i_sees hV (xs (i + 1))
  refine lv_aload_n hx hb dL_law_1018 rfl (lv_at hl 1 rfl) ?_
  refine sc_ld (k := 1) D hI hl rfl (by decide) dL_law_1019 dL_law_1020 dL_law_1022 dL_law_1023 dL_law_1024 ?_
  refine call_Vi X hI (Cj.keep (Cj.skip (Cj.skip (Cj.skip (Cj.skip (Cj.skip (Cj.keep (Cj.skip (Cj.skip (Cj.skip (Cj.skip (Cj.skip (Cj.skip (Cj.keep Cj.nil)))))))))))))) (c_X11_sees l g (B 0) (B 6) (B 13) (B 1 0) (B 11 0) (B 10 0) (B 9 0) (B 3 0) (B 4 0) (B 5 0) (B 12 0) hk bo ri (xs (i + 1)) cr.1 cr.2 hc) ⟨rfl, rfl⟩ ⟨ht _ w_1324, w_1327, ht _ w_139, lk_X11_sees⟩ w_1325 w_1326 rfl rfl rfl hl rfl rfl dL_law_1025 rfl rfl hc0 hs0 (fun H locs hI => ?_)
  refine lv_aload_n hx hb dL_law_1028 rfl (lv_at hl 2 rfl) ?_
  refine sc_ld (k := 1) D hI hl rfl (by decide) dL_law_1029 dL_law_1030 dL_law_1032 dL_law_1033 dL_law_1034 ?_
  cases ot with
  | none =>
    have hI : In g (Ah s) s.heap s (wHK g (B 0) (B 1 0) (B 13 0) (B 11 0) (B 10 0) (B 9 0) (B 6 0) (B 3 0) (B 4 0) (B 5 0) (B 12 0) cr.2 ++ (wRe g (B 1) (B 2 0) (B 14 0) re ++ (wTa g (B 2) ta ++ (wSe g (B 3) (B 7 0) se ++ (wWi g (B 4) (B 13 0) (B 8 0) ++ (wCo g (B 5) co ++ (wBo g (B 6) (B 13 0) bo ++ (wBo g (B 7) (B 13 0) sb ++ (wBo g (B 8) (B 13 0) wb ++ (wHi g (B 9) hi ++ (wMo g (B 10) tr ++ (wMo g (B 11) now ++ (wCh g (B 12) ch ++ (wRi g (B 13) ri ++ (wTo g (B 14) to ++ (wOut g qo fo ++ (wMd g am none qr md ++ []))))))))))))))))) H locs := hI
    refine call_Vi X hI (Cj.skip (Cj.skip (Cj.skip (Cj.skip (Cj.skip (Cj.skip (Cj.skip (Cj.skip (Cj.skip (Cj.skip (Cj.skip (Cj.skip (Cj.skip (Cj.skip (Cj.skip (Cj.skip Cj.id)))))))))))))))) (c_X13_sees_N l g am qr md (xs (i + 1)) q.1 q.2 hq) ⟨rfl, rfl⟩ ⟨ht _ w_2283, w_2286, ht _ w_155, lk_X13_sees⟩ w_2284 w_2285 rfl rfl rfl hl rfl rfl dL_law_1035 rfl rfl hc0 hs0 (fun H locs hI => ?_)
    refine lz_eq D h1 dL_law_1038 (by decide) (kk _ _ _ hl ⟨cr.2, re, ta, se, co, bo, sb, wb, hi, tr, now, ch, ri, to, q.2, none, an, qr, fo, h2, hI⟩)
  | some tn =>
    have hI : In g (Ah s) s.heap s (wHK g (B 0) (B 1 0) (B 13 0) (B 11 0) (B 10 0) (B 9 0) (B 6 0) (B 3 0) (B 4 0) (B 5 0) (B 12 0) cr.2 ++ (wRe g (B 1) (B 2 0) (B 14 0) re ++ (wTa g (B 2) ta ++ (wSe g (B 3) (B 7 0) se ++ (wWi g (B 4) (B 13 0) (B 8 0) ++ (wCo g (B 5) co ++ (wBo g (B 6) (B 13 0) bo ++ (wBo g (B 7) (B 13 0) sb ++ (wBo g (B 8) (B 13 0) wb ++ (wHi g (B 9) hi ++ (wMo g (B 10) tr ++ (wMo g (B 11) now ++ (wCh g (B 12) ch ++ (wRi g (B 13) ri ++ (wTo g (B 14) to ++ (wOut g qo fo ++ (wMd g am (some (an 0)) qr md ++ (wTn g an tn ++ [])))))))))))))))))) H locs := hI
    refine call_Vi X hI (Cj.skip (Cj.skip (Cj.skip (Cj.skip (Cj.skip (Cj.skip (Cj.skip (Cj.skip (Cj.skip (Cj.skip (Cj.skip (Cj.skip (Cj.skip (Cj.skip (Cj.skip (Cj.skip Cj.id)))))))))))))))) (c_X13_sees l g am an qr md tn (xs (i + 1)) q.1 q.2 hq) ⟨rfl, rfl⟩ ⟨ht _ w_2283, w_2286, ht _ w_155, lk_X13_sees⟩ w_2284 w_2285 rfl rfl rfl hl rfl rfl dL_law_1035 rfl rfl hc0 hs0 (fun H locs hI => ?_)
    refine lz_eq D h1 dL_law_1038 (by decide) (kk _ _ _ hl ⟨cr.2, re, ta, se, co, bo, sb, wb, hi, tr, now, ch, ri, to, q.2, (some tn), an, qr, fo, h2, hI⟩)
theorem k_own (D : LC p s m meth c b L i xs) (hl : lv_has ls 7 (lo5 b B am qo i)) (hL : LzI g s B am qo H locs) (hm : cells + 24 ≤ room_1.cells) (hm2 : slots + 311 ≤ room_1.slots)
    (kk : ∀ (H : Heap) (locs : List Loc) (ls : Array Slot), lv_has ls 7 (lo5 b B am qo i) → LzI g s B am qo H locs → W p l e room_1 s m #[.ref b] below meth c H locs (cells + 24) (slots + 311) Q (F0 m 1655 ls [])) : W p l e room_1 s m #[.ref b] below meth c H locs cells slots Q (F0 m 1043 ls []) := by
  obtain ⟨hk, re, ta, se, co, bo, sb, wb, hi, tr, now, ch, ri, to, md, ot, an, qr, fo, hV, hI⟩ := hL
  obtain ⟨X, hX, hbl, hi6, hLm⟩ := id D
  obtain ⟨hx, hb, hml, hown, ht, hr, hlk⟩ := id X
  have hc0 : Nat.ble cells room_1.cells = true := Nat.ble_eq_true_of_le (Nat.le_trans (Nat.le_add_right _ _) hm)
  have hs0 : Nat.ble slots room_1.slots = true := Nat.ble_eq_true_of_le (Nat.le_trans (Nat.le_add_right _ _) hm2)
  obtain ⟨q, hq, cr, hc, h1, h2⟩ := i_own hV (xs (i + 1))
  refine lv_aload_n hx hb dL_law_1043 rfl (lv_at hl 1 rfl) ?_
  refine sc_ld (k := 1) D hI hl rfl (by decide) dL_law_1044 dL_law_1045 dL_law_1047 dL_law_1048 dL_law_1049 ?_
  refine call_Vi X hI (Cj.keep (Cj.skip (Cj.skip (Cj.skip (Cj.skip (Cj.skip (Cj.keep (Cj.skip (Cj.skip (Cj.skip (Cj.skip (Cj.skip (Cj.skip (Cj.keep Cj.nil)))))))))))))) (c_X11_own l g (B 0) (B 6) (B 13) (B 1 0) (B 11 0) (B 10 0) (B 9 0) (B 3 0) (B 4 0) (B 5 0) (B 12 0) hk bo ri (xs (i + 1)) cr.1 cr.2 hc) ⟨rfl, rfl⟩ ⟨ht _ w_1332, w_1335, ht _ w_139, lk_X11_own⟩ w_1333 w_1334 rfl rfl rfl hl rfl rfl dL_law_1050 rfl rfl hc0 hs0 (fun H locs hI => ?_)
  refine lv_aload_n hx hb dL_law_1053 rfl (lv_at hl 2 rfl) ?_
  refine sc_ld (k := 1) D hI hl rfl (by decide) dL_law_1054 dL_law_1055 dL_law_1057 dL_law_1058 dL_law_1059 ?_
  cases ot with
  | none =>
    have hI : In g (Ah s) s.heap s (wHK g (B 0) (B 1 0) (B 13 0) (B 11 0) (B 10 0) (B 9 0) (B 6 0) (B 3 0) (B 4 0) (B 5 0) (B 12 0) cr.2 ++ (wRe g (B 1) (B 2 0) (B 14 0) re ++ (wTa g (B 2) ta ++ (wSe g (B 3) (B 7 0) se ++ (wWi g (B 4) (B 13 0) (B 8 0) ++ (wCo g (B 5) co ++ (wBo g (B 6) (B 13 0) bo ++ (wBo g (B 7) (B 13 0) sb ++ (wBo g (B 8) (B 13 0) wb ++ (wHi g (B 9) hi ++ (wMo g (B 10) tr ++ (wMo g (B 11) now ++ (wCh g (B 12) ch ++ (wRi g (B 13) ri ++ (wTo g (B 14) to ++ (wOut g qo fo ++ (wMd g am none qr md ++ []))))))))))))))))) H locs := hI
    refine call_Vi X hI (Cj.skip (Cj.skip (Cj.skip (Cj.skip (Cj.skip (Cj.skip (Cj.skip (Cj.skip (Cj.skip (Cj.skip (Cj.skip (Cj.skip (Cj.skip (Cj.skip (Cj.skip (Cj.skip Cj.id)))))))))))))))) (c_X13_own_N l g am qr md (xs (i + 1)) q.1 q.2 hq) ⟨rfl, rfl⟩ ⟨ht _ w_2291, w_2294, ht _ w_155, lk_X13_own⟩ w_2292 w_2293 rfl rfl rfl hl rfl rfl dL_law_1060 rfl rfl hc0 hs0 (fun H locs hI => ?_)
    refine lz_eq D h1 dL_law_1063 (by decide) (kk _ _ _ hl ⟨cr.2, re, ta, se, co, bo, sb, wb, hi, tr, now, ch, ri, to, q.2, none, an, qr, fo, h2, hI⟩)
  | some tn =>
    have hI : In g (Ah s) s.heap s (wHK g (B 0) (B 1 0) (B 13 0) (B 11 0) (B 10 0) (B 9 0) (B 6 0) (B 3 0) (B 4 0) (B 5 0) (B 12 0) cr.2 ++ (wRe g (B 1) (B 2 0) (B 14 0) re ++ (wTa g (B 2) ta ++ (wSe g (B 3) (B 7 0) se ++ (wWi g (B 4) (B 13 0) (B 8 0) ++ (wCo g (B 5) co ++ (wBo g (B 6) (B 13 0) bo ++ (wBo g (B 7) (B 13 0) sb ++ (wBo g (B 8) (B 13 0) wb ++ (wHi g (B 9) hi ++ (wMo g (B 10) tr ++ (wMo g (B 11) now ++ (wCh g (B 12) ch ++ (wRi g (B 13) ri ++ (wTo g (B 14) to ++ (wOut g qo fo ++ (wMd g am (some (an 0)) qr md ++ (wTn g an tn ++ [])))))))))))))))))) H locs := hI
    refine call_Vi X hI (Cj.skip (Cj.skip (Cj.skip (Cj.skip (Cj.skip (Cj.skip (Cj.skip (Cj.skip (Cj.skip (Cj.skip (Cj.skip (Cj.skip (Cj.skip (Cj.skip (Cj.skip (Cj.skip Cj.id)))))))))))))))) (c_X13_own l g am an qr md tn (xs (i + 1)) q.1 q.2 hq) ⟨rfl, rfl⟩ ⟨ht _ w_2291, w_2294, ht _ w_155, lk_X13_own⟩ w_2292 w_2293 rfl rfl rfl hl rfl rfl dL_law_1060 rfl rfl hc0 hs0 (fun H locs hI => ?_)
    refine lz_eq D h1 dL_law_1063 (by decide) (kk _ _ _ hl ⟨cr.2, re, ta, se, co, bo, sb, wb, hi, tr, now, ch, ri, to, q.2, (some tn), an, qr, fo, h2, hI⟩)
theorem k_rounds (D : LC p s m meth c b L i xs) (hl : lv_has ls 7 (lo5 b B am qo i)) (hL : LzI g s B am qo H locs) (hm : cells + 24 ≤ room_1.cells) (hm2 : slots + 311 ≤ room_1.slots)
    (kk : ∀ (H : Heap) (locs : List Loc) (ls : Array Slot), lv_has ls 7 (lo5 b B am qo i) → LzI g s B am qo H locs → W p l e room_1 s m #[.ref b] below meth c H locs (cells + 24) (slots + 311) Q (F0 m 1655 ls [])) : W p l e room_1 s m #[.ref b] below meth c H locs cells slots Q (F0 m 1068 ls []) := by
  obtain ⟨hk, re, ta, se, co, bo, sb, wb, hi, tr, now, ch, ri, to, md, ot, an, qr, fo, hV, hI⟩ := hL
  obtain ⟨X, hX, hbl, hi6, hLm⟩ := id D
  obtain ⟨hx, hb, hml, hown, ht, hr, hlk⟩ := id X
  have hc0 : Nat.ble cells room_1.cells = true := Nat.ble_eq_true_of_le (Nat.le_trans (Nat.le_add_right _ _) hm)
  have hs0 : Nat.ble slots room_1.slots = true := Nat.ble_eq_true_of_le (Nat.le_trans (Nat.le_add_right _ _) hm2)
  obtain ⟨q, hq, cr, hc, h1, h2⟩ := i_rounds (wb := wb) hV (xs (i + 1))
  refine lv_aload_n hx hb dL_law_1068 rfl (lv_at hl 1 rfl) ?_
  refine sc_ld (k := 1) D hI hl rfl (by decide) dL_law_1069 dL_law_1070 dL_law_1072 dL_law_1073 dL_law_1074 ?_
  refine call_Vi X hI (Cj.keep (Cj.skip (Cj.skip (Cj.skip (Cj.keep (Cj.skip (Cj.skip (Cj.skip (Cj.keep (Cj.skip (Cj.skip (Cj.keep (Cj.skip (Cj.keep Cj.nil)))))))))))))) (c_X11_rounds l g (B 0) (B 4) (B 8) (B 11) (B 13) (B 1 0) (B 10 0) (B 9 0) (B 6 0) (B 3 0) (B 5 0) (B 12 0) hk wb now ri (xs (i + 1)) cr.1 cr.2.1 cr.2.2 hc) ⟨rfl, rfl⟩ ⟨ht _ w_1343, w_1346, ht _ w_139, lk_X11_rounds⟩ w_1344 w_1345 rfl rfl rfl hl rfl rfl dL_law_1075 rfl rfl hc0 hs0 (fun H locs hI => ?_)
  refine lv_aload_n hx hb dL_law_1078 rfl (lv_at hl 2 rfl) ?_
  refine sc_ld (k := 1) D hI hl rfl (by decide) dL_law_1079 dL_law_1080 dL_law_1082 dL_law_1083 dL_law_1084 ?_
  cases ot with
  | none =>
    have hI : In g (Ah s) s.heap s (wHK g (B 0) (B 1 0) (B 13 0) (B 11 0) (B 10 0) (B 9 0) (B 6 0) (B 3 0) (B 4 0) (B 5 0) (B 12 0) cr.2.1 ++ (wRe g (B 1) (B 2 0) (B 14 0) re ++ (wTa g (B 2) ta ++ (wSe g (B 3) (B 7 0) se ++ (wWi g (B 4) (B 13 0) (B 8 0) ++ (wCo g (B 5) co ++ (wBo g (B 6) (B 13 0) bo ++ (wBo g (B 7) (B 13 0) sb ++ (wBo g (B 8) (B 13 0) cr.2.2 ++ (wHi g (B 9) hi ++ (wMo g (B 10) tr ++ (wMo g (B 11) now ++ (wCh g (B 12) ch ++ (wRi g (B 13) ri ++ (wTo g (B 14) to ++ (wOut g qo fo ++ (wMd g am none qr md ++ []))))))))))))))))) H locs := hI
    refine call_Vi X hI (Cj.skip (Cj.skip (Cj.skip (Cj.skip (Cj.skip (Cj.skip (Cj.skip (Cj.skip (Cj.skip (Cj.skip (Cj.skip (Cj.skip (Cj.skip (Cj.skip (Cj.skip (Cj.skip Cj.id)))))))))))))))) (c_X13_rounds_N l g am qr md (xs (i + 1)) q.1 q.2 hq) ⟨rfl, rfl⟩ ⟨ht _ w_2302, w_2305, ht _ w_155, lk_X13_rounds⟩ w_2303 w_2304 rfl rfl rfl hl rfl rfl dL_law_1085 rfl rfl hc0 hs0 (fun H locs hI => ?_)
    refine lz_eq D h1 dL_law_1088 (by decide) (kk _ _ _ hl ⟨cr.2.1, re, ta, se, co, bo, sb, cr.2.2, hi, tr, now, ch, ri, to, q.2, none, an, qr, fo, h2, hI⟩)
  | some tn =>
    have hI : In g (Ah s) s.heap s (wHK g (B 0) (B 1 0) (B 13 0) (B 11 0) (B 10 0) (B 9 0) (B 6 0) (B 3 0) (B 4 0) (B 5 0) (B 12 0) cr.2.1 ++ (wRe g (B 1) (B 2 0) (B 14 0) re ++ (wTa g (B 2) ta ++ (wSe g (B 3) (B 7 0) se ++ (wWi g (B 4) (B 13 0) (B 8 0) ++ (wCo g (B 5) co ++ (wBo g (B 6) (B 13 0) bo ++ (wBo g (B 7) (B 13 0) sb ++ (wBo g (B 8) (B 13 0) cr.2.2 ++ (wHi g (B 9) hi ++ (wMo g (B 10) tr ++ (wMo g (B 11) now ++ (wCh g (B 12) ch ++ (wRi g (B 13) ri ++ (wTo g (B 14) to ++ (wOut g qo fo ++ (wMd g am (some (an 0)) qr md ++ (wTn g an tn ++ [])))))))))))))))))) H locs := hI
    refine call_Vi X hI (Cj.skip (Cj.skip (Cj.skip (Cj.skip (Cj.skip (Cj.skip (Cj.skip (Cj.skip (Cj.skip (Cj.skip (Cj.skip (Cj.skip (Cj.skip (Cj.skip (Cj.skip (Cj.skip Cj.id)))))))))))))))) (c_X13_rounds l g am an qr md tn (xs (i + 1)) q.1 q.2 hq) ⟨rfl, rfl⟩ ⟨ht _ w_2302, w_2305, ht _ w_155, lk_X13_rounds⟩ w_2303 w_2304 rfl rfl rfl hl rfl rfl dL_law_1085 rfl rfl hc0 hs0 (fun H locs hI => ?_)
    refine lz_eq D h1 dL_law_1088 (by decide) (kk _ _ _ hl ⟨cr.2.1, re, ta, se, co, bo, sb, cr.2.2, hi, tr, now, ch, ri, to, q.2, (some tn), an, qr, fo, h2, hI⟩)
theorem k_tries (D : LC p s m meth c b L i xs) (hl : lv_has ls 7 (lo5 b B am qo i)) (hL : LzI g s B am qo H locs) (hm : cells + 24 ≤ room_1.cells) (hm2 : slots + 311 ≤ room_1.slots)
    (kk : ∀ (H : Heap) (locs : List Loc) (ls : Array Slot), lv_has ls 7 (lo5 b B am qo i) → LzI g s B am qo H locs → W p l e room_1 s m #[.ref b] below meth c H locs (cells + 24) (slots + 311) Q (F0 m 1655 ls [])) : W p l e room_1 s m #[.ref b] below meth c H locs cells slots Q (F0 m 1093 ls []) := by
  obtain ⟨hk, re, ta, se, co, bo, sb, wb, hi, tr, now, ch, ri, to, md, ot, an, qr, fo, hV, hI⟩ := hL
  obtain ⟨X, hX, hbl, hi6, hLm⟩ := id D
  obtain ⟨hx, hb, hml, hown, ht, hr, hlk⟩ := id X
  have hc0 : Nat.ble cells room_1.cells = true := Nat.ble_eq_true_of_le (Nat.le_trans (Nat.le_add_right _ _) hm)
  have hs0 : Nat.ble slots room_1.slots = true := Nat.ble_eq_true_of_le (Nat.le_trans (Nat.le_add_right _ _) hm2)
  obtain ⟨q, hq, cr, hc, h1, h2⟩ := i_tries (wb := wb) hV (xs (i + 1)) (xs (i + 2)) (xs (i + 3))
  refine lv_aload_n hx hb dL_law_1093 rfl (lv_at hl 1 rfl) ?_
  refine sc_ld (k := 1) D hI hl rfl (by decide) dL_law_1094 dL_law_1095 dL_law_1097 dL_law_1098 dL_law_1099 ?_
  refine sc_ld (k := 2) D hI hl rfl (by decide) dL_law_1100 dL_law_1101 dL_law_1103 dL_law_1104 dL_law_1105 ?_
  refine sc_ld (k := 3) D hI hl rfl (by decide) dL_law_1106 dL_law_1107 dL_law_1109 dL_law_1110 dL_law_1111 ?_
  refine call_Vi X hI (Cj.keep (Cj.skip (Cj.skip (Cj.skip (Cj.keep (Cj.skip (Cj.skip (Cj.skip (Cj.keep (Cj.skip (Cj.skip (Cj.keep (Cj.skip (Cj.keep Cj.nil)))))))))))))) (c_X11_tries l g (B 0) (B 4) (B 8) (B 11) (B 13) (B 1 0) (B 10 0) (B 9 0) (B 6 0) (B 3 0) (B 5 0) (B 12 0) hk wb now ri (xs (i + 1)) (xs (i + 2)) (xs (i + 3)) cr.1 cr.2.1 cr.2.2 hc) ⟨rfl, rfl⟩ ⟨ht _ w_1358, w_1361, ht _ w_139, lk_X11_tries⟩ w_1359 w_1360 rfl rfl rfl hl rfl rfl dL_law_1112 rfl rfl hc0 hs0 (fun H locs hI => ?_)
  refine lv_aload_n hx hb dL_law_1115 rfl (lv_at hl 2 rfl) ?_
  refine sc_ld (k := 1) D hI hl rfl (by decide) dL_law_1116 dL_law_1117 dL_law_1119 dL_law_1120 dL_law_1121 ?_
  refine sc_ld (k := 2) D hI hl rfl (by decide) dL_law_1122 dL_law_1123 dL_law_1125 dL_law_1126 dL_law_1127 ?_
  refine sc_ld (k := 3) D hI hl rfl (by decide) dL_law_1128 dL_law_1129 dL_law_1131 dL_law_1132 dL_law_1133 ?_
  cases ot with
  | none =>
    have hI : In g (Ah s) s.heap s (wHK g (B 0) (B 1 0) (B 13 0) (B 11 0) (B 10 0) (B 9 0) (B 6 0) (B 3 0) (B 4 0) (B 5 0) (B 12 0) cr.2.1 ++ (wRe g (B 1) (B 2 0) (B 14 0) re ++ (wTa g (B 2) ta ++ (wSe g (B 3) (B 7 0) se ++ (wWi g (B 4) (B 13 0) (B 8 0) ++ (wCo g (B 5) co ++ (wBo g (B 6) (B 13 0) bo ++ (wBo g (B 7) (B 13 0) sb ++ (wBo g (B 8) (B 13 0) cr.2.2 ++ (wHi g (B 9) hi ++ (wMo g (B 10) tr ++ (wMo g (B 11) now ++ (wCh g (B 12) ch ++ (wRi g (B 13) ri ++ (wTo g (B 14) to ++ (wOut g qo fo ++ (wMd g am none qr md ++ []))))))))))))))))) H locs := hI
    refine call_Vi X hI (Cj.skip (Cj.skip (Cj.skip (Cj.skip (Cj.skip (Cj.skip (Cj.skip (Cj.skip (Cj.skip (Cj.skip (Cj.skip (Cj.skip (Cj.skip (Cj.skip (Cj.skip (Cj.skip Cj.id)))))))))))))))) (c_X13_tries_N l g am qr md (xs (i + 1)) (xs (i + 2)) (xs (i + 3)) q.1 q.2 hq) ⟨rfl, rfl⟩ ⟨ht _ w_2306, w_2309, ht _ w_155, lk_X13_tries⟩ w_2307 w_2308 rfl rfl rfl hl rfl rfl dL_law_1134 rfl rfl hc0 hs0 (fun H locs hI => ?_)
    refine lz_eq D h1 dL_law_1137 (by decide) (kk _ _ _ hl ⟨cr.2.1, re, ta, se, co, bo, sb, cr.2.2, hi, tr, now, ch, ri, to, q.2, none, an, qr, fo, h2, hI⟩)
  | some tn =>
    have hI : In g (Ah s) s.heap s (wHK g (B 0) (B 1 0) (B 13 0) (B 11 0) (B 10 0) (B 9 0) (B 6 0) (B 3 0) (B 4 0) (B 5 0) (B 12 0) cr.2.1 ++ (wRe g (B 1) (B 2 0) (B 14 0) re ++ (wTa g (B 2) ta ++ (wSe g (B 3) (B 7 0) se ++ (wWi g (B 4) (B 13 0) (B 8 0) ++ (wCo g (B 5) co ++ (wBo g (B 6) (B 13 0) bo ++ (wBo g (B 7) (B 13 0) sb ++ (wBo g (B 8) (B 13 0) cr.2.2 ++ (wHi g (B 9) hi ++ (wMo g (B 10) tr ++ (wMo g (B 11) now ++ (wCh g (B 12) ch ++ (wRi g (B 13) ri ++ (wTo g (B 14) to ++ (wOut g qo fo ++ (wMd g am (some (an 0)) qr md ++ (wTn g an tn ++ [])))))))))))))))))) H locs := hI
    refine call_Vi X hI (Cj.skip (Cj.skip (Cj.skip (Cj.skip (Cj.skip (Cj.skip (Cj.skip (Cj.skip (Cj.skip (Cj.skip (Cj.skip (Cj.skip (Cj.skip (Cj.skip (Cj.skip (Cj.skip Cj.id)))))))))))))))) (c_X13_tries l g am an qr md tn (xs (i + 1)) (xs (i + 2)) (xs (i + 3)) q.1 q.2 hq) ⟨rfl, rfl⟩ ⟨ht _ w_2306, w_2309, ht _ w_155, lk_X13_tries⟩ w_2307 w_2308 rfl rfl rfl hl rfl rfl dL_law_1134 rfl rfl hc0 hs0 (fun H locs hI => ?_)
    refine lz_eq D h1 dL_law_1137 (by decide) (kk _ _ _ hl ⟨cr.2.1, re, ta, se, co, bo, sb, cr.2.2, hi, tr, now, ch, ri, to, q.2, (some tn), an, qr, fo, h2, hI⟩)
theorem k_ways (D : LC p s m meth c b L i xs) (hl : lv_has ls 7 (lo5 b B am qo i)) (hL : LzI g s B am qo H locs) (hm : cells + 24 ≤ room_1.cells) (hm2 : slots + 311 ≤ room_1.slots)
    (kk : ∀ (H : Heap) (locs : List Loc) (ls : Array Slot), lv_has ls 7 (lo5 b B am qo i) → LzI g s B am qo H locs → W p l e room_1 s m #[.ref b] below meth c H locs (cells + 24) (slots + 311) Q (F0 m 1655 ls [])) : W p l e room_1 s m #[.ref b] below meth c H locs cells slots Q (F0 m 1142 ls []) := by
  obtain ⟨hk, re, ta, se, co, bo, sb, wb, hi, tr, now, ch, ri, to, md, ot, an, qr, fo, hV, hI⟩ := hL
  obtain ⟨X, hX, hbl, hi6, hLm⟩ := id D
  obtain ⟨hx, hb, hml, hown, ht, hr, hlk⟩ := id X
  have hc0 : Nat.ble cells room_1.cells = true := Nat.ble_eq_true_of_le (Nat.le_trans (Nat.le_add_right _ _) hm)
  have hs0 : Nat.ble slots room_1.slots = true := Nat.ble_eq_true_of_le (Nat.le_trans (Nat.le_add_right _ _) hm2)
  obtain ⟨q, hq, cr, hc, h1, h2⟩ := i_ways hV (xs (i + 1)) (xs (i + 2)) (decide (xs (i + 3) ≠ 0))
  refine lv_aload_n hx hb dL_law_1142 rfl (lv_at hl 1 rfl) ?_
  refine sc_ld (k := 1) D hI hl rfl (by decide) dL_law_1143 dL_law_1144 dL_law_1146 dL_law_1147 dL_law_1148 ?_
  refine sc_ld (k := 2) D hI hl rfl (by decide) dL_law_1149 dL_law_1150 dL_law_1152 dL_law_1153 dL_law_1154 ?_
  refine sc_ld (k := 3) D hI hl rfl (by decide) dL_law_1155 dL_law_1156 dL_law_1158 dL_law_1159 dL_law_1160 ?_
  refine sc_bool D dL_law_1161 dL_law_1164 dL_law_1165 dL_law_1168 ?_
  refine call_Vl X hI (Cj.keep (Cj.skip (Cj.skip (Cj.skip (Cj.skip (Cj.skip (Cj.skip (Cj.skip (Cj.skip (Cj.skip (Cj.skip (Cj.skip (Cj.keep Cj.nil))))))))))))) (c_X11_ways l g (B 0) (B 12) (B 1 0) (B 13 0) (B 11 0) (B 10 0) (B 9 0) (B 6 0) (B 3 0) (B 4 0) (B 5 0) hk ch (xs (i + 1)) (xs (i + 2)) (bI (decide (xs (i + 3) ≠ 0))) cr.1 cr.2.1 cr.2.2 hc) ⟨rfl, rfl⟩ ⟨ht _ w_1378, w_1381, ht _ w_139, lk_X11_ways⟩ w_1379 w_1380 rfl rfl rfl hl rfl rfl dL_law_1169 rfl rfl hc0 hs0 (fun H locs hI => ?_)
  refine lv_aload_n hx hb dL_law_1172 rfl (lv_at hl 2 rfl) ?_
  refine sc_ld (k := 1) D hI hl rfl (by decide) dL_law_1173 dL_law_1174 dL_law_1176 dL_law_1177 dL_law_1178 ?_
  refine sc_ld (k := 2) D hI hl rfl (by decide) dL_law_1179 dL_law_1180 dL_law_1182 dL_law_1183 dL_law_1184 ?_
  refine sc_ld (k := 3) D hI hl rfl (by decide) dL_law_1185 dL_law_1186 dL_law_1188 dL_law_1189 dL_law_1190 ?_
  refine sc_bool D dL_law_1191 dL_law_1194 dL_law_1195 dL_law_1198 ?_
  cases ot with
  | none =>
    have hI : In g (Ah s) s.heap s (wHK g (B 0) (B 1 0) (B 13 0) (B 11 0) (B 10 0) (B 9 0) (B 6 0) (B 3 0) (B 4 0) (B 5 0) (B 12 0) cr.2.1 ++ (wRe g (B 1) (B 2 0) (B 14 0) re ++ (wTa g (B 2) ta ++ (wSe g (B 3) (B 7 0) se ++ (wWi g (B 4) (B 13 0) (B 8 0) ++ (wCo g (B 5) co ++ (wBo g (B 6) (B 13 0) bo ++ (wBo g (B 7) (B 13 0) sb ++ (wBo g (B 8) (B 13 0) wb ++ (wHi g (B 9) hi ++ (wMo g (B 10) tr ++ (wMo g (B 11) now ++ (wCh g (B 12) cr.2.2 ++ (wRi g (B 13) ri ++ (wTo g (B 14) to ++ (wOut g qo fo ++ (wMd g am none qr md ++ []))))))))))))))))) H locs := hI
    refine call_Vl X hI (Cj.skip (Cj.skip (Cj.skip (Cj.skip (Cj.skip (Cj.skip (Cj.skip (Cj.skip (Cj.skip (Cj.skip (Cj.skip (Cj.skip (Cj.skip (Cj.skip (Cj.skip (Cj.skip (Cj.keep Cj.nil))))))))))))))))) (c_X13_ways l g am none qr md (xs (i + 1)) (xs (i + 2)) (bI (decide (xs (i + 3) ≠ 0))) q.1 q.2 hq) ⟨rfl, rfl⟩ ⟨ht _ w_2318, w_2321, ht _ w_155, lk_X13_ways⟩ w_2319 w_2320 rfl rfl rfl hl rfl rfl dL_law_1199 rfl rfl hc0 hs0 (fun H locs hI => ?_)
    refine lz_eqL D h1 dL_law_1202 dL_law_1203 (by decide) (kk _ _ _ hl ⟨cr.2.1, re, ta, se, co, bo, sb, wb, hi, tr, now, cr.2.2, ri, to, q.2, none, an, qr, fo, h2, hI⟩)
  | some tn =>
    have hI : In g (Ah s) s.heap s (wHK g (B 0) (B 1 0) (B 13 0) (B 11 0) (B 10 0) (B 9 0) (B 6 0) (B 3 0) (B 4 0) (B 5 0) (B 12 0) cr.2.1 ++ (wRe g (B 1) (B 2 0) (B 14 0) re ++ (wTa g (B 2) ta ++ (wSe g (B 3) (B 7 0) se ++ (wWi g (B 4) (B 13 0) (B 8 0) ++ (wCo g (B 5) co ++ (wBo g (B 6) (B 13 0) bo ++ (wBo g (B 7) (B 13 0) sb ++ (wBo g (B 8) (B 13 0) wb ++ (wHi g (B 9) hi ++ (wMo g (B 10) tr ++ (wMo g (B 11) now ++ (wCh g (B 12) cr.2.2 ++ (wRi g (B 13) ri ++ (wTo g (B 14) to ++ (wOut g qo fo ++ (wMd g am (some (an 0)) qr md ++ (wTn g an tn ++ [])))))))))))))))))) H locs := hI
    refine call_Vl X hI (Cj.skip (Cj.skip (Cj.skip (Cj.skip (Cj.skip (Cj.skip (Cj.skip (Cj.skip (Cj.skip (Cj.skip (Cj.skip (Cj.skip (Cj.skip (Cj.skip (Cj.skip (Cj.skip (Cj.keep Cj.nil))))))))))))))))) (c_X13_ways l g am (some (an 0)) qr md (xs (i + 1)) (xs (i + 2)) (bI (decide (xs (i + 3) ≠ 0))) q.1 q.2 hq) ⟨rfl, rfl⟩ ⟨ht _ w_2318, w_2321, ht _ w_155, lk_X13_ways⟩ w_2319 w_2320 rfl rfl rfl hl rfl rfl dL_law_1199 rfl rfl hc0 hs0 (fun H locs hI => ?_)
    refine lz_eqL D h1 dL_law_1202 dL_law_1203 (by decide) (kk _ _ _ hl ⟨cr.2.1, re, ta, se, co, bo, sb, wb, hi, tr, now, cr.2.2, ri, to, q.2, (some tn), an, qr, fo, h2, hI⟩)
theorem k_odds (D : LC p s m meth c b L i xs) (hl : lv_has ls 7 (lo5 b B am qo i)) (hL : LzI g s B am qo H locs) (hm : cells + 24 ≤ room_1.cells) (hm2 : slots + 311 ≤ room_1.slots)
    (kk : ∀ (H : Heap) (locs : List Loc) (ls : Array Slot), lv_has ls 7 (lo5 b B am qo i) → LzI g s B am qo H locs → W p l e room_1 s m #[.ref b] below meth c H locs (cells + 24) (slots + 311) Q (F0 m 1655 ls [])) : W p l e room_1 s m #[.ref b] below meth c H locs cells slots Q (F0 m 1208 ls []) := by
  obtain ⟨hk, re, ta, se, co, bo, sb, wb, hi, tr, now, ch, ri, to, md, ot, an, qr, fo, hV, hI⟩ := hL
  obtain ⟨X, hX, hbl, hi6, hLm⟩ := id D
  obtain ⟨hx, hb, hml, hown, ht, hr, hlk⟩ := id X
  have hc0 : Nat.ble cells room_1.cells = true := Nat.ble_eq_true_of_le (Nat.le_trans (Nat.le_add_right _ _) hm)
  have hs0 : Nat.ble slots room_1.slots = true := Nat.ble_eq_true_of_le (Nat.le_trans (Nat.le_add_right _ _) hm2)
  obtain ⟨q, hq, cr, hc, h1, h2⟩ := i_odds hV (xs (i + 1)) (xs (i + 2)) (decide (xs (i + 3) ≠ 0)) (decide (xs (i + 4) ≠ 0))
  refine lv_aload_n hx hb dL_law_1208 rfl (lv_at hl 1 rfl) ?_
  refine sc_ld (k := 1) D hI hl rfl (by decide) dL_law_1209 dL_law_1210 dL_law_1212 dL_law_1213 dL_law_1214 ?_
  refine sc_ld (k := 2) D hI hl rfl (by decide) dL_law_1215 dL_law_1216 dL_law_1218 dL_law_1219 dL_law_1220 ?_
  refine sc_ld (k := 3) D hI hl rfl (by decide) dL_law_1221 dL_law_1222 dL_law_1224 dL_law_1225 dL_law_1226 ?_
  refine sc_bool D dL_law_1227 dL_law_1230 dL_law_1231 dL_law_1234 ?_
  refine sc_ld (k := 4) D hI hl rfl (by decide) dL_law_1235 dL_law_1236 dL_law_1238 dL_law_1239 dL_law_1240 ?_
  refine sc_bool D dL_law_1241 dL_law_1244 dL_law_1245 dL_law_1248 ?_
  refine call_Vl X hI (Cj.keep (Cj.skip (Cj.skip (Cj.skip (Cj.skip (Cj.skip (Cj.skip (Cj.skip (Cj.skip (Cj.skip (Cj.skip (Cj.skip (Cj.keep Cj.nil))))))))))))) (c_X11_odds l g (B 0) (B 12) (B 1 0) (B 13 0) (B 11 0) (B 10 0) (B 9 0) (B 6 0) (B 3 0) (B 4 0) (B 5 0) hk ch (xs (i + 1)) (xs (i + 2)) (bI (decide (xs (i + 3) ≠ 0))) (bI (decide (xs (i + 4) ≠ 0))) cr.1 cr.2.1 cr.2.2 hc) ⟨rfl, rfl⟩ ⟨ht _ w_1400, w_1403, ht _ w_139, lk_X11_odds⟩ w_1401 w_1402 rfl rfl rfl hl rfl rfl dL_law_1249 rfl rfl hc0 hs0 (fun H locs hI => ?_)
  refine lv_aload_n hx hb dL_law_1252 rfl (lv_at hl 2 rfl) ?_
  refine sc_ld (k := 1) D hI hl rfl (by decide) dL_law_1253 dL_law_1254 dL_law_1256 dL_law_1257 dL_law_1258 ?_
  refine sc_ld (k := 2) D hI hl rfl (by decide) dL_law_1259 dL_law_1260 dL_law_1262 dL_law_1263 dL_law_1264 ?_
  refine sc_ld (k := 3) D hI hl rfl (by decide) dL_law_1265 dL_law_1266 dL_law_1268 dL_law_1269 dL_law_1270 ?_
  refine sc_bool D dL_law_1271 dL_law_1274 dL_law_1275 dL_law_1278 ?_
  refine sc_ld (k := 4) D hI hl rfl (by decide) dL_law_1279 dL_law_1280 dL_law_1282 dL_law_1283 dL_law_1284 ?_
  refine sc_bool D dL_law_1285 dL_law_1288 dL_law_1289 dL_law_1292 ?_
  cases ot with
  | none =>
    have hI : In g (Ah s) s.heap s (wHK g (B 0) (B 1 0) (B 13 0) (B 11 0) (B 10 0) (B 9 0) (B 6 0) (B 3 0) (B 4 0) (B 5 0) (B 12 0) cr.2.1 ++ (wRe g (B 1) (B 2 0) (B 14 0) re ++ (wTa g (B 2) ta ++ (wSe g (B 3) (B 7 0) se ++ (wWi g (B 4) (B 13 0) (B 8 0) ++ (wCo g (B 5) co ++ (wBo g (B 6) (B 13 0) bo ++ (wBo g (B 7) (B 13 0) sb ++ (wBo g (B 8) (B 13 0) wb ++ (wHi g (B 9) hi ++ (wMo g (B 10) tr ++ (wMo g (B 11) now ++ (wCh g (B 12) cr.2.2 ++ (wRi g (B 13) ri ++ (wTo g (B 14) to ++ (wOut g qo fo ++ (wMd g am none qr md ++ []))))))))))))))))) H locs := hI
    refine call_Vl X hI (Cj.skip (Cj.skip (Cj.skip (Cj.skip (Cj.skip (Cj.skip (Cj.skip (Cj.skip (Cj.skip (Cj.skip (Cj.skip (Cj.skip (Cj.skip (Cj.skip (Cj.skip (Cj.skip (Cj.keep Cj.nil))))))))))))))))) (c_X13_odds l g am none qr md (xs (i + 1)) (xs (i + 2)) (bI (decide (xs (i + 3) ≠ 0))) (bI (decide (xs (i + 4) ≠ 0))) q.1 q.2 hq) ⟨rfl, rfl⟩ ⟨ht _ w_2334, w_2337, ht _ w_155, lk_X13_odds⟩ w_2335 w_2336 rfl rfl rfl hl rfl rfl dL_law_1293 rfl rfl hc0 hs0 (fun H locs hI => ?_)
    refine lz_eqL D h1 dL_law_1296 dL_law_1297 (by decide) (kk _ _ _ hl ⟨cr.2.1, re, ta, se, co, bo, sb, wb, hi, tr, now, cr.2.2, ri, to, q.2, none, an, qr, fo, h2, hI⟩)
  | some tn =>
    have hI : In g (Ah s) s.heap s (wHK g (B 0) (B 1 0) (B 13 0) (B 11 0) (B 10 0) (B 9 0) (B 6 0) (B 3 0) (B 4 0) (B 5 0) (B 12 0) cr.2.1 ++ (wRe g (B 1) (B 2 0) (B 14 0) re ++ (wTa g (B 2) ta ++ (wSe g (B 3) (B 7 0) se ++ (wWi g (B 4) (B 13 0) (B 8 0) ++ (wCo g (B 5) co ++ (wBo g (B 6) (B 13 0) bo ++ (wBo g (B 7) (B 13 0) sb ++ (wBo g (B 8) (B 13 0) wb ++ (wHi g (B 9) hi ++ (wMo g (B 10) tr ++ (wMo g (B 11) now ++ (wCh g (B 12) cr.2.2 ++ (wRi g (B 13) ri ++ (wTo g (B 14) to ++ (wOut g qo fo ++ (wMd g am (some (an 0)) qr md ++ (wTn g an tn ++ [])))))))))))))))))) H locs := hI
    refine call_Vl X hI (Cj.skip (Cj.skip (Cj.skip (Cj.skip (Cj.skip (Cj.skip (Cj.skip (Cj.skip (Cj.skip (Cj.skip (Cj.skip (Cj.skip (Cj.skip (Cj.skip (Cj.skip (Cj.skip (Cj.keep Cj.nil))))))))))))))))) (c_X13_odds l g am (some (an 0)) qr md (xs (i + 1)) (xs (i + 2)) (bI (decide (xs (i + 3) ≠ 0))) (bI (decide (xs (i + 4) ≠ 0))) q.1 q.2 hq) ⟨rfl, rfl⟩ ⟨ht _ w_2334, w_2337, ht _ w_155, lk_X13_odds⟩ w_2335 w_2336 rfl rfl rfl hl rfl rfl dL_law_1293 rfl rfl hc0 hs0 (fun H locs hI => ?_)
    refine lz_eqL D h1 dL_law_1296 dL_law_1297 (by decide) (kk _ _ _ hl ⟨cr.2.1, re, ta, se, co, bo, sb, wb, hi, tr, now, cr.2.2, ri, to, q.2, (some tn), an, qr, fo, h2, hI⟩)
theorem k_mean (D : LC p s m meth c b L i xs) (hl : lv_has ls 7 (lo5 b B am qo i)) (hL : LzI g s B am qo H locs) (hm : cells + 24 ≤ room_1.cells) (hm2 : slots + 311 ≤ room_1.slots)
    (kk : ∀ (H : Heap) (locs : List Loc) (ls : Array Slot), lv_has ls 7 (lo5 b B am qo i) → LzI g s B am qo H locs → W p l e room_1 s m #[.ref b] below meth c H locs (cells + 24) (slots + 311) Q (F0 m 1655 ls [])) : W p l e room_1 s m #[.ref b] below meth c H locs cells slots Q (F0 m 1302 ls []) := by
  obtain ⟨hk, re, ta, se, co, bo, sb, wb, hi, tr, now, ch, ri, to, md, ot, an, qr, fo, hV, hI⟩ := hL
  obtain ⟨X, hX, hbl, hi6, hLm⟩ := id D
  obtain ⟨hx, hb, hml, hown, ht, hr, hlk⟩ := id X
  have hc0 : Nat.ble cells room_1.cells = true := Nat.ble_eq_true_of_le (Nat.le_trans (Nat.le_add_right _ _) hm)
  have hs0 : Nat.ble slots room_1.slots = true := Nat.ble_eq_true_of_le (Nat.le_trans (Nat.le_add_right _ _) hm2)
  obtain ⟨q, hq, cr, hc, h1, h2⟩ := i_mean hV (xs (i + 1)) (decide (xs (i + 2) ≠ 0)) (decide (xs (i + 3) ≠ 0))
  refine lv_aload_n hx hb dL_law_1302 rfl (lv_at hl 1 rfl) ?_
  refine sc_ld (k := 1) D hI hl rfl (by decide) dL_law_1303 dL_law_1304 dL_law_1306 dL_law_1307 dL_law_1308 ?_
  refine sc_ld (k := 2) D hI hl rfl (by decide) dL_law_1309 dL_law_1310 dL_law_1312 dL_law_1313 dL_law_1314 ?_
  refine sc_bool D dL_law_1315 dL_law_1318 dL_law_1319 dL_law_1322 ?_
  refine sc_ld (k := 3) D hI hl rfl (by decide) dL_law_1323 dL_law_1324 dL_law_1326 dL_law_1327 dL_law_1328 ?_
  refine sc_bool D dL_law_1329 dL_law_1332 dL_law_1333 dL_law_1336 ?_
  refine call_Vl X hI (Cj.keep (Cj.skip (Cj.skip (Cj.skip (Cj.skip (Cj.skip (Cj.skip (Cj.skip (Cj.skip (Cj.skip (Cj.skip (Cj.skip (Cj.keep Cj.nil))))))))))))) (c_X11_mean l g (B 0) (B 12) (B 1 0) (B 13 0) (B 11 0) (B 10 0) (B 9 0) (B 6 0) (B 3 0) (B 4 0) (B 5 0) hk ch (xs (i + 1)) (bI (decide (xs (i + 2) ≠ 0))) (bI (decide (xs (i + 3) ≠ 0))) cr.1 cr.2.1 cr.2.2 hc) ⟨rfl, rfl⟩ ⟨ht _ w_1415, w_1418, ht _ w_139, lk_X11_mean⟩ w_1416 w_1417 rfl rfl rfl hl rfl rfl dL_law_1337 rfl rfl hc0 hs0 (fun H locs hI => ?_)
  refine lv_aload_n hx hb dL_law_1340 rfl (lv_at hl 2 rfl) ?_
  refine sc_ld (k := 1) D hI hl rfl (by decide) dL_law_1341 dL_law_1342 dL_law_1344 dL_law_1345 dL_law_1346 ?_
  refine sc_ld (k := 2) D hI hl rfl (by decide) dL_law_1347 dL_law_1348 dL_law_1350 dL_law_1351 dL_law_1352 ?_
  refine sc_bool D dL_law_1353 dL_law_1356 dL_law_1357 dL_law_1360 ?_
  refine sc_ld (k := 3) D hI hl rfl (by decide) dL_law_1361 dL_law_1362 dL_law_1364 dL_law_1365 dL_law_1366 ?_
  refine sc_bool D dL_law_1367 dL_law_1370 dL_law_1371 dL_law_1374 ?_
  cases ot with
  | none =>
    have hI : In g (Ah s) s.heap s (wHK g (B 0) (B 1 0) (B 13 0) (B 11 0) (B 10 0) (B 9 0) (B 6 0) (B 3 0) (B 4 0) (B 5 0) (B 12 0) cr.2.1 ++ (wRe g (B 1) (B 2 0) (B 14 0) re ++ (wTa g (B 2) ta ++ (wSe g (B 3) (B 7 0) se ++ (wWi g (B 4) (B 13 0) (B 8 0) ++ (wCo g (B 5) co ++ (wBo g (B 6) (B 13 0) bo ++ (wBo g (B 7) (B 13 0) sb ++ (wBo g (B 8) (B 13 0) wb ++ (wHi g (B 9) hi ++ (wMo g (B 10) tr ++ (wMo g (B 11) now ++ (wCh g (B 12) cr.2.2 ++ (wRi g (B 13) ri ++ (wTo g (B 14) to ++ (wOut g qo fo ++ (wMd g am none qr md ++ []))))))))))))))))) H locs := hI
    refine call_Vl X hI (Cj.skip (Cj.skip (Cj.skip (Cj.skip (Cj.skip (Cj.skip (Cj.skip (Cj.skip (Cj.skip (Cj.skip (Cj.skip (Cj.skip (Cj.skip (Cj.skip (Cj.skip (Cj.skip (Cj.keep Cj.nil))))))))))))))))) (c_X13_mean l g am none qr md (xs (i + 1)) (bI (decide (xs (i + 2) ≠ 0))) (bI (decide (xs (i + 3) ≠ 0))) q.1 q.2 hq) ⟨rfl, rfl⟩ ⟨ht _ w_2346, w_2349, ht _ w_155, lk_X13_mean⟩ w_2347 w_2348 rfl rfl rfl hl rfl rfl dL_law_1375 rfl rfl hc0 hs0 (fun H locs hI => ?_)
    refine lz_eqL D h1 dL_law_1378 dL_law_1379 (by decide) (kk _ _ _ hl ⟨cr.2.1, re, ta, se, co, bo, sb, wb, hi, tr, now, cr.2.2, ri, to, q.2, none, an, qr, fo, h2, hI⟩)
  | some tn =>
    have hI : In g (Ah s) s.heap s (wHK g (B 0) (B 1 0) (B 13 0) (B 11 0) (B 10 0) (B 9 0) (B 6 0) (B 3 0) (B 4 0) (B 5 0) (B 12 0) cr.2.1 ++ (wRe g (B 1) (B 2 0) (B 14 0) re ++ (wTa g (B 2) ta ++ (wSe g (B 3) (B 7 0) se ++ (wWi g (B 4) (B 13 0) (B 8 0) ++ (wCo g (B 5) co ++ (wBo g (B 6) (B 13 0) bo ++ (wBo g (B 7) (B 13 0) sb ++ (wBo g (B 8) (B 13 0) wb ++ (wHi g (B 9) hi ++ (wMo g (B 10) tr ++ (wMo g (B 11) now ++ (wCh g (B 12) cr.2.2 ++ (wRi g (B 13) ri ++ (wTo g (B 14) to ++ (wOut g qo fo ++ (wMd g am (some (an 0)) qr md ++ (wTn g an tn ++ [])))))))))))))))))) H locs := hI
    refine call_Vl X hI (Cj.skip (Cj.skip (Cj.skip (Cj.skip (Cj.skip (Cj.skip (Cj.skip (Cj.skip (Cj.skip (Cj.skip (Cj.skip (Cj.skip (Cj.skip (Cj.skip (Cj.skip (Cj.skip (Cj.keep Cj.nil))))))))))))))))) (c_X13_mean l g am (some (an 0)) qr md (xs (i + 1)) (bI (decide (xs (i + 2) ≠ 0))) (bI (decide (xs (i + 3) ≠ 0))) q.1 q.2 hq) ⟨rfl, rfl⟩ ⟨ht _ w_2346, w_2349, ht _ w_155, lk_X13_mean⟩ w_2347 w_2348 rfl rfl rfl hl rfl rfl dL_law_1375 rfl rfl hc0 hs0 (fun H locs hI => ?_)
    refine lz_eqL D h1 dL_law_1378 dL_law_1379 (by decide) (kk _ _ _ hl ⟨cr.2.1, re, ta, se, co, bo, sb, wb, hi, tr, now, cr.2.2, ri, to, q.2, (some tn), an, qr, fo, h2, hI⟩)
end LCASES
