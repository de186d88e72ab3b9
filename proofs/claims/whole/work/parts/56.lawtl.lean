section LCASES
variable {p : Program} {l : Launch} {e : Env} {s : State} {m : MethodId} {below : List Frame} {meth : Method} {c : Code} {H : Heap} {locs : List Loc} {cells slots : Nat} {Q : State → Prop}
variable {ls : Array Slot} {g : GT} {B : Nat → Nat → Nat} {am : Nat → Nat} {qo b L i : Nat} {xs : Nat → Int32}
theorem Cj.one {x x' r : va_W} : Cj (x ++ r) (x' ++ r) x x' := ⟨r, List.Perm.refl _, List.Perm.refl _⟩
theorem call_Tz {R : Room} {args : Array Value} {cc bytes : ByteArray} {pc n index k maxL ci a N : Nat} {own Cn : String} {T : u_T} {fs As rest st0 : List Value} {lv : List (Nat × Value)} {A : Nat → Prop} {H0 : Heap} {ws w : va_W} {ret : Option FieldType} {y : MethodName} {rm : Room} {r : Int32} {mk f : Option Nat × (Nat → Nat) → va_W} (X : Cx p s m args meth c cc n own ret) (hI : In g A H0 s ws H locs) (hj : ∀ u, Cj ws (f u) w (mk u)) (hC : CT l y bytes maxL rm g (.ref a :: As) w mk r) (hk : Lkm s args own index y bytes maxL k (some .int)) (hi : Cond.instanceMethod y ∈ tblG) (hs : Cond.selects Cn y y ∈ tblG) (hw0 : w[0]? = some (a, .inr (ci, fs))) (hc : vwCl[ci]? = some (Cn, T, N))
    (hn : As.length = k) (hl : lv_has ls n lv) (hst : st0 = As.reverse ++ .ref a :: rest) (hr : Nat.ble ((rest.map fun v => v.category).sum) 8 = true) (hd : decode cc pc = .ok (.invokevirtual index, 3)) (hf : Nat.ble (rm.frames + 1) R.frames = true) (hlo : Nat.ble (8 + (maxL + 11) + rm.locals) R.locals = true) (hm : cells + rm.cells ≤ R.cells) (hm2 : slots + rm.slots ≤ R.slots)
    (kk : ∀ (u : Option Nat × (Nat → Nat)) (H1 : Heap) (locs1 : List Loc), In g A H0 s (f u) H1 locs1 → W p l e R s m args below meth c H1 locs1 (cells + rm.cells) (slots + rm.slots) Q (F0 m (pc + 3) ls (.int r :: rest))) : W p l e R s m args below meth c H locs cells slots Q (F0 m pc ls st0) := by
  have hj0 := hj (none, fun _ => 0)
  refine va_calli (run_V (S := Unit) X hI hj0 (hC H.size) hk hi hs hw0 hc hn hl.1 hst hr hd hf hlo (Nat.ble_eq_true_of_le hm) (Nat.ble_eq_true_of_le hm2)) hI.2.2.2.1 (fun q _ h => free_i hI hj0 q h) (free_i hI hj0) (fun r1 u t H1 locs1 ht hvm hw hB hz hk hS => ?_)
  subst hw
  exact kk u H1 locs1 (back_i hI (hj u) ht hB hk hS)
theorem lz_eq0 {args : Array Value} {R : Room} {pc : Nat} {x y : Int32} {off : Int} (D : LC p s m meth c b L i xs) (h : x = y) (d0 : decode cL_law pc = .ok (.if_icmp .eq off, 3)) (ht : (pc : Int) + off = 1655)
    (kk : W p l e R s m args below meth c H locs cells slots Q (F0 m 1655 ls [])) : W p l e R s m args below meth c H locs cells slots Q (F0 m pc ls [.int y, .int x]) := by
  obtain ⟨X, -⟩ := D
  exact lv_icmp_eq (tgt := 1655) X.1 X.2.1 d0 ht (fun _ => kk) (fun h_ => absurd h h_)
theorem k_tangle (D : LC p s m meth c b L i xs) (hl : lv_has ls 7 (lo5 b B am qo i)) (hL : LzI g s B am qo H locs) (hm : cells + 24 ≤ room_1.cells) (hm2 : slots + 311 ≤ room_1.slots)
    (kk : ∀ (H : Heap) (locs : List Loc) (ls : Array Slot), lv_has ls 7 (lo5 b B am qo i) → LzI g s B am qo H locs → W p l e room_1 s m #[.ref b] below meth c H locs (cells + 24) (slots + 311) Q (F0 m 1655 ls [])) : W p l e room_1 s m #[.ref b] below meth c H locs cells slots Q (F0 m 325 ls []) := by
  obtain ⟨hk, re, ta, se, co, bo, sb, wb, hi, tr, now, ch, ri, to, md, ot, an, qr, fo, hV, hI⟩ := hL
  obtain ⟨X, hX, hbl, hi6, hLm⟩ := id D
  obtain ⟨hx, hb, hml, hown, ht, hr, hlk⟩ := id X
  have hc0 : Nat.ble cells room_1.cells = true := Nat.ble_eq_true_of_le (Nat.le_trans (Nat.le_add_right _ _) hm)
  have hs0 : Nat.ble slots room_1.slots = true := Nat.ble_eq_true_of_le (Nat.le_trans (Nat.le_add_right _ _) hm2)
  obtain ⟨q, hq, cr, hc, h1, h2⟩ := i_tangle hV (xs (i + 1)) to
  refine lv_aload_n hx hb dL_law_325 rfl (lv_at hl 1 rfl) ?_
  refine sc_ld (k := 1) D hI hl rfl (by decide) dL_law_326 dL_law_327 dL_law_329 dL_law_330 dL_law_331 ?_
  refine call_Vi X hI (Cj.keep (Cj.keep (Cj.keep (Cj.skip (Cj.skip (Cj.skip (Cj.keep (Cj.skip (Cj.skip (Cj.keep (Cj.skip (Cj.keep (Cj.skip (Cj.keep (Cj.keep Cj.nil))))))))))))))) (c_X11_tangle l g (B 0) (B 1) (B 2) (B 6) (B 9) (B 11) (B 13) (B 14) (B 10 0) (B 3 0) (B 4 0) (B 5 0) (B 12 0) hk re ta bo hi now ri to (xs (i + 1)) cr.1 cr.2.1 cr.2.2.1 cr.2.2.2.1 cr.2.2.2.2.1 cr.2.2.2.2.2.1 cr.2.2.2.2.2.2.1 cr.2.2.2.2.2.2.2.1 cr.2.2.2.2.2.2.2.2 hc) ⟨rfl, rfl⟩ ⟨ht _ w_725, w_728, ht _ w_139, lk_X11_tangle⟩ w_726 w_727 rfl rfl rfl hl rfl rfl dL_law_332 rfl rfl hc0 hs0 (fun H locs hI => ?_)
  refine lv_aload_n hx hb dL_law_335 rfl (lv_at hl 2 rfl) ?_
  refine sc_ld (k := 1) D hI hl rfl (by decide) dL_law_336 dL_law_337 dL_law_339 dL_law_340 dL_law_341 ?_
  obtain ⟨r0, md1, ot1⟩ := q
  have h1 : cr.1 = r0 := h1
  cases ot with
  | none =>
    have hI : In g (Ah s) s.heap s (wHK g (B 0) (B 1 0) (B 13 0) (B 11 0) (B 10 0) (B 9 0) (B 6 0) (B 3 0) (B 4 0) (B 5 0) (B 12 0) cr.2.1 ++ (wRe g (B 1) (B 2 0) (B 14 0) cr.2.2.1 ++ (wTa g (B 2) cr.2.2.2.1 ++ (wSe g (B 3) (B 7 0) se ++ (wWi g (B 4) (B 13 0) (B 8 0) ++ (wCo g (B 5) co ++ (wBo g (B 6) (B 13 0) cr.2.2.2.2.1 ++ (wBo g (B 7) (B 13 0) sb ++ (wBo g (B 8) (B 13 0) wb ++ (wHi g (B 9) cr.2.2.2.2.2.1 ++ (wMo g (B 10) tr ++ (wMo g (B 11) cr.2.2.2.2.2.2.1 ++ (wCh g (B 12) ch ++ (wRi g (B 13) cr.2.2.2.2.2.2.2.1 ++ (wTo g (B 14) cr.2.2.2.2.2.2.2.2 ++ (wOut g qo fo ++ (wMd g am none qr md ++ []))))))))))))))))) H locs := hI
    refine call_Tz (f := fun u => wHK g (B 0) (B 1 0) (B 13 0) (B 11 0) (B 10 0) (B 9 0) (B 6 0) (B 3 0) (B 4 0) (B 5 0) (B 12 0) cr.2.1 ++ (wRe g (B 1) (B 2 0) (B 14 0) cr.2.2.1 ++ (wTa g (B 2) cr.2.2.2.1 ++ (wSe g (B 3) (B 7 0) se ++ (wWi g (B 4) (B 13 0) (B 8 0) ++ (wCo g (B 5) co ++ (wBo g (B 6) (B 13 0) cr.2.2.2.2.1 ++ (wBo g (B 7) (B 13 0) sb ++ (wBo g (B 8) (B 13 0) wb ++ (wHi g (B 9) cr.2.2.2.2.2.1 ++ (wMo g (B 10) tr ++ (wMo g (B 11) cr.2.2.2.2.2.2.1 ++ (wCh g (B 12) ch ++ (wRi g (B 13) cr.2.2.2.2.2.2.2.1 ++ (wTo g (B 14) cr.2.2.2.2.2.2.2.2 ++ (wOut g qo fo ++ (wT g am none [] md1 ot1 u))))))))))))))))) X hI (fun u => Cj.skip (Cj.skip (Cj.skip (Cj.skip (Cj.skip (Cj.skip (Cj.skip (Cj.skip (Cj.skip (Cj.skip (Cj.skip (Cj.skip (Cj.skip (Cj.skip (Cj.skip (Cj.skip (Cj.id))))))))))))))))) (c_X13_tangle l g am none qr [] md (xs (i + 1)) r0 md1 ot1 hq) ⟨ht _ w_1715, w_1718, ht _ w_155, lk_X13_tangle⟩ w_1716 w_1717 rfl rfl rfl hl rfl rfl dL_law_342 rfl rfl hm hm2 (fun u H locs hI => ?_)
    refine lz_eq0 D h1 dL_law_345 (by decide) (kk _ _ _ hl ?_)
    cases ot1 with
    | none => exact ⟨cr.2.1, cr.2.2.1, cr.2.2.2.1, se, co, cr.2.2.2.2.1, sb, wb, cr.2.2.2.2.2.1, tr, cr.2.2.2.2.2.2.1, ch, cr.2.2.2.2.2.2.2.1, cr.2.2.2.2.2.2.2.2, md1, none, an, u.1, fo, h2, hI⟩
    | some tn1 => exact ⟨cr.2.1, cr.2.2.1, cr.2.2.2.1, se, co, cr.2.2.2.2.1, sb, wb, cr.2.2.2.2.2.1, tr, cr.2.2.2.2.2.2.1, ch, cr.2.2.2.2.2.2.2.1, cr.2.2.2.2.2.2.2.2, md1, some tn1, u.2, some (u.2 0), fo, h2, hI⟩
  | some tn =>
    have hI : In g (Ah s) s.heap s (wHK g (B 0) (B 1 0) (B 13 0) (B 11 0) (B 10 0) (B 9 0) (B 6 0) (B 3 0) (B 4 0) (B 5 0) (B 12 0) cr.2.1 ++ (wRe g (B 1) (B 2 0) (B 14 0) cr.2.2.1 ++ (wTa g (B 2) cr.2.2.2.1 ++ (wSe g (B 3) (B 7 0) se ++ (wWi g (B 4) (B 13 0) (B 8 0) ++ (wCo g (B 5) co ++ (wBo g (B 6) (B 13 0) cr.2.2.2.2.1 ++ (wBo g (B 7) (B 13 0) sb ++ (wBo g (B 8) (B 13 0) wb ++ (wHi g (B 9) cr.2.2.2.2.2.1 ++ (wMo g (B 10) tr ++ (wMo g (B 11) cr.2.2.2.2.2.2.1 ++ (wCh g (B 12) ch ++ (wRi g (B 13) cr.2.2.2.2.2.2.2.1 ++ (wTo g (B 14) cr.2.2.2.2.2.2.2.2 ++ (wOut g qo fo ++ (wMd g am (some (an 0)) qr md ++ (wTn g an tn ++ [])))))))))))))))))) H locs := hI
    refine call_Tz (f := fun u => wHK g (B 0) (B 1 0) (B 13 0) (B 11 0) (B 10 0) (B 9 0) (B 6 0) (B 3 0) (B 4 0) (B 5 0) (B 12 0) cr.2.1 ++ (wRe g (B 1) (B 2 0) (B 14 0) cr.2.2.1 ++ (wTa g (B 2) cr.2.2.2.1 ++ (wSe g (B 3) (B 7 0) se ++ (wWi g (B 4) (B 13 0) (B 8 0) ++ (wCo g (B 5) co ++ (wBo g (B 6) (B 13 0) cr.2.2.2.2.1 ++ (wBo g (B 7) (B 13 0) sb ++ (wBo g (B 8) (B 13 0) wb ++ (wHi g (B 9) cr.2.2.2.2.2.1 ++ (wMo g (B 10) tr ++ (wMo g (B 11) cr.2.2.2.2.2.2.1 ++ (wCh g (B 12) ch ++ (wRi g (B 13) cr.2.2.2.2.2.2.2.1 ++ (wTo g (B 14) cr.2.2.2.2.2.2.2.2 ++ (wOut g qo fo ++ (wT g am (some (an 0)) (wTn g an tn ++ []) md1 ot1 u))))))))))))))))) X hI (fun u => Cj.skip (Cj.skip (Cj.skip (Cj.skip (Cj.skip (Cj.skip (Cj.skip (Cj.skip (Cj.skip (Cj.skip (Cj.skip (Cj.skip (Cj.skip (Cj.skip (Cj.skip (Cj.skip (Cj.id))))))))))))))))) (c_X13_tangle l g am (some (an 0)) qr (wTn g an tn ++ []) md (xs (i + 1)) r0 md1 ot1 hq) ⟨ht _ w_1715, w_1718, ht _ w_155, lk_X13_tangle⟩ w_1716 w_1717 rfl rfl rfl hl rfl rfl dL_law_342 rfl rfl hm hm2 (fun u H locs hI => ?_)
    refine lz_eq0 D h1 dL_law_345 (by decide) (kk _ _ _ hl ?_)
    cases ot1 with
    | none => exact ⟨cr.2.1, cr.2.2.1, cr.2.2.2.1, se, co, cr.2.2.2.2.1, sb, wb, cr.2.2.2.2.2.1, tr, cr.2.2.2.2.2.2.1, ch, cr.2.2.2.2.2.2.2.1, cr.2.2.2.2.2.2.2.2, md1, some tn, an, u.1, fo, h2, hI⟩
    | some tn1 => exact ⟨cr.2.1, cr.2.2.1, cr.2.2.2.1, se, co, cr.2.2.2.2.1, sb, wb, cr.2.2.2.2.2.1, tr, cr.2.2.2.2.2.2.1, ch, cr.2.2.2.2.2.2.2.1, cr.2.2.2.2.2.2.2.2, md1, some tn1, u.2, some (u.2 0), fo, h2, hI⟩
theorem goodL : GoodIn tblG (Cond.codeWith yL_led cL_led 4 (some .int) [(0, 9, 12, 13)] :: tblG) := fun w hw => by
  rcases List.mem_cons.mp hw with rfl | h1
  · exact ⟨lw_codeL, good_tbl _ lw_codeL⟩
  · exact ⟨h1, good_tbl _ h1⟩
theorem sigL (sig : MethodDescriptor) (h : parseMethodDescriptor yL_led.desc = some sig) : 3 = sig.parameters.length := by
  have h2 : (parseMethodDescriptor yL_led.desc).map (fun d => d.parameters.length) = some 3 := by decide +kernel
  rw [h] at h2
  exact (Option.some.inj h2).symm
theorem led_tail {R : Room} {ws : va_W} {fo : Nat → Int64} {v k : Int32} (D : LC p s m meth c b L i xs) (hI : In g (Ah s) s.heap s ws H locs) (hw : Has ws (qo, .inl (g.2 1, 1, .inr (.inl fo)))) (hl : lv_has ls 7 [(6, .int v), (5, .int k), (0, .ref b), (1, .ref (B 0 0)), (2, .ref (am 0)), (3, .ref qo), (4, .int (nI i))]) (hk : (k = 0 ∧ fo 0 = v.toInt64) ∨ k = 1)
    (kk : W p l e R s m #[.ref b] below meth c H locs cells slots Q (F0 m 1655 ls [])) : W p l e R s m #[.ref b] below meth c H locs cells slots Q (F0 m 1597 ls []) := by
  obtain ⟨X, -⟩ := D
  obtain ⟨hx, hb, -⟩ := id X
  refine lv_iload hx hb dL_law_1597 (lv_at hl 1 rfl) ?_
  refine lv_if_ne (tgt := 1614) hx hb dL_law_1599 (by decide) (fun h_ => ?_) (fun h_ => ?_)
  · exact lv_goto (tgt := 1655) hx hb dL_law_1614 (by decide) kk
  · rcases hk with ⟨-, e1⟩ | rfl
    · refine lv_aload_n hx hb dL_law_1602 rfl (lv_at hl 5 rfl) ?_
      refine lv_iconst (v := 0) hx hb dL_law_1603 (by decide) ?_
      refine ld_J X hI hw (by unfold vp_in; decide) dL_law_1604 ?_
      refine lv_iload hx hb dL_law_1605 (lv_at hl 0 rfl) ?_
      refine lv_i2l hx hb dL_law_1607 rfl ?_
      refine W.lcmp hx hb dL_law_1608 ?_
      refine lv_if_eq (tgt := 1614) hx hb dL_law_1609 (by decide) (fun _ => lv_goto (tgt := 1655) hx hb dL_law_1614 (by decide) kk) (fun h9 => ?_)
      exact absurd (by rw [show fo (Int32.toNatClampNeg 0) = v.toInt64 from e1]; simp [lg_cmp]) h9
    · exact absurd h_ (by decide)
theorem k_led (D : LC p s m meth c b L i xs) (hl : lv_has ls 7 (lo5 b B am qo i)) (hL : LzI g s B am qo H locs) (hst : l.stackTraces = false) (hm : cells + 24 ≤ room_1.cells) (hm2 : slots + 311 ≤ room_1.slots)
    (kk : ∀ (H : Heap) (locs : List Loc) (ls : Array Slot), lv_has ls 7 (lo5 b B am qo i) → LzI g s B am qo H locs → W p l e room_1 s m #[.ref b] below meth c H locs (cells + 24) (slots + 311) Q (F0 m 1655 ls [])) : W p l e room_1 s m #[.ref b] below meth c H locs cells slots Q (F0 m 1561 ls []) := by
  obtain ⟨hk, re, ta, se, co, bo, sb, wb, hi, tr, now, ch, ri, to, md, ot, an, qr, fo, hV, hI⟩ := hL
  obtain ⟨X, hX, hbl, hi6, hLm⟩ := id D
  obtain ⟨hx, hb, hml, hown, ht, hr, hlk⟩ := id X
  have hc0 : Nat.ble cells room_1.cells = true := Nat.ble_eq_true_of_le (Nat.le_trans (Nat.le_add_right _ _) hm)
  have hs0 : Nat.ble slots room_1.slots = true := Nat.ble_eq_true_of_le (Nat.le_trans (Nat.le_add_right _ _) hm2)
  obtain ⟨q, hq, cr, hc, h2, h3⟩ := i_led hV (xs (i + 1))
  have hc1 : Nat.ble (cells + 1) room_1.cells = true := Nat.ble_eq_true_of_le (by omega)
  have hs1 : Nat.ble (slots + 6) room_1.slots = true := Nat.ble_eq_true_of_le (by omega)
  refine lv_aload_n hx hb dL_law_1561 rfl (lv_at hl 1 rfl) ?_
  refine sc_ld (k := 1) D hI hl rfl (by decide) dL_law_1562 dL_law_1563 dL_law_1565 dL_law_1566 dL_law_1567 ?_
  refine lv_aload_n hx hb dL_law_1568 rfl (lv_at hl 3 rfl) ?_
  have hj : Cj (wHK g (B 0) (B 1 0) (B 13 0) (B 11 0) (B 10 0) (B 9 0) (B 6 0) (B 3 0) (B 4 0) (B 5 0) (B 12 0) hk ++ (wRe g (B 1) (B 2 0) (B 14 0) re ++ (wTa g (B 2) ta ++ (wSe g (B 3) (B 7 0) se ++ (wWi g (B 4) (B 13 0) (B 8 0) ++ (wCo g (B 5) co ++ (wBo g (B 6) (B 13 0) bo ++ (wBo g (B 7) (B 13 0) sb ++ (wBo g (B 8) (B 13 0) wb ++ (wHi g (B 9) hi ++ (wMo g (B 10) tr ++ (wMo g (B 11) now ++ (wCh g (B 12) ch ++ (wRi g (B 13) ri ++ (wTo g (B 14) to ++ (wOut g qo fo ++ (wM g am an qr md ot))))))))))))))))) (wHK g (B 0) (B 1 0) (B 13 0) (B 11 0) (B 10 0) (B 9 0) (B 6 0) (B 3 0) (B 4 0) (B 5 0) (B 12 0) hk ++ (wRe g (B 1) (B 2 0) (B 14 0) re ++ (wTa g (B 2) ta ++ (wSe g (B 3) (B 7 0) se ++ (wWi g (B 4) (B 13 0) (B 8 0) ++ (wCo g (B 5) co ++ (wBo g (B 6) (B 13 0) bo ++ (wBo g (B 7) (B 13 0) sb ++ (wBo g (B 8) (B 13 0) wb ++ (wHi g (B 9) hi ++ (wMo g (B 10) tr ++ (wMo g (B 11) now ++ (wCh g (B 12) ch ++ (wRi g (B 13) ri ++ (wTo g (B 14) to ++ (wOut g qo (led_f cr fo) ++ (wM g am an qr md ot))))))))))))))))) (wLd g (B 0) (B 6) (B 13) (B 1 0) (B 11 0) (B 10 0) (B 9 0) (B 3 0) (B 4 0) (B 5 0) (B 12 0) qo hk bo ri fo) (wLd g (B 0) (B 6) (B 13) (B 1 0) (B 11 0) (B 10 0) (B 9 0) (B 3 0) (B 4 0) (B 5 0) (B 12 0) qo hk bo ri (led_f cr fo)) := Cj.keep (Cj.skip (Cj.skip (Cj.skip (Cj.skip (Cj.skip (Cj.keep (Cj.skip (Cj.skip (Cj.skip (Cj.skip (Cj.skip (Cj.skip (Cj.keep (Cj.skip (Cj.one)))))))))))))))
  have hrun := vx_runSW (p := p) (e := e) (R := room_1) (below := below) (meth := meth) (locs := locs) (cells := cells) (slots := slots) (As := [.ref (B 0 0), .int (xs (i + 1)), .ref qo]) (rest := []) (g := F0 m 1569 ls [.ref qo, .int (xs (i + 1)), .ref (B 0 0)]) ⟨hx, hb, hml, hown, ht⟩ (c_L_led l hst g (B 0) (B 6) (B 13) (B 1 0) (B 11 0) (B 10 0) (B 9 0) (B 3 0) (B 4 0) (B 5 0) (B 12 0) qo hk bo ri fo (xs (i + 1)) cr hc H.size) (n := 3) (index := 213) ⟨⟨rfl, rfl, Nat.le_of_ble_eq_true rfl, Nat.le_of_ble_eq_true rfl, pay_in ht goodL, List.mem_cons_self⟩, ht _ lw_codeL, ht _ w_138, ⟨by decide, by decide⟩, sigL, ht _ lw_linkL, ht _ lw_statL⟩ ⟨cpre_blind, fun U hU hW => pre_i hI hj hU hW⟩ rfl rfl hl.1 rfl (lv_room (Nat.le_of_ble_eq_true rfl)) dL_law_1569 ⟨Nat.le_of_ble_eq_true hc1, Nat.le_of_ble_eq_true hs1⟩
  refine go_i hI hj hrun (fun H locs hI => ?_)
  refine lv_istore (lv' := (5, .int (led_r cr)) :: lo5 b B am qo i) hx hb dL_law_1572 hl (by decide) rfl (fun ls hl => ?_)
  have hl5 : lv_has ls 7 (lo5 b B am qo i) := lv_sub hl [1, 2, 3, 4, 5] rfl
  refine lv_aload_n hx hb dL_law_1574 rfl (lv_at hl 3 rfl) ?_
  refine sc_ld (k := 1) D hI hl5 rfl (by decide) dL_law_1575 dL_law_1576 dL_law_1578 dL_law_1579 dL_law_1580 ?_
  have hE : Md_thrown q.2 = led_r cr := by
    rcases h3 with ⟨e1, e2⟩ | ⟨e1, e2⟩ <;> rw [e1, e2] <;> rfl
  have hF : (led_r cr = 0 ∧ led_f cr fo 0 = q.1.toInt64) ∨ led_r cr = 1 := by
    rcases h3 with ⟨e1, e2⟩ | ⟨e1, e2⟩
    · rw [e1]; exact Or.inl ⟨rfl, show vp_updL fo 0 q.1.toInt64 0 = q.1.toInt64 from if_pos rfl⟩
    · rw [e1]; exact Or.inr rfl
  cases ot with
  | none =>
    have hI : In g (Ah s) s.heap s (wHK g (B 0) (B 1 0) (B 13 0) (B 11 0) (B 10 0) (B 9 0) (B 6 0) (B 3 0) (B 4 0) (B 5 0) (B 12 0) hk ++ (wRe g (B 1) (B 2 0) (B 14 0) re ++ (wTa g (B 2) ta ++ (wSe g (B 3) (B 7 0) se ++ (wWi g (B 4) (B 13 0) (B 8 0) ++ (wCo g (B 5) co ++ (wBo g (B 6) (B 13 0) bo ++ (wBo g (B 7) (B 13 0) sb ++ (wBo g (B 8) (B 13 0) wb ++ (wHi g (B 9) hi ++ (wMo g (B 10) tr ++ (wMo g (B 11) now ++ (wCh g (B 12) ch ++ (wRi g (B 13) ri ++ (wTo g (B 14) to ++ (wOut g qo (led_f cr fo) ++ (wMd g am none qr md ++ []))))))))))))))))) H locs := hI
    refine call_Vi X hI (Cj.skip (Cj.skip (Cj.skip (Cj.skip (Cj.skip (Cj.skip (Cj.skip (Cj.skip (Cj.skip (Cj.skip (Cj.skip (Cj.skip (Cj.skip (Cj.skip (Cj.skip (Cj.skip Cj.id)))))))))))))))) (c_X13_led_N l g am qr md (xs (i + 1)) q.1 q.2 hq) ⟨rfl, rfl⟩ ⟨ht _ w_2390, w_2393, ht _ w_155, lk_X13_led⟩ w_2391 w_2392 rfl rfl rfl hl rfl rfl dL_law_1581 rfl rfl hc1 hs1 (fun H locs hI => ?_)
    refine lv_istore (lv' := (6, .int q.1) :: (5, .int (led_r cr)) :: lo5 b B am qo i) hx hb dL_law_1584 hl (by decide) rfl (fun ls hl => ?_)
    refine lv_aload_n hx hb dL_law_1586 rfl (lv_at hl 4 rfl) ?_
    refine call_Vi X hI (Cj.skip (Cj.skip (Cj.skip (Cj.skip (Cj.skip (Cj.skip (Cj.skip (Cj.skip (Cj.skip (Cj.skip (Cj.skip (Cj.skip (Cj.skip (Cj.skip (Cj.skip (Cj.skip (Cj.keep Cj.nil))))))))))))))))) (c_X13_thrown l g am none qr q.2 (Md_thrown q.2) rfl) ⟨rfl, rfl⟩ ⟨ht _ w_1707, w_1710, ht _ w_155, lk_X13_thrown⟩ w_1708 w_1709 rfl rfl rfl hl rfl rfl dL_law_1587 rfl rfl hc1 hs1 (fun H locs hI => ?_)
    refine lv_iload hx hb dL_law_1590 (lv_at hl 1 rfl) ?_
    refine lv_icmp_eq (tgt := 1597) hx hb dL_law_1592 (by decide) (fun _ => ?_) (fun h_ => absurd hE h_)
    refine led_tail D hI (Has.r (Has.r (Has.r (Has.r (Has.r (Has.r (Has.r (Has.r (Has.r (Has.r (Has.r (Has.r (Has.r (Has.r ((Has.l ⟨0, rfl⟩).r))))))))))))))) hl hF ?_
    refine W.widen (k := cells + 24) (n := slots + 311) (by omega) (by omega) ?_
    exact kk _ _ _ (lv_sub hl [2, 3, 4, 5, 6] rfl) ⟨hk, re, ta, se, co, bo, sb, wb, hi, tr, now, ch, ri, to, q.2, none, an, qr, led_f cr fo, h2, hI⟩
  | some tn =>
    have hI : In g (Ah s) s.heap s (wHK g (B 0) (B 1 0) (B 13 0) (B 11 0) (B 10 0) (B 9 0) (B 6 0) (B 3 0) (B 4 0) (B 5 0) (B 12 0) hk ++ (wRe g (B 1) (B 2 0) (B 14 0) re ++ (wTa g (B 2) ta ++ (wSe g (B 3) (B 7 0) se ++ (wWi g (B 4) (B 13 0) (B 8 0) ++ (wCo g (B 5) co ++ (wBo g (B 6) (B 13 0) bo ++ (wBo g (B 7) (B 13 0) sb ++ (wBo g (B 8) (B 13 0) wb ++ (wHi g (B 9) hi ++ (wMo g (B 10) tr ++ (wMo g (B 11) now ++ (wCh g (B 12) ch ++ (wRi g (B 13) ri ++ (wTo g (B 14) to ++ (wOut g qo (led_f cr fo) ++ (wMd g am (some (an 0)) qr md ++ (wTn g an tn ++ [])))))))))))))))))) H locs := hI
    refine call_Vi X hI (Cj.skip (Cj.skip (Cj.skip (Cj.skip (Cj.skip (Cj.skip (Cj.skip (Cj.skip (Cj.skip (Cj.skip (Cj.skip (Cj.skip (Cj.skip (Cj.skip (Cj.skip (Cj.skip Cj.id)))))))))))))))) (c_X13_led l g am an qr md tn (xs (i + 1)) q.1 q.2 hq) ⟨rfl, rfl⟩ ⟨ht _ w_2390, w_2393, ht _ w_155, lk_X13_led⟩ w_2391 w_2392 rfl rfl rfl hl rfl rfl dL_law_1581 rfl rfl hc1 hs1 (fun H locs hI => ?_)
    refine lv_istore (lv' := (6, .int q.1) :: (5, .int (led_r cr)) :: lo5 b B am qo i) hx hb dL_law_1584 hl (by decide) rfl (fun ls hl => ?_)
    refine lv_aload_n hx hb dL_law_1586 rfl (lv_at hl 4 rfl) ?_
    refine call_Vi X hI (Cj.skip (Cj.skip (Cj.skip (Cj.skip (Cj.skip (Cj.skip (Cj.skip (Cj.skip (Cj.skip (Cj.skip (Cj.skip (Cj.skip (Cj.skip (Cj.skip (Cj.skip (Cj.skip (Cj.keep Cj.nil))))))))))))))))) (c_X13_thrown l g am (some (an 0)) qr q.2 (Md_thrown q.2) rfl) ⟨rfl, rfl⟩ ⟨ht _ w_1707, w_1710, ht _ w_155, lk_X13_thrown⟩ w_1708 w_1709 rfl rfl rfl hl rfl rfl dL_law_1587 rfl rfl hc1 hs1 (fun H locs hI => ?_)
    refine lv_iload hx hb dL_law_1590 (lv_at hl 1 rfl) ?_
    refine lv_icmp_eq (tgt := 1597) hx hb dL_law_1592 (by decide) (fun _ => ?_) (fun h_ => absurd hE h_)
    refine led_tail D hI (Has.r (Has.r (Has.r (Has.r (Has.r (Has.r (Has.r (Has.r (Has.r (Has.r (Has.r (Has.r (Has.r (Has.r ((Has.l ⟨0, rfl⟩).r))))))))))))))) hl hF ?_
    refine W.widen (k := cells + 24) (n := slots + 311) (by omega) (by omega) ?_
    exact kk _ _ _ (lv_sub hl [2, 3, 4, 5, 6] rfl) ⟨hk, re, ta, se, co, bo, sb, wb, hi, tr, now, ch, ri, to, q.2, some tn, an, qr, led_f cr fo, h2, hI⟩
end LCASES
