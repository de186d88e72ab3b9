/-! THE LAW, from its entry -/
theorem x_l8 : Cond.classLink "HandKnotLaw" 8 RX11 ∈ tblG := tgm (in_t1 _ (List.mem_of_getElem? (i := 26) rfl)) rfl
theorem x_l16 : Cond.classLink "HandKnotLaw" 16 RX13 ∈ tblG := tgm (in_t6 _ (List.mem_of_getElem? (i := 239) rfl)) rfl
theorem no_traces {l : Launch} (h : l.flags = flags0) : l.stackTraces = false := by
  unfold Launch.stackTraces
  rw [h]
  decide +kernel
set_option maxRecDepth 20000 in
theorem whole_start {p : Program} {e : Env} {s : State} {m : MethodId} {below : List Frame} {meth : Method} {c : Code} (l : Launch) (hflags : l.flags = flags0) {b L : Nat} {xs : Nat → Int32} (hL : L ≤ 3072) (C0 : lw_At p s m meth c b L xs) : W p l e room_1 s m #[Value.ref b] below meth c s.heap [] 0 0 (lw_Z below #[Value.ref b] s) (entryFrame m ([Value.ref b] : List Value).toArray 7) := by
  obtain ⟨g, hI⟩ := start_G C0
  obtain ⟨hx, hb, hr, hml, hown, hts, hX, hbl, hlocks, hgv⟩ := C0
  have X : Cx p s m #[.ref b] meth c cL_law 7 "HandKnotLaw" (some .boolean) := ⟨hx, hb, hml, hown, fun w hw => hts w (List.mem_filter.mp hw).1, hr, hlocks⟩
  have ht := X.2.2.2.2.1
  have hl := lv_entry ([.ref b] : List Value) (n := 7) (Nat.le_of_ble_eq_true rfl)
  rw [lg_entry_eq]
  generalize (lg_sl ([.ref b] : List Value) ++ List.replicate (7 - (lg_sl ([.ref b] : List Value)).length) Slot.unset).toArray = ls at hl ⊢
  have hl : lv_has ls 7 [(0, .ref b)] := hl
  refine new_O (ci := 11) (fs := [.null, .null, .null, .null, .null, .null, .null, .null, .null, .null, .int 0, .int 0]) X hI inG11 tyX11_ok rfl x_l8 x_inst11 w_139 (by decide) rfl rfl dL_law_0 (fun q1 H hI => ?_)
  have hI : In g (Ah s) s.heap s [(q1, .inr (11, [.null, .null, .null, .null, .null, .null, .null, .null, .null, .null, .int 0, .int 0]))] H _ := hI
  refine lv_dup hx hb dL_law_3 rfl ?_
  refine call_N (k := 0) (f := fun B => wHK g (B 0) (B 1 0) (B 13 0) (B 11 0) (B 10 0) (B 9 0) (B 6 0) (B 3 0) (B 4 0) (B 5 0) (B 12 0) HK0 ++ (wRe g (B 1) (B 2 0) (B 14 0) Re0 ++ (wTa g (B 2) Ta0 ++ (wSe g (B 3) (B 7 0) Se0 ++ (wWi g (B 4) (B 13 0) (B 8 0) ++ (wCo g (B 5) Co0 ++ (wBo g (B 6) (B 13 0) Bo0 ++ (wBo g (B 7) (B 13 0) Bo0 ++ (wBo g (B 8) (B 13 0) Bo0 ++ (wHi g (B 9) Hi0 ++ (wMo g (B 10) Mo0 ++ (wMo g (B 11) Mo0 ++ (wCh g (B 12) Ch0 ++ (wRi g (B 13) Ri0 ++ (wTo g (B 14) To0 ++ []))))))))))))))) X hI (fun _ => Cj.id) (c_X11_init l g q1) ⟨ht _ w_166, w_168, ht _ w_139, lk_X11_init⟩ w_167 rfl rfl hl rfl rfl dL_law_4 rfl rfl rfl rfl (fun B H locs hB hI => ?_)
  refine lv_astore_n (lv' := [(1, .ref q1), (0, .ref b)]) hx hb dL_law_7 rfl hl (by decide) rfl (fun ls hl => ?_)
  refine new_O (ci := 13) (fs := [.int 0, .int 0, .int 0, .null, .null, .null, .int 0, .int 0, .int 0, .int 0, .int 0, .int 0, .int 0, .int 0, .long 0, .long 0, .int 0, .int 0, .int 0, .null, .null, .null, .null, .int 0, .null, .null, .null, .null, .int 0, .int 0, .null, .null, .null, .null, .null, .null, .null, .null, .null, .int 0, .int 0]) X hI inG13 tyX13_ok rfl x_l16 x_inst13 w_155 (by decide) rfl rfl dL_law_8 (fun q2 H hI => ?_)
  have hI : In g (Ah s) s.heap s (wHK g (B 0) (B 1 0) (B 13 0) (B 11 0) (B 10 0) (B 9 0) (B 6 0) (B 3 0) (B 4 0) (B 5 0) (B 12 0) HK0 ++ (wRe g (B 1) (B 2 0) (B 14 0) Re0 ++ (wTa g (B 2) Ta0 ++ (wSe g (B 3) (B 7 0) Se0 ++ (wWi g (B 4) (B 13 0) (B 8 0) ++ (wCo g (B 5) Co0 ++ (wBo g (B 6) (B 13 0) Bo0 ++ (wBo g (B 7) (B 13 0) Bo0 ++ (wBo g (B 8) (B 13 0) Bo0 ++ (wHi g (B 9) Hi0 ++ (wMo g (B 10) Mo0 ++ (wMo g (B 11) Mo0 ++ (wCh g (B 12) Ch0 ++ (wRi g (B 13) Ri0 ++ (wTo g (B 14) To0 ++ [(q2, .inr (13, [.int 0, .int 0, .int 0, .null, .null, .null, .int 0, .int 0, .int 0, .int 0, .int 0, .int 0, .int 0, .int 0, .long 0, .long 0, .int 0, .int 0, .int 0, .null, .null, .null, .null, .int 0, .null, .null, .null, .null, .int 0, .int 0, .null, .null, .null, .null, .null, .null, .null, .null, .null, .int 0, .int 0]))]))))))))))))))) H _ := hI.eq (by simp only [List.append_assoc, List.nil_append])
  refine lv_dup hx hb dL_law_11 rfl ?_
  refine call_N (k := 0) (f := fun C => wHK g (B 0) (B 1 0) (B 13 0) (B 11 0) (B 10 0) (B 9 0) (B 6 0) (B 3 0) (B 4 0) (B 5 0) (B 12 0) HK0 ++ (wRe g (B 1) (B 2 0) (B 14 0) Re0 ++ (wTa g (B 2) Ta0 ++ (wSe g (B 3) (B 7 0) Se0 ++ (wWi g (B 4) (B 13 0) (B 8 0) ++ (wCo g (B 5) Co0 ++ (wBo g (B 6) (B 13 0) Bo0 ++ (wBo g (B 7) (B 13 0) Bo0 ++ (wBo g (B 8) (B 13 0) Bo0 ++ (wHi g (B 9) Hi0 ++ (wMo g (B 10) Mo0 ++ (wMo g (B 11) Mo0 ++ (wCh g (B 12) Ch0 ++ (wRi g (B 13) Ri0 ++ (wTo g (B 14) To0 ++ wMd g (C 0) none none Md0))))))))))))))) X hI (fun _ => Cj.skip (Cj.skip (Cj.skip (Cj.skip (Cj.skip (Cj.skip (Cj.skip (Cj.skip (Cj.skip (Cj.skip (Cj.skip (Cj.skip (Cj.skip (Cj.skip (Cj.skip (Cj.id)))))))))))))))) (c_X13_init l g q2) ⟨ht _ w_1579, w_1581, ht _ w_155, lk_X13_init⟩ w_1580 rfl rfl hl rfl rfl dL_law_12 rfl rfl rfl rfl (fun C H locs hC hI => ?_)
  refine lv_astore_n (lv' := [(2, .ref q2), (1, .ref q1), (0, .ref b)]) hx hb dL_law_15 rfl hl (by decide) rfl (fun ls hl => ?_)
  refine lv_iconst (v := 1) hx hb dL_law_16 (by decide) ?_
  refine new_J (N := 1) X hI (by decide) (by decide) rfl rfl rfl dL_law_17 (fun qo H hI => ?_)
  have hI : In g (Ah s) s.heap s (wHK g (B 0) (B 1 0) (B 13 0) (B 11 0) (B 10 0) (B 9 0) (B 6 0) (B 3 0) (B 4 0) (B 5 0) (B 12 0) HK0 ++ (wRe g (B 1) (B 2 0) (B 14 0) Re0 ++ (wTa g (B 2) Ta0 ++ (wSe g (B 3) (B 7 0) Se0 ++ (wWi g (B 4) (B 13 0) (B 8 0) ++ (wCo g (B 5) Co0 ++ (wBo g (B 6) (B 13 0) Bo0 ++ (wBo g (B 7) (B 13 0) Bo0 ++ (wBo g (B 8) (B 13 0) Bo0 ++ (wHi g (B 9) Hi0 ++ (wMo g (B 10) Mo0 ++ (wMo g (B 11) Mo0 ++ (wCh g (B 12) Ch0 ++ (wRi g (B 13) Ri0 ++ (wTo g (B 14) To0 ++ (wMd g (C 0) none none Md0 ++ [(qo, .inl (g.2 1, 1, .inr (.inl (fun _ => 0))))])))))))))))))))) H _ := hI.eq (by simp only [List.append_assoc, List.nil_append])
  have hI9 : In g (Ah s) s.heap s (wHK g (B 0) (B 1 0) (B 13 0) (B 11 0) (B 10 0) (B 9 0) (B 6 0) (B 3 0) (B 4 0) (B 5 0) (B 12 0) HK0 ++ (wRe g (B 1) (B 2 0) (B 14 0) Re0 ++ (wTa g (B 2) Ta0 ++ (wSe g (B 3) (B 7 0) Se0 ++ (wWi g (B 4) (B 13 0) (B 8 0) ++ (wCo g (B 5) Co0 ++ (wBo g (B 6) (B 13 0) Bo0 ++ (wBo g (B 7) (B 13 0) Bo0 ++ (wBo g (B 8) (B 13 0) Bo0 ++ (wHi g (B 9) Hi0 ++ (wMo g (B 10) Mo0 ++ (wMo g (B 11) Mo0 ++ (wCh g (B 12) Ch0 ++ (wRi g (B 13) Ri0 ++ (wTo g (B 14) To0 ++ (wOut g qo (fun _ => 0) ++ (wMd g (C 0) none none Md0 ++ []))))))))))))))))) H _ := hI.perm (List.Perm.append_left _ (List.Perm.append_left _ (List.Perm.append_left _ (List.Perm.append_left _ (List.Perm.append_left _ (List.Perm.append_left _ (List.Perm.append_left _ (List.Perm.append_left _ (List.Perm.append_left _ (List.Perm.append_left _ (List.Perm.append_left _ (List.Perm.append_left _ (List.Perm.append_left _ (List.Perm.append_left _ (List.Perm.append_left _ (by rw [List.append_nil]; exact List.perm_append_comm))))))))))))))))
  refine lv_astore_n (lv' := [(3, .ref qo), (2, .ref q2), (1, .ref q1), (0, .ref b)]) hx hb dL_law_19 rfl hl (by decide) rfl (fun ls hl => ?_)
  refine lv_iconst (v := 0) hx hb dL_law_20 (by decide) ?_
  refine lv_istore (lv' := [(4, .int 0), (3, .ref qo), (2, .ref q2), (1, .ref q1), (0, .ref b)]) hx hb dL_law_21 hl (by decide) rfl (fun ls hl => ?_)
  subst hB
  subst hC
  refine law_loop (B := B) (am := C 0) (qo := qo) (g := g) (no_traces hflags) X hX hbl hL (L + 1) 0 (by omega) (Nat.zero_le _) _ _ _ _ _ (lv_sub hl [4, 3, 2, 1, 0] rfl) ?_ (Nat.le_of_ble_eq_true rfl) (Nat.le_of_ble_eq_true rfl)
  exact ⟨HK0, Re0, Ta0, Se0, Co0, Bo0, Bo0, Bo0, Hi0, Mo0, Mo0, Ch0, Ri0, To0, Md0, none, fun _ => 0, none, fun _ => 0, inv0, hI9⟩
