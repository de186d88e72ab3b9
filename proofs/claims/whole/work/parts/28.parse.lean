abbrev rm_X13_wordOf : Room := { frames := 5, cells := 0, slots := 0, locals := 121 }
set_option maxRecDepth 20000 in
theorem c_X13_wordOf (l : Launch) (g : GT) (k0t : Nat) (r_ : Int64) (hf : f_X13_wordOf k0t = some (r_)) : CL l yX13_wordOf cX13_wordOf 4 (some .long) rm_X13_wordOf g [.ref (g.1.2.1 k0t)] ([]) ([]) r_ := by
  refine start2 (y := yX13_wordOf) (cc := cX13_wordOf) (n := 4) (av := [.ref (g.1.2.1 k0t)]) (ws := ([])) (Qc := fun sz => QL g ([]) ([]) r_ sz) (by decide) rfl ?_
  intro p e s m args below meth c ls Q A ha hQ hA X hl hI hin
  have X : Cx p s m args meth c cX13_wordOf 4 RX13 (some .long) := X
  have hl : lv_has ls 4 [(0, .ref (g.1.2.1 k0t))] := hl
  obtain ⟨hx, hb, hml, hown, ht, hr, hlk⟩ := id X
  clear ha hin
  have L_4 : ∀ (n_ : Nat) (x1 : Int64) (x3 : Int32) (H : Heap) (locs : List Loc) (ls : Array Slot), lv_has ls 4 [(0, .ref (g.1.2.1 k0t)), (1, .long x1), (3, .int x3)] → In g A s.heap s ([]) H locs → f_X13_wordOf_L4 n_ x1 x3 k0t = some (r_) → W p l e rm_X13_wordOf s m args below meth c H locs 0 0 Q (F0 m 4 ls []) := by
    intro n_
    induction n_ with
    | zero =>
      intro x1 x3 H locs ls hl hI hf
      rw [f_X13_wordOf_L4] at hf
      cases hf
    | succ n_ ih =>
      intro x1 x3 H locs ls hl hI hf
      rw [f_X13_wordOf_L4] at hf
      refine lv_iload_n hx hb dX13_wordOf_4 rfl (lv_at hl 2 rfl) ?_
      refine lv_aload_n hx hb dX13_wordOf_5 rfl (lv_at hl 0 rfl) ?_
      obtain ⟨r_1, hc_, hf⟩ := bd1_some hf
      refine call_T X hI (c_strlen l g k0t r_1 hc_) (k_strlen hc_) ⟨rfl, rfl⟩ ⟨ht _ w_1887, w_191, ht _ w_142, lk_J0_length_8abf5⟩ w_189 w_190 rfl hl rfl rfl dX13_wordOf_6 rfl rfl rfl rfl (fun H locs hI => ?_)
      refine lv_icmp_ge (tgt := 36) hx hb dX13_wordOf_9 (by decide) (fun h_ => ?_) (fun h_ => ?_)
      · replace hf := if_t h_ hf
        refine lv_lload_n hx hb dX13_wordOf_36 rfl (lv_at hl 1 rfl) ?_
        cases hf
        exact end_l hQ hA X hI dX13_wordOf_37
      · replace hf := if_f h_ hf
        refine lv_ldc2 (v := 32) hx hb hown (ht _ w_1867) dX13_wordOf_12 ?_
        refine lv_lload_n hx hb dX13_wordOf_15 rfl (lv_at hl 1 rfl) ?_
        refine lv_lmul hx hb dX13_wordOf_16 ?_
        refine lv_aload_n hx hb dX13_wordOf_17 rfl (lv_at hl 0 rfl) ?_
        refine lv_iload_n hx hb dX13_wordOf_18 rfl (lv_at hl 2 rfl) ?_
        obtain ⟨r_2, hc_, hf⟩ := bd1_some hf
        refine call_T X hI (c_charAt l g k0t x3 r_2 hc_) (k_charAt hc_) ⟨rfl, rfl⟩ ⟨ht _ w_1888, w_201, ht _ w_142, lk_J0_charAt_5068e⟩ w_199 w_200 rfl hl rfl rfl dX13_wordOf_19 rfl rfl rfl rfl (fun H locs hI => ?_)
        refine lv_bipush (v := 97) hx hb dX13_wordOf_22 (by decide) ?_
        refine lv_isub hx hb dX13_wordOf_24 ?_
        refine lv_iconst (v := 1) hx hb dX13_wordOf_25 (by decide) ?_
        refine lv_iadd hx hb dX13_wordOf_26 ?_
        refine lv_i2l hx hb dX13_wordOf_27 rfl ?_
        refine lv_ladd hx hb dX13_wordOf_28 ?_
        refine lv_topl (fun v_3 e_ => ?_)
        replace hf := lt_to e_ hf
        clear e_
        refine lv_lstore_n (lv' := [(1, .long v_3), (0, .ref (g.1.2.1 k0t)), (3, .int x3)]) hx hb dX13_wordOf_29 rfl hl (by decide) rfl (fun ls hl => ?_)
        obtain ⟨v_4, e_⟩ : ∃ y : Int32, y = (x3 + (1 : Int32)) := ⟨_, rfl⟩
        replace hf := lt_to e_ hf
        refine lv_iinc (v := v_4) (lv' := [(3, .int v_4), (1, .long v_3), (0, .ref (g.1.2.1 k0t))]) hx hb dX13_wordOf_30 hl (k := 2) rfl (by rw [e_]; rfl) (by decide) rfl (fun ls hl => ?_)
        clear e_
        refine lv_goto (tgt := 4) hx hb dX13_wordOf_33 (by decide) ?_
        exact ih v_3 v_4 _ _ _ (lv_sub hl [2, 1, 0] rfl) hI hf
  unfold f_X13_wordOf at hf
  refine lv_lconst (v := 0) hx hb dX13_wordOf_0 (by decide) ?_
  refine lv_lstore_n (lv' := [(1, .long (0 : Int64)), (0, .ref (g.1.2.1 k0t))]) hx hb dX13_wordOf_1 rfl hl (by decide) rfl (fun ls hl => ?_)
  refine lv_iconst (v := 0) hx hb dX13_wordOf_2 (by decide) ?_
  refine lv_istore_n (lv' := [(3, .int (0 : Int32)), (1, .long (0 : Int64)), (0, .ref (g.1.2.1 k0t))]) hx hb dX13_wordOf_3 rfl hl (by decide) rfl (fun ls hl => ?_)
  exact L_4 FU (0 : Int64) (0 : Int32) _ _ _ (lv_sub hl [2, 1, 0] rfl) hI hf
abbrev rm_X13_isWord : Room := { frames := 6, cells := 0, slots := 0, locals := 144 }
set_option maxRecDepth 20000 in
theorem c_X13_isWord (l : Launch) (g : GT) (a_md : Nat → Nat) (q_md_tangle : Option Nat) (q_md_read : Option Nat) (md : MdS) (k1t : Nat) (r_ : Int32) (hf : f_X13_isWord md k1t = some (r_)) : CI l yX13_isWord cX13_isWord 2 (some .boolean) rm_X13_isWord g [.ref (a_md 0), .ref (g.1.2.1 k1t)] (wMd g a_md q_md_tangle q_md_read md ++ []) (wMd g a_md q_md_tangle q_md_read md ++ []) r_ := by
  refine start2 (y := yX13_isWord) (cc := cX13_isWord) (n := 2) (av := [.ref (a_md 0), .ref (g.1.2.1 k1t)]) (ws := (wMd g a_md q_md_tangle q_md_read md ++ [])) (Qc := fun sz => QI g (wMd g a_md q_md_tangle q_md_read md ++ []) (wMd g a_md q_md_tangle q_md_read md ++ []) r_ sz) (by decide) rfl ?_
  intro p e s m args below meth c ls Q A ha hQ hA X hl hI hin
  have X : Cx p s m args meth c cX13_isWord 2 RX13 (some .boolean) := X
  have hl : lv_has ls 2 [(0, .ref (a_md 0)), (1, .ref (g.1.2.1 k1t))] := hl
  obtain ⟨hx, hb, hml, hown, ht, hr, hlk⟩ := id X
  clear ha hin
  unfold f_X13_isWord at hf
  refine lv_aload_n hx hb dX13_isWord_0 rfl (lv_at hl 0 rfl) ?_
  refine g_Md_sort X hI has_Md.l (X.fl w_1592) dX13_isWord_1 ?_
  refine lv_iconst (v := 2) hx hb dX13_isWord_4 (by decide) ?_
  refine lv_icmp_ne (tgt := 24) hx hb dX13_isWord_5 (by decide) (fun h_ => ?_) (fun h_ => ?_)
  · replace hf := if_f h_ hf
    refine lv_iconst (v := 0) hx hb dX13_isWord_24 (by decide) ?_
    cases hf
    exact end_z hQ hA X hI rfl dX13_isWord_25
  · replace hf := if_t h_ hf
    refine lv_aload_n hx hb dX13_isWord_8 rfl (lv_at hl 0 rfl) ?_
    refine g_Md_word X hI has_Md.l (X.fl w_1597) dX13_isWord_9 ?_
    refine lv_aload_n hx hb dX13_isWord_12 rfl (lv_at hl 1 rfl) ?_
    obtain ⟨r_1, hc_, hf⟩ := bd1_some hf
    refine call_Sl X hI Cj.nil (c_X13_wordOf l g k1t r_1 hc_) ⟨rfl, rfl⟩ ⟨ht _ w_1884, w_1886, ht _ w_155, lk_X13_wordOf⟩ w_1885 rfl hl rfl rfl dX13_isWord_13 rfl rfl rfl rfl (fun H locs hI => ?_)
    refine W.lcmp hx hb dX13_isWord_16 ?_
    refine lv_if_ne (tgt := 24) hx hb dX13_isWord_17 (by decide) (fun h_ => ?_) (fun h_ => ?_)
    · replace hf := if_f h_ hf
      refine lv_iconst (v := 0) hx hb dX13_isWord_24 (by decide) ?_
      cases hf
      exact end_z hQ hA X hI rfl dX13_isWord_25
    · replace hf := if_t h_ hf
      refine lv_iconst (v := 1) hx hb dX13_isWord_20 (by decide) ?_
      refine lv_goto (tgt := 25) hx hb dX13_isWord_21 (by decide) ?_
      cases hf
      exact end_z hQ hA X hI rfl dX13_isWord_25
abbrev rm_X13_eatsWord : Room := { frames := 7, cells := 0, slots := 0, locals := 165 }
set_option maxRecDepth 20000 in
theorem c_X13_eatsWord (l : Launch) (g : GT) (a_md : Nat → Nat) (q_md_tangle : Option Nat) (q_md_read : Option Nat) (md : MdS) (k1t : Nat) (r_ : Int32) (o_md : MdS) (hf : f_X13_eatsWord md k1t = some (r_, o_md)) : CI l yX13_eatsWord cX13_eatsWord 3 (some .boolean) rm_X13_eatsWord g [.ref (a_md 0), .ref (g.1.2.1 k1t)] (wMd g a_md q_md_tangle q_md_read md ++ []) (wMd g a_md q_md_tangle q_md_read o_md ++ []) r_ := by
  refine start2 (y := yX13_eatsWord) (cc := cX13_eatsWord) (n := 3) (av := [.ref (a_md 0), .ref (g.1.2.1 k1t)]) (ws := (wMd g a_md q_md_tangle q_md_read md ++ [])) (Qc := fun sz => QI g (wMd g a_md q_md_tangle q_md_read md ++ []) (wMd g a_md q_md_tangle q_md_read o_md ++ []) r_ sz) (by decide) rfl ?_
  intro p e s m args below meth c ls Q A ha hQ hA X hl hI hin
  have X : Cx p s m args meth c cX13_eatsWord 3 RX13 (some .boolean) := X
  have hl : lv_has ls 3 [(0, .ref (a_md 0)), (1, .ref (g.1.2.1 k1t))] := hl
  obtain ⟨hx, hb, hml, hown, ht, hr, hlk⟩ := id X
  clear ha hin
  unfold f_X13_eatsWord at hf
  refine lv_aload_n hx hb dX13_eatsWord_0 rfl (lv_at hl 0 rfl) ?_
  refine lv_aload_n hx hb dX13_eatsWord_1 rfl (lv_at hl 1 rfl) ?_
  obtain ⟨r_1, hc_, hf⟩ := bd1_some hf
  refine call_Vi X hI (Cj.keep Cj.id) (c_X13_isWord l g a_md q_md_tangle q_md_read md k1t r_1 hc_) ⟨rfl, rfl⟩ ⟨ht _ w_1880, w_1883, ht _ w_155, lk_X13_isWord⟩ w_1882 w_70 rfl rfl rfl hl rfl rfl dX13_eatsWord_2 rfl rfl rfl rfl (fun H locs hI => ?_)
  refine lv_istore_n (lv' := [(2, .int r_1), (0, .ref (a_md 0)), (1, .ref (g.1.2.1 k1t))]) hx hb dX13_eatsWord_5 rfl hl (by decide) rfl (fun ls hl => ?_)
  refine lv_iload_n hx hb dX13_eatsWord_6 rfl (lv_at hl 0 rfl) ?_
  refine lv_if_eq (tgt := 14) hx hb dX13_eatsWord_7 (by decide) (fun h_ => ?_) (fun h_ => ?_)
  · replace hf := if_t h_ hf
    refine lv_iload_n hx hb dX13_eatsWord_14 rfl (lv_at hl 0 rfl) ?_
    obtain ⟨hzb_, hf⟩ := zb_some hf
    cases hf
    exact end_z hQ hA X hI (zb_n hzb_) dX13_eatsWord_15
  · replace hf := if_f h_ hf
    refine lv_aload_n hx hb dX13_eatsWord_10 rfl (lv_at hl 1 rfl) ?_
    obtain ⟨md_2, hc_, hf⟩ := bd1_some hf
    refine call_Vv X hI (Cj.keep Cj.id) (c_X13_goesOn l g a_md q_md_tangle q_md_read md md_2 hc_) ⟨rfl, rfl⟩ ⟨ht _ w_1856, w_1859, ht _ w_155, lk_X13_goesOn⟩ w_1858 w_66 rfl rfl rfl hl rfl rfl dX13_eatsWord_11 rfl rfl rfl rfl (fun H locs hI => ?_)
    refine lv_iload_n hx hb dX13_eatsWord_14 rfl (lv_at hl 0 rfl) ?_
    obtain ⟨hzb_, hf⟩ := zb_some hf
    cases hf
    exact end_z hQ hA X hI (zb_n hzb_) dX13_eatsWord_15
abbrev rm_X13_needs : Room := { frames := 7, cells := 0, slots := 0, locals := 165 }
set_option maxRecDepth 20000 in
theorem c_X13_needs (l : Launch) (g : GT) (a_md : Nat → Nat) (q_md_tangle : Option Nat) (q_md_read : Option Nat) (md : MdS) (k1t : Nat) (o_md : MdS) (hf : f_X13_needs md k1t = some (o_md)) : CV l yX13_needs cX13_needs 2 none rm_X13_needs g [.ref (a_md 0), .ref (g.1.2.1 k1t)] (wMd g a_md q_md_tangle q_md_read md ++ []) (wMd g a_md q_md_tangle q_md_read o_md ++ []) := by
  refine start2 (y := yX13_needs) (cc := cX13_needs) (n := 2) (av := [.ref (a_md 0), .ref (g.1.2.1 k1t)]) (ws := (wMd g a_md q_md_tangle q_md_read md ++ [])) (Qc := fun sz => QV g (wMd g a_md q_md_tangle q_md_read md ++ []) (wMd g a_md q_md_tangle q_md_read o_md ++ []) sz) (by decide) rfl ?_
  intro p e s m args below meth c ls Q A ha hQ hA X hl hI hin
  have X : Cx p s m args meth c cX13_needs 2 RX13 none := X
  have hl : lv_has ls 2 [(0, .ref (a_md 0)), (1, .ref (g.1.2.1 k1t))] := hl
  obtain ⟨hx, hb, hml, hown, ht, hr, hlk⟩ := id X
  clear ha hin
  have L_13 : ∀ (md : MdS) (H : Heap) (locs : List Loc) (ls : Array Slot), lv_has ls 2 [(0, .ref (a_md 0))] → In g A s.heap s (wMd g a_md q_md_tangle q_md_read md ++ []) H locs → f_X13_needs_L13 md = some (o_md) → W p l e rm_X13_needs s m args below meth c H locs 0 0 Q (F0 m 13 ls []) := by
    intro md H locs ls hl hI hf
    unfold f_X13_needs_L13 at hf
    refine lv_aload_n hx hb dX13_needs_13 rfl (lv_at hl 0 rfl) ?_
    obtain ⟨md_3, hc_, hf⟩ := bd1_some hf
    refine call_Vv X hI (Cj.keep Cj.id) (c_X13_goesOn l g a_md q_md_tangle q_md_read md md_3 hc_) ⟨rfl, rfl⟩ ⟨ht _ w_1856, w_1859, ht _ w_155, lk_X13_goesOn⟩ w_1858 w_66 rfl rfl rfl hl rfl rfl dX13_needs_14 rfl rfl rfl rfl (fun H locs hI => ?_)
    cases hf
    exact end_v hQ hA X hI dX13_needs_17
  unfold f_X13_needs at hf
  refine lv_aload_n hx hb dX13_needs_0 rfl (lv_at hl 0 rfl) ?_
  refine lv_aload_n hx hb dX13_needs_1 rfl (lv_at hl 1 rfl) ?_
  obtain ⟨r_1, hc_, hf⟩ := bd1_some hf
  refine call_Vi X hI (Cj.keep Cj.id) (c_X13_isWord l g a_md q_md_tangle q_md_read md k1t r_1 hc_) ⟨rfl, rfl⟩ ⟨ht _ w_1880, w_1883, ht _ w_155, lk_X13_isWord⟩ w_1882 w_70 rfl rfl rfl hl rfl rfl dX13_needs_2 rfl rfl rfl rfl (fun H locs hI => ?_)
  refine lv_if_ne (tgt := 13) hx hb dX13_needs_5 (by decide) (fun h_ => ?_) (fun h_ => ?_)
  · replace hf := if_f h_ hf
    exact L_13 md _ _ _ (lv_sub hl [0] rfl) hI hf
  · replace hf := if_t h_ hf
    refine lv_aload_n hx hb dX13_needs_8 rfl (lv_at hl 0 rfl) ?_
    refine lv_iconst (v := 1) hx hb dX13_needs_9 (by decide) ?_
    obtain ⟨md_2, hc_, hf⟩ := bd1_some hf
    refine call_Vv X hI (Cj.keep Cj.id) (c_X13_flaw l g a_md q_md_tangle q_md_read md (1 : Int32) md_2 hc_) ⟨rfl, rfl⟩ ⟨ht _ w_1893, w_1896, ht _ w_155, lk_X13_flaw⟩ w_1895 w_72 rfl rfl rfl hl rfl rfl dX13_needs_10 rfl rfl rfl rfl (fun H locs hI => ?_)
    exact L_13 md_2 _ _ _ (lv_sub hl [0] rfl) hI hf
abbrev rm_X13_readPart : Room := { frames := 8, cells := 0, slots := 0, locals := 186 }
set_option maxRecDepth 20000 in
theorem c_X13_readPart (l : Launch) (g : GT) (a_md : Nat → Nat) (q_md_tangle : Option Nat) (q_md_read : Option Nat) (md : MdS) (k1t : Nat) (p2 : Int32) (p3 : Int32) (r_ : Int32) (o_md : MdS) (hf : f_X13_readPart md k1t p2 p3 = some (r_, o_md)) : CI l yX13_readPart cX13_readPart 5 (some .int) rm_X13_readPart g [.ref (a_md 0), .ref (g.1.2.1 k1t), .int p2, .int p3] (wMd g a_md q_md_tangle q_md_read md ++ []) (wMd g a_md q_md_tangle q_md_read o_md ++ []) r_ := by
  refine start2 (y := yX13_readPart) (cc := cX13_readPart) (n := 5) (av := [.ref (a_md 0), .ref (g.1.2.1 k1t), .int p2, .int p3]) (ws := (wMd g a_md q_md_tangle q_md_read md ++ [])) (Qc := fun sz => QI g (wMd g a_md q_md_tangle q_md_read md ++ []) (wMd g a_md q_md_tangle q_md_read o_md ++ []) r_ sz) (by decide) rfl ?_
  intro p e s m args below meth c ls Q A ha hQ hA X hl hI hin
  have X : Cx p s m args meth c cX13_readPart 5 RX13 (some .int) := X
  have hl : lv_has ls 5 [(0, .ref (a_md 0)), (1, .ref (g.1.2.1 k1t)), (2, .int p2), (3, .int p3)] := hl
  obtain ⟨hx, hb, hml, hown, ht, hr, hlk⟩ := id X
  clear ha hin
  unfold f_X13_readPart at hf
  refine lv_aload_n hx hb dX13_readPart_0 rfl (lv_at hl 0 rfl) ?_
  refine lv_aload_n hx hb dX13_readPart_1 rfl (lv_at hl 1 rfl) ?_
  obtain ⟨md_1, hc_, hf⟩ := bd1_some hf
  refine call_Vv X hI (Cj.keep Cj.id) (c_X13_needs l g a_md q_md_tangle q_md_read md k1t md_1 hc_) ⟨rfl, rfl⟩ ⟨ht _ w_1902, w_1905, ht _ w_155, lk_X13_needs⟩ w_1904 w_74 rfl rfl rfl hl rfl rfl dX13_readPart_2 rfl rfl rfl rfl (fun H locs hI => ?_)
  refine lv_aload_n hx hb dX13_readPart_5 rfl (lv_at hl 0 rfl) ?_
  refine lv_iload_n hx hb dX13_readPart_6 rfl (lv_at hl 2 rfl) ?_
  refine lv_iload_n hx hb dX13_readPart_7 rfl (lv_at hl 3 rfl) ?_
  obtain ⟨r_2, md_3, hc_, hf⟩ := bd2_some hf
  refine call_Vi X hI (Cj.keep Cj.id) (c_X13_bounded l g a_md q_md_tangle q_md_read md_1 p2 p3 r_2 md_3 hc_) ⟨rfl, rfl⟩ ⟨ht _ w_1906, w_1909, ht _ w_155, lk_X13_bounded⟩ w_1908 w_75 rfl rfl rfl hl rfl rfl dX13_readPart_8 rfl rfl rfl rfl (fun H locs hI => ?_)
  refine lv_istore (lv' := [(4, .int r_2), (0, .ref (a_md 0)), (1, .ref (g.1.2.1 k1t)), (2, .int p2), (3, .int p3)]) hx hb dX13_readPart_11 hl (by decide) rfl (fun ls hl => ?_)
  refine lv_aload_n hx hb dX13_readPart_13 rfl (lv_at hl 1 rfl) ?_
  obtain ⟨md_4, hc_, hf⟩ := bd1_some hf
  refine call_Vv X hI (Cj.keep Cj.id) (c_X13_goesOn l g a_md q_md_tangle q_md_read md_3 md_4 hc_) ⟨rfl, rfl⟩ ⟨ht _ w_1856, w_1859, ht _ w_155, lk_X13_goesOn⟩ w_1858 w_66 rfl rfl rfl hl rfl rfl dX13_readPart_14 rfl rfl rfl rfl (fun H locs hI => ?_)
  refine lv_iload hx hb dX13_readPart_17 (lv_at hl 0 rfl) ?_
  cases hf
  exact end_i hQ hA X hI dX13_readPart_19
abbrev rm_X13_isName : Room := { frames := 7, cells := 0, slots := 0, locals := 165 }
set_option maxRecDepth 20000 in
theorem c_X13_isName (l : Launch) (g : GT) (a_md : Nat → Nat) (q_md_tangle : Option Nat) (q_md_read : Option Nat) (md : MdS) (r_ : Int32) (hf : f_X13_isName md = some (r_)) : CI l yX13_isName cX13_isName 1 (some .boolean) rm_X13_isName g [.ref (a_md 0)] (wMd g a_md q_md_tangle q_md_read md ++ []) (wMd g a_md q_md_tangle q_md_read md ++ []) r_ := by
  refine start2 (y := yX13_isName) (cc := cX13_isName) (n := 1) (av := [.ref (a_md 0)]) (ws := (wMd g a_md q_md_tangle q_md_read md ++ [])) (Qc := fun sz => QI g (wMd g a_md q_md_tangle q_md_read md ++ []) (wMd g a_md q_md_tangle q_md_read md ++ []) r_ sz) (by decide) rfl ?_
  intro p e s m args below meth c ls Q A ha hQ hA X hl hI hin
  have X : Cx p s m args meth c cX13_isName 1 RX13 (some .boolean) := X
  have hl : lv_has ls 1 [(0, .ref (a_md 0))] := hl
  obtain ⟨hx, hb, hml, hown, ht, hr, hlk⟩ := id X
  clear ha hin
  unfold f_X13_isName at hf
  refine lv_aload_n hx hb dX13_isName_0 rfl (lv_at hl 0 rfl) ?_
  refine g_Md_sort X hI has_Md.l (X.fl w_1592) dX13_isName_1 ?_
  refine lv_iconst (v := 2) hx hb dX13_isName_4 (by decide) ?_
  refine lv_icmp_ne (tgt := 48) hx hb dX13_isName_5 (by decide) (fun h_ => ?_) (fun h_ => ?_)
  · replace hf := if_f h_ hf
    refine lv_iconst (v := 0) hx hb dX13_isName_48 (by decide) ?_
    cases hf
    exact end_z hQ hA X hI rfl dX13_isName_49
  · replace hf := if_t h_ hf
    refine lv_aload_n hx hb dX13_isName_8 rfl (lv_at hl 0 rfl) ?_
    refine va_ldcS hx hb hown (sr_12 hI) dX13_isName_9 ?_
    obtain ⟨r_1, hc_, hf⟩ := bd1_some hf
    refine call_Vi X hI (Cj.keep Cj.id) (c_X13_isWord l g a_md q_md_tangle q_md_read md 12 r_1 hc_) ⟨rfl, rfl⟩ ⟨ht _ w_1880, w_1883, ht _ w_155, lk_X13_isWord⟩ w_1882 w_70 rfl rfl rfl hl rfl rfl dX13_isName_11 rfl rfl rfl rfl (fun H locs hI => ?_)
    refine lv_if_ne (tgt := 48) hx hb dX13_isName_14 (by decide) (fun h_ => ?_) (fun h_ => ?_)
    · replace hf := if_f h_ hf
      refine lv_iconst (v := 0) hx hb dX13_isName_48 (by decide) ?_
      cases hf
      exact end_z hQ hA X hI rfl dX13_isName_49
    · replace hf := if_t h_ hf
      refine lv_aload_n hx hb dX13_isName_17 rfl (lv_at hl 0 rfl) ?_
      refine va_ldcS hx hb hown (sr_15 hI) dX13_isName_18 ?_
      obtain ⟨r_2, hc_, hf⟩ := bd1_some hf
      refine call_Vi X hI (Cj.keep Cj.id) (c_X13_isWord l g a_md q_md_tangle q_md_read md 15 r_2 hc_) ⟨rfl, rfl⟩ ⟨ht _ w_1880, w_1883, ht _ w_155, lk_X13_isWord⟩ w_1882 w_70 rfl rfl rfl hl rfl rfl dX13_isName_20 rfl rfl rfl rfl (fun H locs hI => ?_)
      refine lv_if_ne (tgt := 48) hx hb dX13_isName_23 (by decide) (fun h_ => ?_) (fun h_ => ?_)
      · replace hf := if_f h_ hf
        refine lv_iconst (v := 0) hx hb dX13_isName_48 (by decide) ?_
        cases hf
        exact end_z hQ hA X hI rfl dX13_isName_49
      · replace hf := if_t h_ hf
        refine lv_aload_n hx hb dX13_isName_26 rfl (lv_at hl 0 rfl) ?_
        refine va_ldcS hx hb hown (sr_16 hI) dX13_isName_27 ?_
        obtain ⟨r_3, hc_, hf⟩ := bd1_some hf
        refine call_Vi X hI (Cj.keep Cj.id) (c_X13_isWord l g a_md q_md_tangle q_md_read md 16 r_3 hc_) ⟨rfl, rfl⟩ ⟨ht _ w_1880, w_1883, ht _ w_155, lk_X13_isWord⟩ w_1882 w_70 rfl rfl rfl hl rfl rfl dX13_isName_29 rfl rfl rfl rfl (fun H locs hI => ?_)
        refine lv_if_ne (tgt := 48) hx hb dX13_isName_32 (by decide) (fun h_ => ?_) (fun h_ => ?_)
        · replace hf := if_f h_ hf
          refine lv_iconst (v := 0) hx hb dX13_isName_48 (by decide) ?_
          cases hf
          exact end_z hQ hA X hI rfl dX13_isName_49
        · replace hf := if_t h_ hf
          refine lv_aload_n hx hb dX13_isName_35 rfl (lv_at hl 0 rfl) ?_
          refine va_ldcS hx hb hown (sr_17 hI) dX13_isName_36 ?_
          obtain ⟨r_4, hc_, hf⟩ := bd1_some hf
          refine call_Vi X hI (Cj.keep Cj.id) (c_X13_isWord l g a_md q_md_tangle q_md_read md 17 r_4 hc_) ⟨rfl, rfl⟩ ⟨ht _ w_1880, w_1883, ht _ w_155, lk_X13_isWord⟩ w_1882 w_70 rfl rfl rfl hl rfl rfl dX13_isName_38 rfl rfl rfl rfl (fun H locs hI => ?_)
          refine lv_if_ne (tgt := 48) hx hb dX13_isName_41 (by decide) (fun h_ => ?_) (fun h_ => ?_)
          · replace hf := if_f h_ hf
            refine lv_iconst (v := 0) hx hb dX13_isName_48 (by decide) ?_
            cases hf
            exact end_z hQ hA X hI rfl dX13_isName_49
          · replace hf := if_t h_ hf
            refine lv_iconst (v := 1) hx hb dX13_isName_44 (by decide) ?_
            refine lv_goto (tgt := 49) hx hb dX13_isName_45 (by decide) ?_
            cases hf
            exact end_z hQ hA X hI rfl dX13_isName_49
abbrev rm_X13_readFresh : Room := { frames := 8, cells := 0, slots := 0, locals := 185 }
set_option maxRecDepth 20000 in
theorem c_X13_readFresh (l : Launch) (g : GT) (a_md : Nat → Nat) (a_rd : Nat → Nat) (q_md_tangle : Option Nat) (md : MdS) (rd : TnS) (r_ : Int64) (o_md : MdS) (hf : f_X13_readFresh md rd = some (r_, o_md)) : CL l yX13_readFresh cX13_readFresh 3 (some .long) rm_X13_readFresh g [.ref (a_md 0)] (wMd g a_md q_md_tangle (some (a_rd 0)) md ++ (wTn g a_rd rd ++ [])) (wMd g a_md q_md_tangle (some (a_rd 0)) o_md ++ (wTn g a_rd rd ++ [])) r_ := by
  refine start2 (y := yX13_readFresh) (cc := cX13_readFresh) (n := 3) (av := [.ref (a_md 0)]) (ws := (wMd g a_md q_md_tangle (some (a_rd 0)) md ++ (wTn g a_rd rd ++ []))) (Qc := fun sz => QL g (wMd g a_md q_md_tangle (some (a_rd 0)) md ++ (wTn g a_rd rd ++ [])) (wMd g a_md q_md_tangle (some (a_rd 0)) o_md ++ (wTn g a_rd rd ++ [])) r_ sz) (by decide) rfl ?_
  intro p e s m args below meth c ls Q A ha hQ hA X hl hI hin
  have X : Cx p s m args meth c cX13_readFresh 3 RX13 (some .long) := X
  have hl : lv_has ls 3 [(0, .ref (a_md 0))] := hl
  obtain ⟨hx, hb, hml, hown, ht, hr, hlk⟩ := id X
  clear ha hin
  have L_32 : ∀ (md : MdS) (H : Heap) (locs : List Loc) (ls : Array Slot), lv_has ls 3 [(0, .ref (a_md 0))] → In g A s.heap s (wMd g a_md q_md_tangle (some (a_rd 0)) md ++ (wTn g a_rd rd ++ [])) H locs → f_X13_readFresh_L32 md = some (r_, o_md) → W p l e rm_X13_readFresh s m args below meth c H locs 0 0 Q (F0 m 32 ls []) := by
    intro md H locs ls hl hI hf
    unfold f_X13_readFresh_L32 at hf
    refine lv_aload_n hx hb dX13_readFresh_32 rfl (lv_at hl 0 rfl) ?_
    refine g_Md_word X hI has_Md.l (X.fl w_1597) dX13_readFresh_33 ?_
    refine lv_topl (fun v_5 e_ => ?_)
    replace hf := lt_to e_ hf
    clear e_
    refine lv_lstore_n (lv' := [(1, .long v_5), (0, .ref (a_md 0))]) hx hb dX13_readFresh_36 rfl hl (by decide) rfl (fun ls hl => ?_)
    refine lv_aload_n hx hb dX13_readFresh_37 rfl (lv_at hl 1 rfl) ?_
    obtain ⟨md_6, hc_, hf⟩ := bd1_some hf
    refine call_Vv X hI (Cj.keep Cj.nil) (c_X13_goesOn l g a_md q_md_tangle (some (a_rd 0)) md md_6 hc_) ⟨rfl, rfl⟩ ⟨ht _ w_1856, w_1859, ht _ w_155, lk_X13_goesOn⟩ w_1858 w_66 rfl rfl rfl hl rfl rfl dX13_readFresh_38 rfl rfl rfl rfl (fun H locs hI => ?_)
    refine lv_lload_n hx hb dX13_readFresh_41 rfl (lv_at hl 0 rfl) ?_
    cases hf
    exact end_l hQ hA X hI dX13_readFresh_42
  have L_12 : ∀ (md : MdS) (H : Heap) (locs : List Loc) (ls : Array Slot), lv_has ls 3 [(0, .ref (a_md 0))] → In g A s.heap s (wMd g a_md q_md_tangle (some (a_rd 0)) md ++ (wTn g a_rd rd ++ [])) H locs → f_X13_readFresh_L12 md rd = some (r_, o_md) → W p l e rm_X13_readFresh s m args below meth c H locs 0 0 Q (F0 m 12 ls []) := by
    intro md H locs ls hl hI hf
    unfold f_X13_readFresh_L12 at hf
    refine lv_aload_n hx hb dX13_readFresh_12 rfl (lv_at hl 0 rfl) ?_
    refine g_Md_read_S X hI has_Md.l (X.fl w_1587) dX13_readFresh_13 ?_
    refine lv_aload_n hx hb dX13_readFresh_16 rfl (lv_at hl 0 rfl) ?_
    refine g_Md_word X hI has_Md.l (X.fl w_1597) dX13_readFresh_17 ?_
    obtain ⟨r_3, hc_, hf⟩ := bd1_some hf
    refine call_Vi X hI (Cj.skip (Cj.keep Cj.id)) (c_X12_find l g a_rd rd (Md_word md) r_3 hc_) ⟨rfl, rfl⟩ ⟨ht _ w_1937, w_1940, ht _ w_159, lk_X12_find⟩ w_1938 w_1939 rfl rfl rfl hl rfl rfl dX13_readFresh_20 rfl rfl rfl rfl (fun H locs hI => ?_)
    refine lv_iconst (v := (-1)) hx hb dX13_readFresh_23 (by decide) ?_
    refine lv_icmp_eq (tgt := 32) hx hb dX13_readFresh_24 (by decide) (fun h_ => ?_) (fun h_ => ?_)
    · replace hf := if_t h_ hf
      exact L_32 md _ _ _ hl hI hf
    · replace hf := if_f h_ hf
      refine lv_aload_n hx hb dX13_readFresh_27 rfl (lv_at hl 0 rfl) ?_
      refine lv_iconst (v := 3) hx hb dX13_readFresh_28 (by decide) ?_
      obtain ⟨md_4, hc_, hf⟩ := bd1_some hf
      refine call_Vv X hI (Cj.keep Cj.nil) (c_X13_flaw l g a_md q_md_tangle (some (a_rd 0)) md (3 : Int32) md_4 hc_) ⟨rfl, rfl⟩ ⟨ht _ w_1893, w_1896, ht _ w_155, lk_X13_flaw⟩ w_1895 w_72 rfl rfl rfl hl rfl rfl dX13_readFresh_29 rfl rfl rfl rfl (fun H locs hI => ?_)
      exact L_32 md_4 _ _ _ hl hI hf
  unfold f_X13_readFresh at hf
  refine lv_aload_n hx hb dX13_readFresh_0 rfl (lv_at hl 0 rfl) ?_
  obtain ⟨r_1, hc_, hf⟩ := bd1_some hf
  refine call_Vi X hI (Cj.keep Cj.nil) (c_X13_isName l g a_md q_md_tangle (some (a_rd 0)) md r_1 hc_) ⟨rfl, rfl⟩ ⟨ht _ w_1931, w_1934, ht _ w_155, lk_X13_isName⟩ w_1933 w_80 rfl rfl rfl hl rfl rfl dX13_readFresh_1 rfl rfl rfl rfl (fun H locs hI => ?_)
  refine lv_if_ne (tgt := 12) hx hb dX13_readFresh_4 (by decide) (fun h_ => ?_) (fun h_ => ?_)
  · replace hf := if_f h_ hf
    exact L_12 md _ _ _ hl hI hf
  · replace hf := if_t h_ hf
    refine lv_aload_n hx hb dX13_readFresh_7 rfl (lv_at hl 0 rfl) ?_
    refine lv_iconst (v := 1) hx hb dX13_readFresh_8 (by decide) ?_
    obtain ⟨md_2, hc_, hf⟩ := bd1_some hf
    refine call_Vv X hI (Cj.keep Cj.nil) (c_X13_flaw l g a_md q_md_tangle (some (a_rd 0)) md (1 : Int32) md_2 hc_) ⟨rfl, rfl⟩ ⟨ht _ w_1893, w_1896, ht _ w_155, lk_X13_flaw⟩ w_1895 w_72 rfl rfl rfl hl rfl rfl dX13_readFresh_9 rfl rfl rfl rfl (fun H locs hI => ?_)
    exact L_12 md_2 _ _ _ hl hI hf
abbrev rm_X13_known : Room := { frames := 8, cells := 0, slots := 0, locals := 185 }
set_option maxRecDepth 20000 in
theorem c_X13_known (l : Launch) (g : GT) (a_md : Nat → Nat) (a_rd : Nat → Nat) (q_md_tangle : Option Nat) (md : MdS) (rd : TnS) (p1 : Int32) (r_ : Int32) (o_md : MdS) (hf : f_X13_known md rd p1 = some (r_, o_md)) : CI l yX13_known cX13_known 3 (some .int) rm_X13_known g [.ref (a_md 0), .int p1] (wMd g a_md q_md_tangle (some (a_rd 0)) md ++ (wTn g a_rd rd ++ [])) (wMd g a_md q_md_tangle (some (a_rd 0)) o_md ++ (wTn g a_rd rd ++ [])) r_ := by
  refine start2 (y := yX13_known) (cc := cX13_known) (n := 3) (av := [.ref (a_md 0), .int p1]) (ws := (wMd g a_md q_md_tangle (some (a_rd 0)) md ++ (wTn g a_rd rd ++ []))) (Qc := fun sz => QI g (wMd g a_md q_md_tangle (some (a_rd 0)) md ++ (wTn g a_rd rd ++ [])) (wMd g a_md q_md_tangle (some (a_rd 0)) o_md ++ (wTn g a_rd rd ++ [])) r_ sz) (by decide) rfl ?_
  intro p e s m args below meth c ls Q A ha hQ hA X hl hI hin
  have X : Cx p s m args meth c cX13_known 3 RX13 (some .int) := X
  have hl : lv_has ls 3 [(0, .ref (a_md 0)), (1, .int p1)] := hl
  obtain ⟨hx, hb, hml, hown, ht, hr, hlk⟩ := id X
  clear ha hin
  have L_47 : ∀ (x2 : Int32) (md : MdS) (H : Heap) (locs : List Loc) (ls : Array Slot), lv_has ls 3 [(0, .ref (a_md 0)), (2, .int x2)] → In g A s.heap s (wMd g a_md q_md_tangle (some (a_rd 0)) md ++ (wTn g a_rd rd ++ [])) H locs → f_X13_known_L47 x2 md rd = some (r_, o_md) → W p l e rm_X13_known s m args below meth c H locs 0 0 Q (F0 m 47 ls []) := by
    intro x2 md H locs ls hl hI hf
    unfold f_X13_known_L47 at hf
    refine lv_aload_n hx hb dX13_known_47 rfl (lv_at hl 0 rfl) ?_
    refine g_Md_sort X hI has_Md.l (X.fl w_1592) dX13_known_48 ?_
    refine lv_iconst (v := 5) hx hb dX13_known_51 (by decide) ?_
    refine lv_icmp_ne (tgt := 59) hx hb dX13_known_52 (by decide) (fun h_ => ?_) (fun h_ => ?_)
    · replace hf := if_f h_ hf
      refine lv_aload_n hx hb dX13_known_59 rfl (lv_at hl 0 rfl) ?_
      refine g_Md_read_S X hI has_Md.l (X.fl w_1587) dX13_known_60 ?_
      refine g_Tn_nameNumber X hI has_Tn.l.r (hI.fn (List.mem_of_getElem? (i := 100) rfl)) dX13_known_63 ?_
      refine lv_iload_n hx hb dX13_known_66 rfl (lv_at hl 1 rfl) ?_
      obtain ⟨h_, hf⟩ := ck_someM hf
      refine ld_I X hI has_Tn_nameNumber.l.r h_ dX13_known_67 ?_
      cases hf
      exact end_i hQ hA X hI dX13_known_68
    · replace hf := if_t h_ hf
      refine lv_iconst (v := 0) hx hb dX13_known_55 (by decide) ?_
      refine lv_goto (tgt := 68) hx hb dX13_known_56 (by decide) ?_
      cases hf
      exact end_i hQ hA X hI dX13_known_68
  have L_42 : ∀ (x2 : Int32) (md : MdS) (H : Heap) (locs : List Loc) (ls : Array Slot), lv_has ls 3 [(0, .ref (a_md 0)), (2, .int x2)] → In g A s.heap s (wMd g a_md q_md_tangle (some (a_rd 0)) md ++ (wTn g a_rd rd ++ [])) H locs → f_X13_known_L42 x2 md rd = some (r_, o_md) → W p l e rm_X13_known s m args below meth c H locs 0 0 Q (F0 m 42 ls []) := by
    intro x2 md H locs ls hl hI hf
    unfold f_X13_known_L42 at hf
    refine lv_aload_n hx hb dX13_known_42 rfl (lv_at hl 0 rfl) ?_
    refine lv_iconst (v := 2) hx hb dX13_known_43 (by decide) ?_
    obtain ⟨md_4, hc_, hf⟩ := bd1_some hf
    refine call_Vv X hI (Cj.keep Cj.nil) (c_X13_flaw l g a_md q_md_tangle (some (a_rd 0)) md (2 : Int32) md_4 hc_) ⟨rfl, rfl⟩ ⟨ht _ w_1893, w_1896, ht _ w_155, lk_X13_flaw⟩ w_1895 w_72 rfl rfl rfl hl rfl rfl dX13_known_44 rfl rfl rfl rfl (fun H locs hI => ?_)
    exact L_47 x2 md_4 _ _ _ hl hI hf
  have L_12 : ∀ (x1 : Int32) (md : MdS) (H : Heap) (locs : List Loc) (ls : Array Slot), lv_has ls 3 [(0, .ref (a_md 0)), (1, .int x1)] → In g A s.heap s (wMd g a_md q_md_tangle (some (a_rd 0)) md ++ (wTn g a_rd rd ++ [])) H locs → f_X13_known_L12 x1 md rd = some (r_, o_md) → W p l e rm_X13_known s m args below meth c H locs 0 0 Q (F0 m 12 ls []) := by
    intro x1 md H locs ls hl hI hf
    unfold f_X13_known_L12 at hf
    refine lv_aload_n hx hb dX13_known_12 rfl (lv_at hl 0 rfl) ?_
    refine g_Md_read_S X hI has_Md.l (X.fl w_1587) dX13_known_13 ?_
    refine lv_aload_n hx hb dX13_known_16 rfl (lv_at hl 0 rfl) ?_
    refine g_Md_word X hI has_Md.l (X.fl w_1597) dX13_known_17 ?_
    obtain ⟨r_3, hc_, hf⟩ := bd1_some hf
    refine call_Vi X hI (Cj.skip (Cj.keep Cj.id)) (c_X12_find l g a_rd rd (Md_word md) r_3 hc_) ⟨rfl, rfl⟩ ⟨ht _ w_1937, w_1940, ht _ w_159, lk_X12_find⟩ w_1938 w_1939 rfl rfl rfl hl rfl rfl dX13_known_20 rfl rfl rfl rfl (fun H locs hI => ?_)
    refine lv_istore_n (lv' := [(2, .int r_3), (0, .ref (a_md 0)), (1, .int x1)]) hx hb dX13_known_23 rfl hl (by decide) rfl (fun ls hl => ?_)
    refine lv_iload_n hx hb dX13_known_24 rfl (lv_at hl 0 rfl) ?_
    refine lv_iconst (v := (-1)) hx hb dX13_known_25 (by decide) ?_
    refine lv_icmp_eq (tgt := 42) hx hb dX13_known_26 (by decide) (fun h_ => ?_) (fun h_ => ?_)
    · replace hf := if_t h_ hf
      exact L_42 r_3 md _ _ _ (lv_sub hl [1, 0] rfl) hI hf
    · replace hf := if_f h_ hf
      refine lv_aload_n hx hb dX13_known_29 rfl (lv_at hl 1 rfl) ?_
      refine g_Md_read_S X hI has_Md.l (X.fl w_1587) dX13_known_30 ?_
      refine g_Tn_nameSort X hI has_Tn.l.r (hI.fn (List.mem_of_getElem? (i := 99) rfl)) dX13_known_33 ?_
      refine lv_iload_n hx hb dX13_known_36 rfl (lv_at hl 0 rfl) ?_
      obtain ⟨h_, hf⟩ := ck_someM hf
      refine ld_I X hI has_Tn_nameSort.l.r h_ dX13_known_37 ?_
      refine lv_iload_n hx hb dX13_known_38 rfl (lv_at hl 2 rfl) ?_
      refine lv_icmp_eq (tgt := 47) hx hb dX13_known_39 (by decide) (fun h_ => ?_) (fun h_ => ?_)
      · replace hf := if_t h_ hf
        exact L_47 r_3 md _ _ _ (lv_sub hl [1, 0] rfl) hI hf
      · replace hf := if_f h_ hf
        exact L_42 r_3 md _ _ _ (lv_sub hl [1, 0] rfl) hI hf
  unfold f_X13_known at hf
  refine lv_aload_n hx hb dX13_known_0 rfl (lv_at hl 0 rfl) ?_
  obtain ⟨r_1, hc_, hf⟩ := bd1_some hf
  refine call_Vi X hI (Cj.keep Cj.nil) (c_X13_isName l g a_md q_md_tangle (some (a_rd 0)) md r_1 hc_) ⟨rfl, rfl⟩ ⟨ht _ w_1931, w_1934, ht _ w_155, lk_X13_isName⟩ w_1933 w_80 rfl rfl rfl hl rfl rfl dX13_known_1 rfl rfl rfl rfl (fun H locs hI => ?_)
  refine lv_if_ne (tgt := 12) hx hb dX13_known_4 (by decide) (fun h_ => ?_) (fun h_ => ?_)
  · replace hf := if_f h_ hf
    exact L_12 p1 md _ _ _ hl hI hf
  · replace hf := if_t h_ hf
    refine lv_aload_n hx hb dX13_known_7 rfl (lv_at hl 0 rfl) ?_
    refine lv_iconst (v := 1) hx hb dX13_known_8 (by decide) ?_
    obtain ⟨md_2, hc_, hf⟩ := bd1_some hf
    refine call_Vv X hI (Cj.keep Cj.nil) (c_X13_flaw l g a_md q_md_tangle (some (a_rd 0)) md (1 : Int32) md_2 hc_) ⟨rfl, rfl⟩ ⟨ht _ w_1893, w_1896, ht _ w_155, lk_X13_flaw⟩ w_1895 w_72 rfl rfl rfl hl rfl rfl dX13_known_9 rfl rfl rfl rfl (fun H locs hI => ?_)
    exact L_12 p1 md_2 _ _ _ hl hI hf
abbrev rm_X13_readCross : Room := { frames := 9, cells := 0, slots := 0, locals := 207 }
set_option maxRecDepth 20000 in
theorem c_X13_readCross (l : Launch) (g : GT) (a_md : Nat → Nat) (a_rd : Nat → Nat) (q_md_tangle : Option Nat) (md : MdS) (rd : TnS) (o_md : MdS) (o_rd : TnS) (hf : f_X13_readCross md rd = some (o_md, o_rd)) : CV l yX13_readCross cX13_readCross 7 none rm_X13_readCross g [.ref (a_md 0)] (wMd g a_md q_md_tangle (some (a_rd 0)) md ++ (wTn g a_rd rd ++ [])) (wMd g a_md q_md_tangle (some (a_rd 0)) o_md ++ (wTn g a_rd o_rd ++ [])) := by
  refine start2 (y := yX13_readCross) (cc := cX13_readCross) (n := 7) (av := [.ref (a_md 0)]) (ws := (wMd g a_md q_md_tangle (some (a_rd 0)) md ++ (wTn g a_rd rd ++ []))) (Qc := fun sz => QV g (wMd g a_md q_md_tangle (some (a_rd 0)) md ++ (wTn g a_rd rd ++ [])) (wMd g a_md q_md_tangle (some (a_rd 0)) o_md ++ (wTn g a_rd o_rd ++ [])) sz) (by decide) rfl ?_
  intro p e s m args below meth c ls Q A ha hQ hA X hl hI hin
  have X : Cx p s m args meth c cX13_readCross 7 RX13 none := X
  have hl : lv_has ls 7 [(0, .ref (a_md 0))] := hl
  obtain ⟨hx, hb, hml, hown, ht, hr, hlk⟩ := id X
  clear ha hin
  have L_179 : ∀ (x1 : Int32) (x2 : Int32) (x3 : Int32) (x4 : Int32) (t1i : Int32) (t2i : Int32) (md : MdS) (rd : TnS) (H : Heap) (locs : List Loc) (ls : Array Slot), lv_has ls 7 [(0, .ref (a_md 0)), (1, .int x1), (2, .int x2), (3, .int x3), (4, .int x4)] → In g A s.heap s (wMd g a_md q_md_tangle (some (a_rd 0)) md ++ (wTn g a_rd rd ++ [])) H locs → f_X13_readCross_L179 x1 x2 x3 x4 t1i t2i md rd = some (o_md, o_rd) → W p l e rm_X13_readCross s m args below meth c H locs 0 0 Q (F0 m 179 ls [.int t2i, .int t1i, .ref (a_rd 11)]) := by
    intro x1 x2 x3 x4 t1i t2i md rd H locs ls hl hI hf
    unfold f_X13_readCross_L179 at hf
    obtain ⟨h_, hf⟩ := ck_someM hf
    refine st_I X hI up_Tn_sign.l.r h_ dX13_readCross_179 (fun H locs hI => ?_)
    generalize hz_ : (Tn_sign' rd (upd (Tn_sign rd) (Int32.toNatClampNeg t1i) t2i)) = rd_22 at hI hf
    clear hz_
    replace hf := lt_e hf
    refine lv_aload_n hx hb dX13_readCross_180 rfl (lv_at hl 0 rfl) ?_
    refine g_Md_read_S X hI has_Md.l (X.fl w_1587) dX13_readCross_181 ?_
    refine g_Tn_usedAt X hI has_Tn.l.r (hI.fn (List.mem_of_getElem? (i := 101) rfl)) dX13_readCross_184 ?_
    refine lv_iload_n hx hb dX13_readCross_187 rfl (lv_at hl 1 rfl) ?_
    refine lv_dup2_11 hx hb dX13_readCross_188 rfl rfl ?_
    obtain ⟨h_, hf⟩ := ck_someM hf
    refine ld_I X hI has_Tn_usedAt.l.r h_ dX13_readCross_189 ?_
    refine lv_iconst (v := 1) hx hb dX13_readCross_190 (by decide) ?_
    refine lv_iload_n hx hb dX13_readCross_191 rfl (lv_at hl 2 rfl) ?_
    refine lv_ishl hx hb dX13_readCross_192 ?_
    refine lv_ior hx hb dX13_readCross_193 ?_
    obtain ⟨h_, hf⟩ := ck_someM hf
    refine st_I X hI up_Tn_usedAt.l.r h_ dX13_readCross_194 (fun H locs hI => ?_)
    generalize hz_ : (Tn_usedAt' rd_22 (upd (Tn_usedAt rd_22) (Int32.toNatClampNeg x1) ((Tn_usedAt rd_22 (Int32.toNatClampNeg x1)) ||| ((1 : Int32) <<< (x2 &&& 31))))) = rd_23 at hI hf
    clear hz_
    replace hf := lt_e hf
    refine lv_aload_n hx hb dX13_readCross_195 rfl (lv_at hl 0 rfl) ?_
    refine g_Md_read_S X hI has_Md.l (X.fl w_1587) dX13_readCross_196 ?_
    refine g_Tn_usedAt X hI has_Tn.l.r (hI.fn (List.mem_of_getElem? (i := 101) rfl)) dX13_readCross_199 ?_
    refine lv_iload_n hx hb dX13_readCross_202 rfl (lv_at hl 3 rfl) ?_
    refine lv_dup2_11 hx hb dX13_readCross_203 rfl rfl ?_
    obtain ⟨h_, hf⟩ := ck_someM hf
    refine ld_I X hI has_Tn_usedAt.l.r h_ dX13_readCross_204 ?_
    refine lv_iconst (v := 1) hx hb dX13_readCross_205 (by decide) ?_
    refine lv_iload hx hb dX13_readCross_206 (lv_at hl 4 rfl) ?_
    refine lv_ishl hx hb dX13_readCross_208 ?_
    refine lv_ior hx hb dX13_readCross_209 ?_
    obtain ⟨h_, hf⟩ := ck_someM hf
    refine st_I X hI up_Tn_usedAt.l.r h_ dX13_readCross_210 (fun H locs hI => ?_)
    generalize hz_ : (Tn_usedAt' rd_23 (upd (Tn_usedAt rd_23) (Int32.toNatClampNeg x3) ((Tn_usedAt rd_23 (Int32.toNatClampNeg x3)) ||| ((1 : Int32) <<< (x4 &&& 31))))) = rd_24 at hI hf
    clear hz_
    replace hf := lt_e hf
    refine lv_aload_n hx hb dX13_readCross_211 rfl (lv_at hl 0 rfl) ?_
    refine g_Md_read_S X hI has_Md.l (X.fl w_1587) dX13_readCross_212 ?_
    refine lv_dup hx hb dX13_readCross_215 rfl ?_
    refine g_Tn_crossings X hI has_Tn.l.r (hI.fn (List.mem_of_getElem? (i := 82) rfl)) dX13_readCross_216 ?_
    refine lv_iconst (v := 1) hx hb dX13_readCross_219 (by decide) ?_
    refine lv_iadd hx hb dX13_readCross_220 ?_
    refine p_Tn_crossings X hI up_Tn_crossings.l.r (hI.fn (List.mem_of_getElem? (i := 82) rfl)) dX13_readCross_221 (fun H locs hI => ?_)
    generalize hz_ : (Tn_crossings' rd_24 ((Tn_crossings rd_24) + (1 : Int32))) = rd_25 at hI hf
    clear hz_
    replace hf := lt_e hf
    cases hf
    exact end_v hQ hA X hI dX13_readCross_224
  have L_93 : ∀ (x1 : Int32) (x2 : Int32) (x3 : Int32) (x4 : Int32) (x5 : Int32) (md : MdS) (rd : TnS) (H : Heap) (locs : List Loc) (ls : Array Slot), lv_has ls 7 [(0, .ref (a_md 0)), (1, .int x1), (2, .int x2), (3, .int x3), (4, .int x4), (5, .int x5)] → In g A s.heap s (wMd g a_md q_md_tangle (some (a_rd 0)) md ++ (wTn g a_rd rd ++ [])) H locs → f_X13_readCross_L93 x1 x2 x3 x4 x5 md rd = some (o_md, o_rd) → W p l e rm_X13_readCross s m args below meth c H locs 0 0 Q (F0 m 93 ls []) := by
    intro x1 x2 x3 x4 x5 md rd H locs ls hl hI hf
    unfold f_X13_readCross_L93 at hf
    refine lv_aload_n hx hb dX13_readCross_93 rfl (lv_at hl 0 rfl) ?_
    obtain ⟨md_16, hc_, hf⟩ := bd1_some hf
    refine call_Vv X hI (Cj.keep Cj.nil) (c_X13_goesOn l g a_md q_md_tangle (some (a_rd 0)) md md_16 hc_) ⟨rfl, rfl⟩ ⟨ht _ w_1856, w_1859, ht _ w_155, lk_X13_goesOn⟩ w_1858 w_66 rfl rfl rfl hl rfl rfl dX13_readCross_94 rfl rfl rfl rfl (fun H locs hI => ?_)
    refine lv_aload_n hx hb dX13_readCross_97 rfl (lv_at hl 0 rfl) ?_
    refine g_Md_sort X hI has_Md.l (X.fl w_1592) dX13_readCross_98 ?_
    refine lv_iconst (v := 5) hx hb dX13_readCross_101 (by decide) ?_
    refine lv_icmp_ne (tgt := 106) hx hb dX13_readCross_102 (by decide) (fun h_ => ?_) (fun h_ => ?_)
    · replace hf := if_f h_ hf
      refine lv_aload_n hx hb dX13_readCross_106 rfl (lv_at hl 0 rfl) ?_
      refine g_Md_read_S X hI has_Md.l (X.fl w_1587) dX13_readCross_107 ?_
      refine g_Tn_crossings X hI has_Tn.l.r (hI.fn (List.mem_of_getElem? (i := 82) rfl)) dX13_readCross_110 ?_
      refine lv_topi (fun v_17 e_ => ?_)
      replace hf := lt_to e_ hf
      clear e_
      refine lv_istore (lv' := [(6, .int v_17), (0, .ref (a_md 0)), (1, .int x1), (2, .int x2), (3, .int x3), (4, .int x4), (5, .int x5)]) hx hb dX13_readCross_113 hl (by decide) rfl (fun ls hl => ?_)
      refine lv_aload_n hx hb dX13_readCross_115 rfl (lv_at hl 1 rfl) ?_
      refine g_Md_read_S X hI has_Md.l (X.fl w_1587) dX13_readCross_116 ?_
      refine g_Tn_over X hI has_Tn.l.r (hI.fn (List.mem_of_getElem? (i := 93) rfl)) dX13_readCross_119 ?_
      refine lv_iload hx hb dX13_readCross_122 (lv_at hl 0 rfl) ?_
      refine lv_iload_n hx hb dX13_readCross_124 rfl (lv_at hl 2 rfl) ?_
      obtain ⟨h_, hf⟩ := ck_someM hf
      refine st_I X hI up_Tn_over.l.r h_ dX13_readCross_125 (fun H locs hI => ?_)
      generalize hz_ : (Tn_over' rd (upd (Tn_over rd) (Int32.toNatClampNeg v_17) x1)) = rd_18 at hI hf
      clear hz_
      replace hf := lt_e hf
      refine lv_aload_n hx hb dX13_readCross_126 rfl (lv_at hl 1 rfl) ?_
      refine g_Md_read_S X hI has_Md.l (X.fl w_1587) dX13_readCross_127 ?_
      refine g_Tn_overAt X hI has_Tn.l.r (hI.fn (List.mem_of_getElem? (i := 94) rfl)) dX13_readCross_130 ?_
      refine lv_iload hx hb dX13_readCross_133 (lv_at hl 0 rfl) ?_
      refine lv_iload_n hx hb dX13_readCross_135 rfl (lv_at hl 3 rfl) ?_
      obtain ⟨h_, hf⟩ := ck_someM hf
      refine st_I X hI up_Tn_overAt.l.r h_ dX13_readCross_136 (fun H locs hI => ?_)
      generalize hz_ : (Tn_overAt' rd_18 (upd (Tn_overAt rd_18) (Int32.toNatClampNeg v_17) x2)) = rd_19 at hI hf
      clear hz_
      replace hf := lt_e hf
      refine lv_aload_n hx hb dX13_readCross_137 rfl (lv_at hl 1 rfl) ?_
      refine g_Md_read_S X hI has_Md.l (X.fl w_1587) dX13_readCross_138 ?_
      refine g_Tn_under X hI has_Tn.l.r (hI.fn (List.mem_of_getElem? (i := 95) rfl)) dX13_readCross_141 ?_
      refine lv_iload hx hb dX13_readCross_144 (lv_at hl 0 rfl) ?_
      refine lv_iload_n hx hb dX13_readCross_146 rfl (lv_at hl 4 rfl) ?_
      obtain ⟨h_, hf⟩ := ck_someM hf
      refine st_I X hI up_Tn_under.l.r h_ dX13_readCross_147 (fun H locs hI => ?_)
      generalize hz_ : (Tn_under' rd_19 (upd (Tn_under rd_19) (Int32.toNatClampNeg v_17) x3)) = rd_20 at hI hf
      clear hz_
      replace hf := lt_e hf
      refine lv_aload_n hx hb dX13_readCross_148 rfl (lv_at hl 1 rfl) ?_
      refine g_Md_read_S X hI has_Md.l (X.fl w_1587) dX13_readCross_149 ?_
      refine g_Tn_underAt X hI has_Tn.l.r (hI.fn (List.mem_of_getElem? (i := 96) rfl)) dX13_readCross_152 ?_
      refine lv_iload hx hb dX13_readCross_155 (lv_at hl 0 rfl) ?_
      refine lv_iload hx hb dX13_readCross_157 (lv_at hl 5 rfl) ?_
      obtain ⟨h_, hf⟩ := ck_someM hf
      refine st_I X hI up_Tn_underAt.l.r h_ dX13_readCross_159 (fun H locs hI => ?_)
      generalize hz_ : (Tn_underAt' rd_20 (upd (Tn_underAt rd_20) (Int32.toNatClampNeg v_17) x4)) = rd_21 at hI hf
      clear hz_
      replace hf := lt_e hf
      refine lv_aload_n hx hb dX13_readCross_160 rfl (lv_at hl 1 rfl) ?_
      refine g_Md_read_S X hI has_Md.l (X.fl w_1587) dX13_readCross_161 ?_
      refine g_Tn_sign X hI has_Tn.l.r (hI.fn (List.mem_of_getElem? (i := 97) rfl)) dX13_readCross_164 ?_
      refine lv_iload hx hb dX13_readCross_167 (lv_at hl 0 rfl) ?_
      refine lv_iload hx hb dX13_readCross_169 (lv_at hl 6 rfl) ?_
      refine lv_if_eq (tgt := 178) hx hb dX13_readCross_171 (by decide) (fun h_ => ?_) (fun h_ => ?_)
      · replace hf := if_t h_ hf
        refine lv_iconst (v := 1) hx hb dX13_readCross_178 (by decide) ?_
        exact L_179 x1 x2 x3 x4 v_17 (1 : Int32) md_16 rd_21 _ _ _ (lv_sub hl [1, 2, 3, 4, 5] rfl) hI hf
      · replace hf := if_f h_ hf
        refine lv_iconst (v := (-1)) hx hb dX13_readCross_174 (by decide) ?_
        refine lv_goto (tgt := 179) hx hb dX13_readCross_175 (by decide) ?_
        exact L_179 x1 x2 x3 x4 v_17 (-1 : Int32) md_16 rd_21 _ _ _ (lv_sub hl [1, 2, 3, 4, 5] rfl) hI hf
    · replace hf := if_t h_ hf
      cases hf
      exact end_v hQ hA X hI dX13_readCross_105
  have L_59 : ∀ (x1 : Int32) (x2 : Int32) (x3 : Int32) (t1i : Int32) (t2i : Int32) (md : MdS) (rd : TnS) (H : Heap) (locs : List Loc) (ls : Array Slot), lv_has ls 7 [(0, .ref (a_md 0)), (1, .int x1), (2, .int x2), (3, .int x3)] → In g A s.heap s (wMd g a_md q_md_tangle (some (a_rd 0)) md ++ (wTn g a_rd rd ++ [])) H locs → f_X13_readCross_L59 x1 x2 x3 t1i t2i md rd = some (o_md, o_rd) → W p l e rm_X13_readCross s m args below meth c H locs 0 0 Q (F0 m 59 ls [.int t2i, .int t1i, .ref (a_md 0)]) := by
    intro x1 x2 x3 t1i t2i md rd H locs ls hl hI hf
    unfold f_X13_readCross_L59 at hf
    obtain ⟨r_11, md_12, hc_, hf⟩ := bd2_some hf
    refine call_Vi X hI (Cj.keep (Cj.keep Cj.id)) (c_X13_readPlace l g a_md a_rd q_md_tangle md rd t1i t2i r_11 md_12 hc_) ⟨rfl, rfl⟩ ⟨ht _ w_1967, w_1970, ht _ w_155, lk_X13_readPlace⟩ w_1969 w_87 rfl rfl rfl hl rfl rfl dX13_readCross_59 rfl rfl rfl rfl (fun H locs hI => ?_)
    refine lv_istore (lv' := [(4, .int r_11), (0, .ref (a_md 0)), (1, .int x1), (2, .int x2), (3, .int x3)]) hx hb dX13_readCross_62 hl (by decide) rfl (fun ls hl => ?_)
    refine lv_aload_n hx hb dX13_readCross_64 rfl (lv_at hl 1 rfl) ?_
    refine va_ldcSW hx hb hown (sr_21 hI) dX13_readCross_65 ?_
    obtain ⟨r_13, hc_, hf⟩ := bd1_some hf
    refine call_Vi X hI (Cj.keep Cj.nil) (c_X13_isWord l g a_md q_md_tangle (some (a_rd 0)) md_12 21 r_13 hc_) ⟨rfl, rfl⟩ ⟨ht _ w_1880, w_1883, ht _ w_155, lk_X13_isWord⟩ w_1882 w_70 rfl rfl rfl hl rfl rfl dX13_readCross_68 rfl rfl rfl rfl (fun H locs hI => ?_)
    refine lv_istore (lv' := [(5, .int r_13), (4, .int r_11), (0, .ref (a_md 0)), (1, .int x1), (2, .int x2), (3, .int x3)]) hx hb dX13_readCross_71 hl (by decide) rfl (fun ls hl => ?_)
    refine lv_iload hx hb dX13_readCross_73 (lv_at hl 0 rfl) ?_
    refine lv_if_ne (tgt := 93) hx hb dX13_readCross_75 (by decide) (fun h_ => ?_) (fun h_ => ?_)
    · replace hf := if_f h_ hf
      exact L_93 x1 x2 x3 r_11 r_13 md_12 rd _ _ _ (lv_sub hl [2, 3, 4, 5, 1, 0] rfl) hI hf
    · replace hf := if_t h_ hf
      refine lv_aload_n hx hb dX13_readCross_78 rfl (lv_at hl 2 rfl) ?_
      refine va_ldcSW hx hb hown (sr_22 hI) dX13_readCross_79 ?_
      obtain ⟨r_14, hc_, hf⟩ := bd1_some hf
      refine call_Vi X hI (Cj.keep Cj.nil) (c_X13_isWord l g a_md q_md_tangle (some (a_rd 0)) md_12 22 r_14 hc_) ⟨rfl, rfl⟩ ⟨ht _ w_1880, w_1883, ht _ w_155, lk_X13_isWord⟩ w_1882 w_70 rfl rfl rfl hl rfl rfl dX13_readCross_82 rfl rfl rfl rfl (fun H locs hI => ?_)
      refine lv_if_ne (tgt := 93) hx hb dX13_readCross_85 (by decide) (fun h_ => ?_) (fun h_ => ?_)
      · replace hf := if_f h_ hf
        exact L_93 x1 x2 x3 r_11 r_13 md_12 rd _ _ _ (lv_sub hl [2, 3, 4, 5, 1, 0] rfl) hI hf
      · replace hf := if_t h_ hf
        refine lv_aload_n hx hb dX13_readCross_88 rfl (lv_at hl 2 rfl) ?_
        refine lv_iconst (v := 1) hx hb dX13_readCross_89 (by decide) ?_
        obtain ⟨md_15, hc_, hf⟩ := bd1_some hf
        refine call_Vv X hI (Cj.keep Cj.nil) (c_X13_flaw l g a_md q_md_tangle (some (a_rd 0)) md_12 (1 : Int32) md_15 hc_) ⟨rfl, rfl⟩ ⟨ht _ w_1893, w_1896, ht _ w_155, lk_X13_flaw⟩ w_1895 w_72 rfl rfl rfl hl rfl rfl dX13_readCross_90 rfl rfl rfl rfl (fun H locs hI => ?_)
        exact L_93 x1 x2 x3 r_11 r_13 md_15 rd _ _ _ (lv_sub hl [2, 3, 4, 5, 1, 0] rfl) hI hf
  unfold f_X13_readCross at hf
  refine lv_aload_n hx hb dX13_readCross_0 rfl (lv_at hl 0 rfl) ?_
  refine lv_aload_n hx hb dX13_readCross_1 rfl (lv_at hl 0 rfl) ?_
  refine g_Md_read_S X hI has_Md.l (X.fl w_1587) dX13_readCross_2 ?_
  refine g_Tn_crossings X hI has_Tn.l.r (hI.fn (List.mem_of_getElem? (i := 82) rfl)) dX13_readCross_5 ?_
  refine lv_bipush (v := 7) hx hb dX13_readCross_8 (by decide) ?_
  obtain ⟨md_1, hc_, hf⟩ := bd1_some hf
  refine call_Vv X hI (Cj.keep (Cj.keep Cj.id)) (c_X13_begins l g a_md a_rd q_md_tangle md rd (Tn_crossings rd) (7 : Int32) md_1 hc_) ⟨rfl, rfl⟩ ⟨ht _ w_1923, w_1926, ht _ w_155, lk_X13_begins⟩ w_1925 w_78 rfl rfl rfl hl rfl rfl dX13_readCross_10 rfl rfl rfl rfl (fun H locs hI => ?_)
  refine lv_aload_n hx hb dX13_readCross_13 rfl (lv_at hl 0 rfl) ?_
  refine lv_iconst (v := 1) hx hb dX13_readCross_14 (by decide) ?_
  obtain ⟨r_2, md_3, hc_, hf⟩ := bd2_some hf
  refine call_Vi X hI (Cj.keep (Cj.keep Cj.id)) (c_X13_known l g a_md a_rd q_md_tangle md_1 rd (1 : Int32) r_2 md_3 hc_) ⟨rfl, rfl⟩ ⟨ht _ w_1949, w_1952, ht _ w_155, lk_X13_known⟩ w_1951 w_83 rfl rfl rfl hl rfl rfl dX13_readCross_15 rfl rfl rfl rfl (fun H locs hI => ?_)
  refine lv_istore_n (lv' := [(1, .int r_2), (0, .ref (a_md 0))]) hx hb dX13_readCross_18 rfl hl (by decide) rfl (fun ls hl => ?_)
  refine lv_aload_n hx hb dX13_readCross_19 rfl (lv_at hl 1 rfl) ?_
  obtain ⟨md_4, hc_, hf⟩ := bd1_some hf
  refine call_Vv X hI (Cj.keep Cj.nil) (c_X13_goesOn l g a_md q_md_tangle (some (a_rd 0)) md_3 md_4 hc_) ⟨rfl, rfl⟩ ⟨ht _ w_1856, w_1859, ht _ w_155, lk_X13_goesOn⟩ w_1858 w_66 rfl rfl rfl hl rfl rfl dX13_readCross_20 rfl rfl rfl rfl (fun H locs hI => ?_)
  refine lv_aload_n hx hb dX13_readCross_23 rfl (lv_at hl 1 rfl) ?_
  refine lv_iload_n hx hb dX13_readCross_24 rfl (lv_at hl 0 rfl) ?_
  refine lv_iconst (v := (-1)) hx hb dX13_readCross_25 (by decide) ?_
  obtain ⟨r_5, md_6, hc_, hf⟩ := bd2_some hf
  refine call_Vi X hI (Cj.keep (Cj.keep Cj.id)) (c_X13_readPlace l g a_md a_rd q_md_tangle md_4 rd r_2 (-1 : Int32) r_5 md_6 hc_) ⟨rfl, rfl⟩ ⟨ht _ w_1967, w_1970, ht _ w_155, lk_X13_readPlace⟩ w_1969 w_87 rfl rfl rfl hl rfl rfl dX13_readCross_26 rfl rfl rfl rfl (fun H locs hI => ?_)
  refine lv_istore_n (lv' := [(2, .int r_5), (1, .int r_2), (0, .ref (a_md 0))]) hx hb dX13_readCross_29 rfl hl (by decide) rfl (fun ls hl => ?_)
  refine lv_aload_n hx hb dX13_readCross_30 rfl (lv_at hl 2 rfl) ?_
  refine va_ldcSW hx hb hown (sr_20 hI) dX13_readCross_31 ?_
  obtain ⟨md_7, hc_, hf⟩ := bd1_some hf
  refine call_Vv X hI (Cj.keep Cj.nil) (c_X13_needs l g a_md q_md_tangle (some (a_rd 0)) md_6 20 md_7 hc_) ⟨rfl, rfl⟩ ⟨ht _ w_1902, w_1905, ht _ w_155, lk_X13_needs⟩ w_1904 w_74 rfl rfl rfl hl rfl rfl dX13_readCross_34 rfl rfl rfl rfl (fun H locs hI => ?_)
  refine lv_aload_n hx hb dX13_readCross_37 rfl (lv_at hl 2 rfl) ?_
  refine lv_iconst (v := 1) hx hb dX13_readCross_38 (by decide) ?_
  obtain ⟨r_8, md_9, hc_, hf⟩ := bd2_some hf
  refine call_Vi X hI (Cj.keep (Cj.keep Cj.id)) (c_X13_known l g a_md a_rd q_md_tangle md_7 rd (1 : Int32) r_8 md_9 hc_) ⟨rfl, rfl⟩ ⟨ht _ w_1949, w_1952, ht _ w_155, lk_X13_known⟩ w_1951 w_83 rfl rfl rfl hl rfl rfl dX13_readCross_39 rfl rfl rfl rfl (fun H locs hI => ?_)
  refine lv_istore_n (lv' := [(3, .int r_8), (2, .int r_5), (1, .int r_2), (0, .ref (a_md 0))]) hx hb dX13_readCross_42 rfl hl (by decide) rfl (fun ls hl => ?_)
  refine lv_aload_n hx hb dX13_readCross_43 rfl (lv_at hl 3 rfl) ?_
  obtain ⟨md_10, hc_, hf⟩ := bd1_some hf
  refine call_Vv X hI (Cj.keep Cj.nil) (c_X13_goesOn l g a_md q_md_tangle (some (a_rd 0)) md_9 md_10 hc_) ⟨rfl, rfl⟩ ⟨ht _ w_1856, w_1859, ht _ w_155, lk_X13_goesOn⟩ w_1858 w_66 rfl rfl rfl hl rfl rfl dX13_readCross_44 rfl rfl rfl rfl (fun H locs hI => ?_)
  refine lv_aload_n hx hb dX13_readCross_47 rfl (lv_at hl 3 rfl) ?_
  refine lv_iload_n hx hb dX13_readCross_48 rfl (lv_at hl 0 rfl) ?_
  refine lv_iload_n hx hb dX13_readCross_49 rfl (lv_at hl 0 rfl) ?_
  refine lv_iload_n hx hb dX13_readCross_50 rfl (lv_at hl 2 rfl) ?_
  refine lv_icmp_ne (tgt := 58) hx hb dX13_readCross_51 (by decide) (fun h_ => ?_) (fun h_ => ?_)
  · replace hf := if_f h_ hf
    refine lv_iconst (v := (-1)) hx hb dX13_readCross_58 (by decide) ?_
    exact L_59 r_2 r_5 r_8 r_8 (-1 : Int32) md_10 rd _ _ _ (lv_sub hl [3, 2, 1, 0] rfl) hI hf
  · replace hf := if_t h_ hf
    refine lv_iload_n hx hb dX13_readCross_54 rfl (lv_at hl 1 rfl) ?_
    refine lv_goto (tgt := 59) hx hb dX13_readCross_55 (by decide) ?_
    exact L_59 r_2 r_5 r_8 r_8 r_5 md_10 rd _ _ _ (lv_sub hl [3, 2, 1, 0] rfl) hI hf
abbrev rm_X13_readHand : Room := { frames := 7, cells := 0, slots := 0, locals := 165 }
set_option maxRecDepth 20000 in
theorem c_X13_readHand (l : Launch) (g : GT) (a_md : Nat → Nat) (a_rd : Nat → Nat) (q_md_tangle : Option Nat) (md : MdS) (rd : TnS) (p1 : Int32) (r_ : Int32) (o_md : MdS) (hf : f_X13_readHand md rd p1 = some (r_, o_md)) : CI l yX13_readHand cX13_readHand 4 (some .int) rm_X13_readHand g [.ref (a_md 0), .int p1] (wMd g a_md q_md_tangle (some (a_rd 0)) md ++ (wTn g a_rd rd ++ [])) (wMd g a_md q_md_tangle (some (a_rd 0)) o_md ++ (wTn g a_rd rd ++ [])) r_ := by
  refine start2 (y := yX13_readHand) (cc := cX13_readHand) (n := 4) (av := [.ref (a_md 0), .int p1]) (ws := (wMd g a_md q_md_tangle (some (a_rd 0)) md ++ (wTn g a_rd rd ++ []))) (Qc := fun sz => QI g (wMd g a_md q_md_tangle (some (a_rd 0)) md ++ (wTn g a_rd rd ++ [])) (wMd g a_md q_md_tangle (some (a_rd 0)) o_md ++ (wTn g a_rd rd ++ [])) r_ sz) (by decide) rfl ?_
  intro p e s m args below meth c ls Q A ha hQ hA X hl hI hin
  have X : Cx p s m args meth c cX13_readHand 4 RX13 (some .int) := X
  have hl : lv_has ls 4 [(0, .ref (a_md 0)), (1, .int p1)] := hl
  obtain ⟨hx, hb, hml, hown, ht, hr, hlk⟩ := id X
  clear ha hin
  have L_65 : ∀ (x3 : Int32) (md : MdS) (H : Heap) (locs : List Loc) (ls : Array Slot), lv_has ls 4 [(0, .ref (a_md 0)), (3, .int x3)] → In g A s.heap s (wMd g a_md q_md_tangle (some (a_rd 0)) md ++ (wTn g a_rd rd ++ [])) H locs → f_X13_readHand_L65 x3 md = some (r_, o_md) → W p l e rm_X13_readHand s m args below meth c H locs 0 0 Q (F0 m 65 ls []) := by
    intro x3 md H locs ls hl hI hf
    unfold f_X13_readHand_L65 at hf
    refine lv_aload_n hx hb dX13_readHand_65 rfl (lv_at hl 0 rfl) ?_
    obtain ⟨md_5, hc_, hf⟩ := bd1_some hf
    refine call_Vv X hI (Cj.keep Cj.nil) (c_X13_goesOn l g a_md q_md_tangle (some (a_rd 0)) md md_5 hc_) ⟨rfl, rfl⟩ ⟨ht _ w_1856, w_1859, ht _ w_155, lk_X13_goesOn⟩ w_1858 w_66 rfl rfl rfl hl rfl rfl dX13_readHand_66 rfl rfl rfl rfl (fun H locs hI => ?_)
    refine lv_iload_n hx hb dX13_readHand_69 rfl (lv_at hl 1 rfl) ?_
    cases hf
    exact end_i hQ hA X hI dX13_readHand_70
  have L_34 : ∀ (x1 : Int32) (t0i : Int32) (md : MdS) (H : Heap) (locs : List Loc) (ls : Array Slot), lv_has ls 4 [(0, .ref (a_md 0)), (1, .int x1)] → In g A s.heap s (wMd g a_md q_md_tangle (some (a_rd 0)) md ++ (wTn g a_rd rd ++ [])) H locs → f_X13_readHand_L34 x1 t0i md rd = some (r_, o_md) → W p l e rm_X13_readHand s m args below meth c H locs 0 0 Q (F0 m 34 ls [.int t0i]) := by
    intro x1 t0i md H locs ls hl hI hf
    unfold f_X13_readHand_L34 at hf
    refine lv_istore_n (lv' := [(3, .int t0i), (0, .ref (a_md 0)), (1, .int x1)]) hx hb dX13_readHand_34 rfl hl (by decide) rfl (fun ls hl => ?_)
    refine lv_aload_n hx hb dX13_readHand_35 rfl (lv_at hl 1 rfl) ?_
    refine g_Md_sort X hI has_Md.l (X.fl w_1592) dX13_readHand_36 ?_
    refine lv_iconst (v := 5) hx hb dX13_readHand_39 (by decide) ?_
    refine lv_icmp_eq (tgt := 65) hx hb dX13_readHand_40 (by decide) (fun h_ => ?_) (fun h_ => ?_)
    · replace hf := if_t h_ hf
      exact L_65 t0i md _ _ _ (lv_sub hl [1, 0] rfl) hI hf
    · replace hf := if_f h_ hf
      refine lv_aload_n hx hb dX13_readHand_43 rfl (lv_at hl 1 rfl) ?_
      refine g_Md_read_S X hI has_Md.l (X.fl w_1587) dX13_readHand_44 ?_
      refine g_Tn_linkOf X hI has_Tn.l.r (hI.fn (List.mem_of_getElem? (i := 92) rfl)) dX13_readHand_47 ?_
      refine lv_iconst (v := 2) hx hb dX13_readHand_50 (by decide) ?_
      refine lv_iload_n hx hb dX13_readHand_51 rfl (lv_at hl 2 rfl) ?_
      refine lv_imul hx hb dX13_readHand_52 ?_
      refine lv_iload_n hx hb dX13_readHand_53 rfl (lv_at hl 0 rfl) ?_
      refine lv_iadd hx hb dX13_readHand_54 ?_
      obtain ⟨h_, hf⟩ := ck_someM hf
      refine ld_I X hI has_Tn_linkOf.l.r h_ dX13_readHand_55 ?_
      refine lv_iconst (v := (-1)) hx hb dX13_readHand_56 (by decide) ?_
      refine lv_icmp_eq (tgt := 65) hx hb dX13_readHand_57 (by decide) (fun h_ => ?_) (fun h_ => ?_)
      · replace hf := if_t h_ hf
        exact L_65 t0i md _ _ _ (lv_sub hl [1, 0] rfl) hI hf
      · replace hf := if_f h_ hf
        refine lv_aload_n hx hb dX13_readHand_60 rfl (lv_at hl 1 rfl) ?_
        refine lv_iconst (v := 3) hx hb dX13_readHand_61 (by decide) ?_
        obtain ⟨md_4, hc_, hf⟩ := bd1_some hf
        refine call_Vv X hI (Cj.keep Cj.nil) (c_X13_flaw l g a_md q_md_tangle (some (a_rd 0)) md (3 : Int32) md_4 hc_) ⟨rfl, rfl⟩ ⟨ht _ w_1893, w_1896, ht _ w_155, lk_X13_flaw⟩ w_1895 w_72 rfl rfl rfl hl rfl rfl dX13_readHand_62 rfl rfl rfl rfl (fun H locs hI => ?_)
        exact L_65 t0i md_4 _ _ _ (lv_sub hl [1, 0] rfl) hI hf
  have L_25 : ∀ (x1 : Int32) (x2 : Int32) (md : MdS) (H : Heap) (locs : List Loc) (ls : Array Slot), lv_has ls 4 [(0, .ref (a_md 0)), (1, .int x1), (2, .int x2)] → In g A s.heap s (wMd g a_md q_md_tangle (some (a_rd 0)) md ++ (wTn g a_rd rd ++ [])) H locs → f_X13_readHand_L25 x1 x2 md rd = some (r_, o_md) → W p l e rm_X13_readHand s m args below meth c H locs 0 0 Q (F0 m 25 ls []) := by
    intro x1 x2 md H locs ls hl hI hf
    unfold f_X13_readHand_L25 at hf
    refine lv_iload_n hx hb dX13_readHand_25 rfl (lv_at hl 2 rfl) ?_
    refine lv_if_eq (tgt := 33) hx hb dX13_readHand_26 (by decide) (fun h_ => ?_) (fun h_ => ?_)
    · replace hf := if_t h_ hf
      refine lv_iconst (v := 0) hx hb dX13_readHand_33 (by decide) ?_
      exact L_34 x1 (0 : Int32) md _ _ _ (lv_sub hl [0, 1] rfl) hI hf
    · replace hf := if_f h_ hf
      refine lv_iconst (v := 1) hx hb dX13_readHand_29 (by decide) ?_
      refine lv_goto (tgt := 34) hx hb dX13_readHand_30 (by decide) ?_
      exact L_34 x1 (1 : Int32) md _ _ _ (lv_sub hl [0, 1] rfl) hI hf
  unfold f_X13_readHand at hf
  refine lv_aload_n hx hb dX13_readHand_0 rfl (lv_at hl 0 rfl) ?_
  refine va_ldcS hx hb hown (sr_18 hI) dX13_readHand_1 ?_
  obtain ⟨r_1, hc_, hf⟩ := bd1_some hf
  refine call_Vi X hI (Cj.keep Cj.nil) (c_X13_isWord l g a_md q_md_tangle (some (a_rd 0)) md 18 r_1 hc_) ⟨rfl, rfl⟩ ⟨ht _ w_1880, w_1883, ht _ w_155, lk_X13_isWord⟩ w_1882 w_70 rfl rfl rfl hl rfl rfl dX13_readHand_3 rfl rfl rfl rfl (fun H locs hI => ?_)
  refine lv_istore_n (lv' := [(2, .int r_1), (0, .ref (a_md 0)), (1, .int p1)]) hx hb dX13_readHand_6 rfl hl (by decide) rfl (fun ls hl => ?_)
  refine lv_iload_n hx hb dX13_readHand_7 rfl (lv_at hl 0 rfl) ?_
  refine lv_if_ne (tgt := 25) hx hb dX13_readHand_8 (by decide) (fun h_ => ?_) (fun h_ => ?_)
  · replace hf := if_f h_ hf
    exact L_25 p1 r_1 md _ _ _ (lv_sub hl [1, 2, 0] rfl) hI hf
  · replace hf := if_t h_ hf
    refine lv_aload_n hx hb dX13_readHand_11 rfl (lv_at hl 1 rfl) ?_
    refine va_ldcS hx hb hown (sr_19 hI) dX13_readHand_12 ?_
    obtain ⟨r_2, hc_, hf⟩ := bd1_some hf
    refine call_Vi X hI (Cj.keep Cj.nil) (c_X13_isWord l g a_md q_md_tangle (some (a_rd 0)) md 19 r_2 hc_) ⟨rfl, rfl⟩ ⟨ht _ w_1880, w_1883, ht _ w_155, lk_X13_isWord⟩ w_1882 w_70 rfl rfl rfl hl rfl rfl dX13_readHand_14 rfl rfl rfl rfl (fun H locs hI => ?_)
    refine lv_if_ne (tgt := 25) hx hb dX13_readHand_17 (by decide) (fun h_ => ?_) (fun h_ => ?_)
    · replace hf := if_f h_ hf
      exact L_25 p1 r_1 md _ _ _ (lv_sub hl [1, 2, 0] rfl) hI hf
    · replace hf := if_t h_ hf
      refine lv_aload_n hx hb dX13_readHand_20 rfl (lv_at hl 1 rfl) ?_
      refine lv_iconst (v := 1) hx hb dX13_readHand_21 (by decide) ?_
      obtain ⟨md_3, hc_, hf⟩ := bd1_some hf
      refine call_Vv X hI (Cj.keep Cj.nil) (c_X13_flaw l g a_md q_md_tangle (some (a_rd 0)) md (1 : Int32) md_3 hc_) ⟨rfl, rfl⟩ ⟨ht _ w_1893, w_1896, ht _ w_155, lk_X13_flaw⟩ w_1895 w_72 rfl rfl rfl hl rfl rfl dX13_readHand_22 rfl rfl rfl rfl (fun H locs hI => ?_)
      exact L_25 p1 r_1 md_3 _ _ _ (lv_sub hl [1, 2, 0] rfl) hI hf
abbrev rm_X13_readHold : Room := { frames := 9, cells := 0, slots := 0, locals := 207 }
set_option maxRecDepth 20000 in
theorem c_X13_readHold (l : Launch) (g : GT) (a_md : Nat → Nat) (a_rd : Nat → Nat) (q_md_tangle : Option Nat) (md : MdS) (rd : TnS) (o_md : MdS) (o_rd : TnS) (hf : f_X13_readHold md rd = some (o_md, o_rd)) : CV l yX13_readHold cX13_readHold 8 none rm_X13_readHold g [.ref (a_md 0)] (wMd g a_md q_md_tangle (some (a_rd 0)) md ++ (wTn g a_rd rd ++ [])) (wMd g a_md q_md_tangle (some (a_rd 0)) o_md ++ (wTn g a_rd o_rd ++ [])) := by
  refine start2 (y := yX13_readHold) (cc := cX13_readHold) (n := 8) (av := [.ref (a_md 0)]) (ws := (wMd g a_md q_md_tangle (some (a_rd 0)) md ++ (wTn g a_rd rd ++ []))) (Qc := fun sz => QV g (wMd g a_md q_md_tangle (some (a_rd 0)) md ++ (wTn g a_rd rd ++ [])) (wMd g a_md q_md_tangle (some (a_rd 0)) o_md ++ (wTn g a_rd o_rd ++ [])) sz) (by decide) rfl ?_
  intro p e s m args below meth c ls Q A ha hQ hA X hl hI hin
  have X : Cx p s m args meth c cX13_readHold 8 RX13 none := X
  have hl : lv_has ls 8 [(0, .ref (a_md 0))] := hl
  obtain ⟨hx, hb, hml, hown, ht, hr, hlk⟩ := id X
  clear ha hin
  have L_81 : ∀ (x1 : Int64) (x3 : Int32) (x4 : Int32) (x5 : Int32) (md : MdS) (rd : TnS) (H : Heap) (locs : List Loc) (ls : Array Slot), lv_has ls 8 [(0, .ref (a_md 0)), (1, .long x1), (3, .int x3), (4, .int x4), (5, .int x5)] → In g A s.heap s (wMd g a_md q_md_tangle (some (a_rd 0)) md ++ (wTn g a_rd rd ++ [])) H locs → f_X13_readHold_L81 x1 x3 x4 x5 md rd = some (o_md, o_rd) → W p l e rm_X13_readHold s m args below meth c H locs 0 0 Q (F0 m 81 ls []) := by
    intro x1 x3 x4 x5 md rd H locs ls hl hI hf
    unfold f_X13_readHold_L81 at hf
    refine lv_aload_n hx hb dX13_readHold_81 rfl (lv_at hl 0 rfl) ?_
    obtain ⟨md_12, hc_, hf⟩ := bd1_some hf
    refine call_Vv X hI (Cj.keep Cj.nil) (c_X13_goesOn l g a_md q_md_tangle (some (a_rd 0)) md md_12 hc_) ⟨rfl, rfl⟩ ⟨ht _ w_1856, w_1859, ht _ w_155, lk_X13_goesOn⟩ w_1858 w_66 rfl rfl rfl hl rfl rfl dX13_readHold_82 rfl rfl rfl rfl (fun H locs hI => ?_)
    refine lv_aload_n hx hb dX13_readHold_85 rfl (lv_at hl 0 rfl) ?_
    refine lv_iload hx hb dX13_readHold_86 (lv_at hl 4 rfl) ?_
    obtain ⟨r_13, md_14, hc_, hf⟩ := bd2_some hf
    refine call_Vi X hI (Cj.keep (Cj.keep Cj.id)) (c_X13_readHand l g a_md a_rd q_md_tangle md_12 rd x5 r_13 md_14 hc_) ⟨rfl, rfl⟩ ⟨ht _ w_1953, w_1956, ht _ w_155, lk_X13_readHand⟩ w_1955 w_84 rfl rfl rfl hl rfl rfl dX13_readHold_88 rfl rfl rfl rfl (fun H locs hI => ?_)
    refine lv_istore (lv' := [(6, .int r_13), (0, .ref (a_md 0)), (1, .long x1), (3, .int x3), (4, .int x4), (5, .int x5)]) hx hb dX13_readHold_91 hl (by decide) rfl (fun ls hl => ?_)
    refine lv_aload_n hx hb dX13_readHold_93 rfl (lv_at hl 1 rfl) ?_
    refine g_Md_sort X hI has_Md.l (X.fl w_1592) dX13_readHold_94 ?_
    refine lv_iconst (v := 5) hx hb dX13_readHold_97 (by decide) ?_
    refine lv_icmp_ne (tgt := 102) hx hb dX13_readHold_98 (by decide) (fun h_ => ?_) (fun h_ => ?_)
    · replace hf := if_f h_ hf
      refine lv_aload_n hx hb dX13_readHold_102 rfl (lv_at hl 1 rfl) ?_
      refine g_Md_read_S X hI has_Md.l (X.fl w_1587) dX13_readHold_103 ?_
      refine g_Tn_links X hI has_Tn.l.r (hI.fn (List.mem_of_getElem? (i := 81) rfl)) dX13_readHold_106 ?_
      refine lv_topi (fun v_15 e_ => ?_)
      replace hf := lt_to e_ hf
      clear e_
      refine lv_istore (lv' := [(7, .int v_15), (6, .int r_13), (0, .ref (a_md 0)), (1, .long x1), (3, .int x3), (4, .int x4), (5, .int x5)]) hx hb dX13_readHold_109 hl (by decide) rfl (fun ls hl => ?_)
      refine lv_aload_n hx hb dX13_readHold_111 rfl (lv_at hl 2 rfl) ?_
      refine lv_lload_n hx hb dX13_readHold_112 rfl (lv_at hl 3 rfl) ?_
      refine lv_iconst (v := 1) hx hb dX13_readHold_113 (by decide) ?_
      refine lv_iload hx hb dX13_readHold_114 (lv_at hl 0 rfl) ?_
      obtain ⟨rd_16, hc_, hf⟩ := bd1_some hf
      refine call_Vv X hI (Cj.keep (Cj.keep Cj.id)) (c_X13_names l g a_md a_rd q_md_tangle md_14 rd x1 (1 : Int32) v_15 rd_16 hc_) ⟨rfl, rfl⟩ ⟨ht _ w_1941, w_1944, ht _ w_155, lk_X13_names⟩ w_1943 w_81 rfl rfl rfl hl rfl rfl dX13_readHold_116 rfl rfl rfl rfl (fun H locs hI => ?_)
      refine lv_aload_n hx hb dX13_readHold_119 rfl (lv_at hl 2 rfl) ?_
      refine g_Md_read_S X hI has_Md.l (X.fl w_1587) dX13_readHold_120 ?_
      refine g_Tn_one X hI has_Tn.l.r (hI.fn (List.mem_of_getElem? (i := 88) rfl)) dX13_readHold_123 ?_
      refine lv_iload hx hb dX13_readHold_126 (lv_at hl 0 rfl) ?_
      refine lv_iload_n hx hb dX13_readHold_128 rfl (lv_at hl 4 rfl) ?_
      obtain ⟨h_, hf⟩ := ck_someM hf
      refine st_I X hI up_Tn_one.l.r h_ dX13_readHold_129 (fun H locs hI => ?_)
      generalize hz_ : (Tn_one' rd_16 (upd (Tn_one rd_16) (Int32.toNatClampNeg v_15) x3)) = rd_17 at hI hf
      clear hz_
      replace hf := lt_e hf
      refine lv_aload_n hx hb dX13_readHold_130 rfl (lv_at hl 2 rfl) ?_
      refine g_Md_read_S X hI has_Md.l (X.fl w_1587) dX13_readHold_131 ?_
      refine g_Tn_oneHand X hI has_Tn.l.r (hI.fn (List.mem_of_getElem? (i := 89) rfl)) dX13_readHold_134 ?_
      refine lv_iload hx hb dX13_readHold_137 (lv_at hl 0 rfl) ?_
      refine lv_iload hx hb dX13_readHold_139 (lv_at hl 5 rfl) ?_
      obtain ⟨h_, hf⟩ := ck_someM hf
      refine st_I X hI up_Tn_oneHand.l.r h_ dX13_readHold_141 (fun H locs hI => ?_)
      generalize hz_ : (Tn_oneHand' rd_17 (upd (Tn_oneHand rd_17) (Int32.toNatClampNeg v_15) x4)) = rd_18 at hI hf
      clear hz_
      replace hf := lt_e hf
      refine lv_aload_n hx hb dX13_readHold_142 rfl (lv_at hl 2 rfl) ?_
      refine g_Md_read_S X hI has_Md.l (X.fl w_1587) dX13_readHold_143 ?_
      refine g_Tn_two X hI has_Tn.l.r (hI.fn (List.mem_of_getElem? (i := 90) rfl)) dX13_readHold_146 ?_
      refine lv_iload hx hb dX13_readHold_149 (lv_at hl 0 rfl) ?_
      refine lv_iload hx hb dX13_readHold_151 (lv_at hl 6 rfl) ?_
      obtain ⟨h_, hf⟩ := ck_someM hf
      refine st_I X hI up_Tn_two.l.r h_ dX13_readHold_153 (fun H locs hI => ?_)
      generalize hz_ : (Tn_two' rd_18 (upd (Tn_two rd_18) (Int32.toNatClampNeg v_15) x5)) = rd_19 at hI hf
      clear hz_
      replace hf := lt_e hf
      refine lv_aload_n hx hb dX13_readHold_154 rfl (lv_at hl 2 rfl) ?_
      refine g_Md_read_S X hI has_Md.l (X.fl w_1587) dX13_readHold_155 ?_
      refine g_Tn_twoHand X hI has_Tn.l.r (hI.fn (List.mem_of_getElem? (i := 91) rfl)) dX13_readHold_158 ?_
      refine lv_iload hx hb dX13_readHold_161 (lv_at hl 0 rfl) ?_
      refine lv_iload hx hb dX13_readHold_163 (lv_at hl 1 rfl) ?_
      obtain ⟨h_, hf⟩ := ck_someM hf
      refine st_I X hI up_Tn_twoHand.l.r h_ dX13_readHold_165 (fun H locs hI => ?_)
      generalize hz_ : (Tn_twoHand' rd_19 (upd (Tn_twoHand rd_19) (Int32.toNatClampNeg v_15) r_13)) = rd_20 at hI hf
      clear hz_
      replace hf := lt_e hf
      refine lv_aload_n hx hb dX13_readHold_166 rfl (lv_at hl 2 rfl) ?_
      refine g_Md_read_S X hI has_Md.l (X.fl w_1587) dX13_readHold_167 ?_
      refine g_Tn_linkOf X hI has_Tn.l.r (hI.fn (List.mem_of_getElem? (i := 92) rfl)) dX13_readHold_170 ?_
      refine lv_iconst (v := 2) hx hb dX13_readHold_173 (by decide) ?_
      refine lv_iload_n hx hb dX13_readHold_174 rfl (lv_at hl 4 rfl) ?_
      refine lv_imul hx hb dX13_readHold_175 ?_
      refine lv_iload hx hb dX13_readHold_176 (lv_at hl 5 rfl) ?_
      refine lv_iadd hx hb dX13_readHold_178 ?_
      refine lv_iload hx hb dX13_readHold_179 (lv_at hl 0 rfl) ?_
      obtain ⟨h_, hf⟩ := ck_someM hf
      refine st_I X hI up_Tn_linkOf.l.r h_ dX13_readHold_181 (fun H locs hI => ?_)
      generalize hz_ : (Tn_linkOf' rd_20 (upd (Tn_linkOf rd_20) (Int32.toNatClampNeg (((2 : Int32) * x3) + x4)) v_15)) = rd_21 at hI hf
      clear hz_
      replace hf := lt_e hf
      refine lv_aload_n hx hb dX13_readHold_182 rfl (lv_at hl 2 rfl) ?_
      refine g_Md_read_S X hI has_Md.l (X.fl w_1587) dX13_readHold_183 ?_
      refine g_Tn_linkOf X hI has_Tn.l.r (hI.fn (List.mem_of_getElem? (i := 92) rfl)) dX13_readHold_186 ?_
      refine lv_iconst (v := 2) hx hb dX13_readHold_189 (by decide) ?_
      refine lv_iload hx hb dX13_readHold_190 (lv_at hl 6 rfl) ?_
      refine lv_imul hx hb dX13_readHold_192 ?_
      refine lv_iload hx hb dX13_readHold_193 (lv_at hl 1 rfl) ?_
      refine lv_iadd hx hb dX13_readHold_195 ?_
      refine lv_iload hx hb dX13_readHold_196 (lv_at hl 0 rfl) ?_
      obtain ⟨h_, hf⟩ := ck_someM hf
      refine st_I X hI up_Tn_linkOf.l.r h_ dX13_readHold_198 (fun H locs hI => ?_)
      generalize hz_ : (Tn_linkOf' rd_21 (upd (Tn_linkOf rd_21) (Int32.toNatClampNeg (((2 : Int32) * x5) + r_13)) v_15)) = rd_22 at hI hf
      clear hz_
      replace hf := lt_e hf
      refine lv_aload_n hx hb dX13_readHold_199 rfl (lv_at hl 2 rfl) ?_
      refine g_Md_read_S X hI has_Md.l (X.fl w_1587) dX13_readHold_200 ?_
      refine lv_dup hx hb dX13_readHold_203 rfl ?_
      refine g_Tn_links X hI has_Tn.l.r (hI.fn (List.mem_of_getElem? (i := 81) rfl)) dX13_readHold_204 ?_
      refine lv_iconst (v := 1) hx hb dX13_readHold_207 (by decide) ?_
      refine lv_iadd hx hb dX13_readHold_208 ?_
      refine p_Tn_links X hI up_Tn_links.l.r (hI.fn (List.mem_of_getElem? (i := 81) rfl)) dX13_readHold_209 (fun H locs hI => ?_)
      generalize hz_ : (Tn_links' rd_22 ((Tn_links rd_22) + (1 : Int32))) = rd_23 at hI hf
      clear hz_
      replace hf := lt_e hf
      cases hf
      exact end_v hQ hA X hI dX13_readHold_212
    · replace hf := if_t h_ hf
      cases hf
      exact end_v hQ hA X hI dX13_readHold_101
  have L_76 : ∀ (x1 : Int64) (x3 : Int32) (x4 : Int32) (x5 : Int32) (md : MdS) (rd : TnS) (H : Heap) (locs : List Loc) (ls : Array Slot), lv_has ls 8 [(0, .ref (a_md 0)), (1, .long x1), (3, .int x3), (4, .int x4), (5, .int x5)] → In g A s.heap s (wMd g a_md q_md_tangle (some (a_rd 0)) md ++ (wTn g a_rd rd ++ [])) H locs → f_X13_readHold_L76 x1 x3 x4 x5 md rd = some (o_md, o_rd) → W p l e rm_X13_readHold s m args below meth c H locs 0 0 Q (F0 m 76 ls []) := by
    intro x1 x3 x4 x5 md rd H locs ls hl hI hf
    unfold f_X13_readHold_L76 at hf
    refine lv_aload_n hx hb dX13_readHold_76 rfl (lv_at hl 0 rfl) ?_
    refine lv_iconst (v := 3) hx hb dX13_readHold_77 (by decide) ?_
    obtain ⟨md_24, hc_, hf⟩ := bd1_some hf
    refine call_Vv X hI (Cj.keep Cj.nil) (c_X13_flaw l g a_md q_md_tangle (some (a_rd 0)) md (3 : Int32) md_24 hc_) ⟨rfl, rfl⟩ ⟨ht _ w_1893, w_1896, ht _ w_155, lk_X13_flaw⟩ w_1895 w_72 rfl rfl rfl hl rfl rfl dX13_readHold_78 rfl rfl rfl rfl (fun H locs hI => ?_)
    exact L_81 x1 x3 x4 x5 md_24 rd _ _ _ hl hI hf
  unfold f_X13_readHold at hf
  refine lv_aload_n hx hb dX13_readHold_0 rfl (lv_at hl 0 rfl) ?_
  refine lv_aload_n hx hb dX13_readHold_1 rfl (lv_at hl 0 rfl) ?_
  refine g_Md_read_S X hI has_Md.l (X.fl w_1587) dX13_readHold_2 ?_
  refine g_Tn_links X hI has_Tn.l.r (hI.fn (List.mem_of_getElem? (i := 81) rfl)) dX13_readHold_5 ?_
  refine lv_bipush (v := 8) hx hb dX13_readHold_8 (by decide) ?_
  obtain ⟨md_1, hc_, hf⟩ := bd1_some hf
  refine call_Vv X hI (Cj.keep (Cj.keep Cj.id)) (c_X13_begins l g a_md a_rd q_md_tangle md rd (Tn_links rd) (8 : Int32) md_1 hc_) ⟨rfl, rfl⟩ ⟨ht _ w_1923, w_1926, ht _ w_155, lk_X13_begins⟩ w_1925 w_78 rfl rfl rfl hl rfl rfl dX13_readHold_10 rfl rfl rfl rfl (fun H locs hI => ?_)
  refine lv_aload_n hx hb dX13_readHold_13 rfl (lv_at hl 0 rfl) ?_
  obtain ⟨r_2, md_3, hc_, hf⟩ := bd2_some hf
  refine call_Vl X hI (Cj.keep (Cj.keep Cj.id)) (c_X13_readFresh l g a_md a_rd q_md_tangle md_1 rd r_2 md_3 hc_) ⟨rfl, rfl⟩ ⟨ht _ w_1927, w_1930, ht _ w_155, lk_X13_readFresh⟩ w_1929 w_79 rfl rfl rfl hl rfl rfl dX13_readHold_14 rfl rfl rfl rfl (fun H locs hI => ?_)
  refine lv_lstore_n (lv' := [(1, .long r_2), (0, .ref (a_md 0))]) hx hb dX13_readHold_17 rfl hl (by decide) rfl (fun ls hl => ?_)
  refine lv_aload_n hx hb dX13_readHold_18 rfl (lv_at hl 1 rfl) ?_
  refine lv_iconst (v := 0) hx hb dX13_readHold_19 (by decide) ?_
  obtain ⟨r_4, md_5, hc_, hf⟩ := bd2_some hf
  refine call_Vi X hI (Cj.keep (Cj.keep Cj.id)) (c_X13_known l g a_md a_rd q_md_tangle md_3 rd (0 : Int32) r_4 md_5 hc_) ⟨rfl, rfl⟩ ⟨ht _ w_1949, w_1952, ht _ w_155, lk_X13_known⟩ w_1951 w_83 rfl rfl rfl hl rfl rfl dX13_readHold_20 rfl rfl rfl rfl (fun H locs hI => ?_)
  refine lv_istore_n (lv' := [(3, .int r_4), (1, .long r_2), (0, .ref (a_md 0))]) hx hb dX13_readHold_23 rfl hl (by decide) rfl (fun ls hl => ?_)
  refine lv_aload_n hx hb dX13_readHold_24 rfl (lv_at hl 2 rfl) ?_
  obtain ⟨md_6, hc_, hf⟩ := bd1_some hf
  refine call_Vv X hI (Cj.keep Cj.nil) (c_X13_goesOn l g a_md q_md_tangle (some (a_rd 0)) md_5 md_6 hc_) ⟨rfl, rfl⟩ ⟨ht _ w_1856, w_1859, ht _ w_155, lk_X13_goesOn⟩ w_1858 w_66 rfl rfl rfl hl rfl rfl dX13_readHold_25 rfl rfl rfl rfl (fun H locs hI => ?_)
  refine lv_aload_n hx hb dX13_readHold_28 rfl (lv_at hl 2 rfl) ?_
  refine lv_iload_n hx hb dX13_readHold_29 rfl (lv_at hl 0 rfl) ?_
  obtain ⟨r_7, md_8, hc_, hf⟩ := bd2_some hf
  refine call_Vi X hI (Cj.keep (Cj.keep Cj.id)) (c_X13_readHand l g a_md a_rd q_md_tangle md_6 rd r_4 r_7 md_8 hc_) ⟨rfl, rfl⟩ ⟨ht _ w_1953, w_1956, ht _ w_155, lk_X13_readHand⟩ w_1955 w_84 rfl rfl rfl hl rfl rfl dX13_readHold_30 rfl rfl rfl rfl (fun H locs hI => ?_)
  refine lv_istore (lv' := [(4, .int r_7), (3, .int r_4), (1, .long r_2), (0, .ref (a_md 0))]) hx hb dX13_readHold_33 hl (by decide) rfl (fun ls hl => ?_)
  refine lv_aload_n hx hb dX13_readHold_35 rfl (lv_at hl 3 rfl) ?_
  refine lv_iconst (v := 0) hx hb dX13_readHold_36 (by decide) ?_
  obtain ⟨r_9, md_10, hc_, hf⟩ := bd2_some hf
  refine call_Vi X hI (Cj.keep (Cj.keep Cj.id)) (c_X13_known l g a_md a_rd q_md_tangle md_8 rd (0 : Int32) r_9 md_10 hc_) ⟨rfl, rfl⟩ ⟨ht _ w_1949, w_1952, ht _ w_155, lk_X13_known⟩ w_1951 w_83 rfl rfl rfl hl rfl rfl dX13_readHold_37 rfl rfl rfl rfl (fun H locs hI => ?_)
  refine lv_istore (lv' := [(5, .int r_9), (4, .int r_7), (3, .int r_4), (1, .long r_2), (0, .ref (a_md 0))]) hx hb dX13_readHold_40 hl (by decide) rfl (fun ls hl => ?_)
  refine lv_aload_n hx hb dX13_readHold_42 rfl (lv_at hl 4 rfl) ?_
  refine g_Md_sort X hI has_Md.l (X.fl w_1592) dX13_readHold_43 ?_
  refine lv_iconst (v := 5) hx hb dX13_readHold_46 (by decide) ?_
  refine lv_icmp_eq (tgt := 81) hx hb dX13_readHold_47 (by decide) (fun h_ => ?_) (fun h_ => ?_)
  · replace hf := if_t h_ hf
    exact L_81 r_2 r_4 r_7 r_9 md_10 rd _ _ _ (lv_sub hl [4, 3, 2, 1, 0] rfl) hI hf
  · replace hf := if_f h_ hf
    refine lv_iload_n hx hb dX13_readHold_50 rfl (lv_at hl 2 rfl) ?_
    refine lv_iload hx hb dX13_readHold_51 (lv_at hl 0 rfl) ?_
    refine lv_icmp_eq (tgt := 76) hx hb dX13_readHold_53 (by decide) (fun h_ => ?_) (fun h_ => ?_)
    · replace hf := if_t h_ hf
      exact L_76 r_2 r_4 r_7 r_9 md_10 rd _ _ _ (lv_sub hl [4, 3, 2, 1, 0] rfl) hI hf
    · replace hf := if_f h_ hf
      refine lv_aload_n hx hb dX13_readHold_56 rfl (lv_at hl 4 rfl) ?_
      refine g_Md_read_S X hI has_Md.l (X.fl w_1587) dX13_readHold_57 ?_
      refine g_Tn_once X hI has_Tn.l.r (hI.fn (List.mem_of_getElem? (i := 86) rfl)) dX13_readHold_60 ?_
      refine lv_if_eq (tgt := 81) hx hb dX13_readHold_63 (by decide) (fun h_ => ?_) (fun h_ => ?_)
      · replace hf := if_t h_ hf
        exact L_81 r_2 r_4 r_7 r_9 md_10 rd _ _ _ (lv_sub hl [4, 3, 2, 1, 0] rfl) hI hf
      · replace hf := if_f h_ hf
        refine lv_aload_n hx hb dX13_readHold_66 rfl (lv_at hl 4 rfl) ?_
        refine lv_iload_n hx hb dX13_readHold_67 rfl (lv_at hl 2 rfl) ?_
        refine lv_iload hx hb dX13_readHold_68 (lv_at hl 0 rfl) ?_
        obtain ⟨r_11, hc_, hf⟩ := bd1_some hf
        refine call_Vi X hI (Cj.keep (Cj.keep Cj.id)) (c_X13_isHeld l g a_md a_rd q_md_tangle md_10 rd r_4 r_9 r_11 hc_) ⟨rfl, rfl⟩ ⟨ht _ w_1959, w_1962, ht _ w_155, lk_X13_isHeld⟩ w_1961 w_85 rfl rfl rfl hl rfl rfl dX13_readHold_70 rfl rfl rfl rfl (fun H locs hI => ?_)
        refine lv_if_eq (tgt := 81) hx hb dX13_readHold_73 (by decide) (fun h_ => ?_) (fun h_ => ?_)
        · replace hf := if_t h_ hf
          exact L_81 r_2 r_4 r_7 r_9 md_10 rd _ _ _ (lv_sub hl [4, 3, 2, 1, 0] rfl) hI hf
        · replace hf := if_f h_ hf
          exact L_76 r_2 r_4 r_7 r_9 md_10 rd _ _ _ (lv_sub hl [4, 3, 2, 1, 0] rfl) hI hf
abbrev rm_X13_readPerson : Room := { frames := 9, cells := 0, slots := 0, locals := 210 }
set_option maxRecDepth 20000 in
theorem c_X13_readPerson (l : Launch) (g : GT) (a_md : Nat → Nat) (a_rd : Nat → Nat) (q_md_tangle : Option Nat) (md : MdS) (rd : TnS) (o_md : MdS) (o_rd : TnS) (hf : f_X13_readPerson md rd = some (o_md, o_rd)) : CV l yX13_readPerson cX13_readPerson 4 none rm_X13_readPerson g [.ref (a_md 0)] (wMd g a_md q_md_tangle (some (a_rd 0)) md ++ (wTn g a_rd rd ++ [])) (wMd g a_md q_md_tangle (some (a_rd 0)) o_md ++ (wTn g a_rd o_rd ++ [])) := by
  refine start2 (y := yX13_readPerson) (cc := cX13_readPerson) (n := 4) (av := [.ref (a_md 0)]) (ws := (wMd g a_md q_md_tangle (some (a_rd 0)) md ++ (wTn g a_rd rd ++ []))) (Qc := fun sz => QV g (wMd g a_md q_md_tangle (some (a_rd 0)) md ++ (wTn g a_rd rd ++ [])) (wMd g a_md q_md_tangle (some (a_rd 0)) o_md ++ (wTn g a_rd o_rd ++ [])) sz) (by decide) rfl ?_
  intro p e s m args below meth c ls Q A ha hQ hA X hl hI hin
  have X : Cx p s m args meth c cX13_readPerson 4 RX13 none := X
  have hl : lv_has ls 4 [(0, .ref (a_md 0))] := hl
  obtain ⟨hx, hb, hml, hown, ht, hr, hlk⟩ := id X
  clear ha hin
  unfold f_X13_readPerson at hf
  refine lv_aload_n hx hb dX13_readPerson_0 rfl (lv_at hl 0 rfl) ?_
  refine lv_aload_n hx hb dX13_readPerson_1 rfl (lv_at hl 0 rfl) ?_
  refine g_Md_read_S X hI has_Md.l (X.fl w_1587) dX13_readPerson_2 ?_
  refine g_Tn_people X hI has_Tn.l.r (hI.fn (List.mem_of_getElem? (i := 80) rfl)) dX13_readPerson_5 ?_
  refine lv_bipush (v := 8) hx hb dX13_readPerson_8 (by decide) ?_
  obtain ⟨md_1, hc_, hf⟩ := bd1_some hf
  refine call_Vv X hI (Cj.keep (Cj.keep Cj.id)) (c_X13_begins l g a_md a_rd q_md_tangle md rd (Tn_people rd) (8 : Int32) md_1 hc_) ⟨rfl, rfl⟩ ⟨ht _ w_1923, w_1926, ht _ w_155, lk_X13_begins⟩ w_1925 w_78 rfl rfl rfl hl rfl rfl dX13_readPerson_10 rfl rfl rfl rfl (fun H locs hI => ?_)
  refine lv_aload_n hx hb dX13_readPerson_13 rfl (lv_at hl 0 rfl) ?_
  obtain ⟨r_2, md_3, hc_, hf⟩ := bd2_some hf
  refine call_Vl X hI (Cj.keep (Cj.keep Cj.id)) (c_X13_readFresh l g a_md a_rd q_md_tangle md_1 rd r_2 md_3 hc_) ⟨rfl, rfl⟩ ⟨ht _ w_1927, w_1930, ht _ w_155, lk_X13_readFresh⟩ w_1929 w_79 rfl rfl rfl hl rfl rfl dX13_readPerson_14 rfl rfl rfl rfl (fun H locs hI => ?_)
  refine lv_lstore_n (lv' := [(1, .long r_2), (0, .ref (a_md 0))]) hx hb dX13_readPerson_17 rfl hl (by decide) rfl (fun ls hl => ?_)
  refine lv_aload_n hx hb dX13_readPerson_18 rfl (lv_at hl 1 rfl) ?_
  refine va_ldcS hx hb hown (sr_13 hI) dX13_readPerson_19 ?_
  refine lv_iconst (v := 1) hx hb dX13_readPerson_21 (by decide) ?_
  refine lv_bipush (v := 99) hx hb dX13_readPerson_22 (by decide) ?_
  obtain ⟨r_4, md_5, hc_, hf⟩ := bd2_some hf
  refine call_Vi X hI (Cj.keep Cj.nil) (c_X13_readPart l g a_md q_md_tangle (some (a_rd 0)) md_3 13 (1 : Int32) (99 : Int32) r_4 md_5 hc_) ⟨rfl, rfl⟩ ⟨ht _ w_1898, w_1901, ht _ w_155, lk_X13_readPart⟩ w_1900 w_73 rfl rfl rfl hl rfl rfl dX13_readPerson_24 rfl rfl rfl rfl (fun H locs hI => ?_)
  refine lv_istore_n (lv' := [(3, .int r_4), (1, .long r_2), (0, .ref (a_md 0))]) hx hb dX13_readPerson_27 rfl hl (by decide) rfl (fun ls hl => ?_)
  refine lv_aload_n hx hb dX13_readPerson_28 rfl (lv_at hl 2 rfl) ?_
  refine g_Md_sort X hI has_Md.l (X.fl w_1592) dX13_readPerson_29 ?_
  refine lv_iconst (v := 5) hx hb dX13_readPerson_32 (by decide) ?_
  refine lv_icmp_ne (tgt := 37) hx hb dX13_readPerson_33 (by decide) (fun h_ => ?_) (fun h_ => ?_)
  · replace hf := if_f h_ hf
    refine lv_aload_n hx hb dX13_readPerson_37 rfl (lv_at hl 2 rfl) ?_
    refine lv_lload_n hx hb dX13_readPerson_38 rfl (lv_at hl 1 rfl) ?_
    refine lv_iconst (v := 0) hx hb dX13_readPerson_39 (by decide) ?_
    refine lv_aload_n hx hb dX13_readPerson_40 rfl (lv_at hl 2 rfl) ?_
    refine g_Md_read_S X hI has_Md.l (X.fl w_1587) dX13_readPerson_41 ?_
    refine g_Tn_people X hI has_Tn.l.r (hI.fn (List.mem_of_getElem? (i := 80) rfl)) dX13_readPerson_44 ?_
    obtain ⟨rd_6, hc_, hf⟩ := bd1_some hf
    refine call_Vv X hI (Cj.keep (Cj.keep Cj.id)) (c_X13_names l g a_md a_rd q_md_tangle md_5 rd r_2 (0 : Int32) (Tn_people rd) rd_6 hc_) ⟨rfl, rfl⟩ ⟨ht _ w_1941, w_1944, ht _ w_155, lk_X13_names⟩ w_1943 w_81 rfl rfl rfl hl rfl rfl dX13_readPerson_47 rfl rfl rfl rfl (fun H locs hI => ?_)
    refine lv_aload_n hx hb dX13_readPerson_50 rfl (lv_at hl 2 rfl) ?_
    refine g_Md_read_S X hI has_Md.l (X.fl w_1587) dX13_readPerson_51 ?_
    refine g_Tn_tall X hI has_Tn.l.r (hI.fn (List.mem_of_getElem? (i := 87) rfl)) dX13_readPerson_54 ?_
    refine lv_aload_n hx hb dX13_readPerson_57 rfl (lv_at hl 2 rfl) ?_
    refine g_Md_read_S X hI has_Md.l (X.fl w_1587) dX13_readPerson_58 ?_
    refine g_Tn_people X hI has_Tn.l.r (hI.fn (List.mem_of_getElem? (i := 80) rfl)) dX13_readPerson_61 ?_
    refine lv_iload_n hx hb dX13_readPerson_64 rfl (lv_at hl 0 rfl) ?_
    obtain ⟨h_, hf⟩ := ck_someM hf
    refine st_I X hI up_Tn_tall.l.r h_ dX13_readPerson_65 (fun H locs hI => ?_)
    generalize hz_ : (Tn_tall' rd_6 (upd (Tn_tall rd_6) (Int32.toNatClampNeg (Tn_people rd_6)) r_4)) = rd_7 at hI hf
    clear hz_
    replace hf := lt_e hf
    refine lv_aload_n hx hb dX13_readPerson_66 rfl (lv_at hl 2 rfl) ?_
    refine g_Md_read_S X hI has_Md.l (X.fl w_1587) dX13_readPerson_67 ?_
    refine g_Tn_linkOf X hI has_Tn.l.r (hI.fn (List.mem_of_getElem? (i := 92) rfl)) dX13_readPerson_70 ?_
    refine lv_iconst (v := 2) hx hb dX13_readPerson_73 (by decide) ?_
    refine lv_aload_n hx hb dX13_readPerson_74 rfl (lv_at hl 2 rfl) ?_
    refine g_Md_read_S X hI has_Md.l (X.fl w_1587) dX13_readPerson_75 ?_
    refine g_Tn_people X hI has_Tn.l.r (hI.fn (List.mem_of_getElem? (i := 80) rfl)) dX13_readPerson_78 ?_
    refine lv_imul hx hb dX13_readPerson_81 ?_
    refine lv_iconst (v := (-1)) hx hb dX13_readPerson_82 (by decide) ?_
    obtain ⟨h_, hf⟩ := ck_someM hf
    refine st_I X hI up_Tn_linkOf.l.r h_ dX13_readPerson_83 (fun H locs hI => ?_)
    generalize hz_ : (Tn_linkOf' rd_7 (upd (Tn_linkOf rd_7) (Int32.toNatClampNeg ((2 : Int32) * (Tn_people rd_7))) (-1 : Int32))) = rd_8 at hI hf
    clear hz_
    replace hf := lt_e hf
    refine lv_aload_n hx hb dX13_readPerson_84 rfl (lv_at hl 2 rfl) ?_
    refine g_Md_read_S X hI has_Md.l (X.fl w_1587) dX13_readPerson_85 ?_
    refine g_Tn_linkOf X hI has_Tn.l.r (hI.fn (List.mem_of_getElem? (i := 92) rfl)) dX13_readPerson_88 ?_
    refine lv_iconst (v := 2) hx hb dX13_readPerson_91 (by decide) ?_
    refine lv_aload_n hx hb dX13_readPerson_92 rfl (lv_at hl 2 rfl) ?_
    refine g_Md_read_S X hI has_Md.l (X.fl w_1587) dX13_readPerson_93 ?_
    refine g_Tn_people X hI has_Tn.l.r (hI.fn (List.mem_of_getElem? (i := 80) rfl)) dX13_readPerson_96 ?_
    refine lv_imul hx hb dX13_readPerson_99 ?_
    refine lv_iconst (v := 1) hx hb dX13_readPerson_100 (by decide) ?_
    refine lv_iadd hx hb dX13_readPerson_101 ?_
    refine lv_iconst (v := (-1)) hx hb dX13_readPerson_102 (by decide) ?_
    obtain ⟨h_, hf⟩ := ck_someM hf
    refine st_I X hI up_Tn_linkOf.l.r h_ dX13_readPerson_103 (fun H locs hI => ?_)
    generalize hz_ : (Tn_linkOf' rd_8 (upd (Tn_linkOf rd_8) (Int32.toNatClampNeg (((2 : Int32) * (Tn_people rd_8)) + (1 : Int32))) (-1 : Int32))) = rd_9 at hI hf
    clear hz_
    replace hf := lt_e hf
    refine lv_aload_n hx hb dX13_readPerson_104 rfl (lv_at hl 2 rfl) ?_
    refine g_Md_read_S X hI has_Md.l (X.fl w_1587) dX13_readPerson_105 ?_
    refine lv_dup hx hb dX13_readPerson_108 rfl ?_
    refine g_Tn_people X hI has_Tn.l.r (hI.fn (List.mem_of_getElem? (i := 80) rfl)) dX13_readPerson_109 ?_
    refine lv_iconst (v := 1) hx hb dX13_readPerson_112 (by decide) ?_
    refine lv_iadd hx hb dX13_readPerson_113 ?_
    refine p_Tn_people X hI up_Tn_people.l.r (hI.fn (List.mem_of_getElem? (i := 80) rfl)) dX13_readPerson_114 (fun H locs hI => ?_)
    generalize hz_ : (Tn_people' rd_9 ((Tn_people rd_9) + (1 : Int32))) = rd_10 at hI hf
    clear hz_
    replace hf := lt_e hf
    cases hf
    exact end_v hQ hA X hI dX13_readPerson_117
  · replace hf := if_t h_ hf
    cases hf
    exact end_v hQ hA X hI dX13_readPerson_36
abbrev rm_X13_readTangle : Room := { frames := 9, cells := 0, slots := 0, locals := 210 }
set_option maxRecDepth 20000 in
theorem c_X13_readTangle (l : Launch) (g : GT) (a_md : Nat → Nat) (a_rd : Nat → Nat) (q_md_tangle : Option Nat) (md : MdS) (rd : TnS) (o_md : MdS) (o_rd : TnS) (hf : f_X13_readTangle md rd = some (o_md, o_rd)) : CV l yX13_readTangle cX13_readTangle 3 none rm_X13_readTangle g [.ref (a_md 0)] (wMd g a_md q_md_tangle (some (a_rd 0)) md ++ (wTn g a_rd rd ++ [])) (wMd g a_md q_md_tangle (some (a_rd 0)) o_md ++ (wTn g a_rd o_rd ++ [])) := by
  refine start2 (y := yX13_readTangle) (cc := cX13_readTangle) (n := 3) (av := [.ref (a_md 0)]) (ws := (wMd g a_md q_md_tangle (some (a_rd 0)) md ++ (wTn g a_rd rd ++ []))) (Qc := fun sz => QV g (wMd g a_md q_md_tangle (some (a_rd 0)) md ++ (wTn g a_rd rd ++ [])) (wMd g a_md q_md_tangle (some (a_rd 0)) o_md ++ (wTn g a_rd o_rd ++ [])) sz) (by decide) rfl ?_
  intro p e s m args below meth c ls Q A ha hQ hA X hl hI hin
  have X : Cx p s m args meth c cX13_readTangle 3 RX13 none := X
  have hl : lv_has ls 3 [(0, .ref (a_md 0))] := hl
  obtain ⟨hx, hb, hml, hown, ht, hr, hlk⟩ := id X
  clear ha hin
  have L_16 : ∀ (md : MdS) (rd : TnS) (H : Heap) (locs : List Loc) (ls : Array Slot), lv_has ls 3 [(0, .ref (a_md 0))] → In g A s.heap s (wMd g a_md q_md_tangle (some (a_rd 0)) md ++ (wTn g a_rd rd ++ [])) H locs → f_X13_readTangle_L16 md rd = some (o_md, o_rd) → W p l e rm_X13_readTangle s m args below meth c H locs 0 0 Q (F0 m 16 ls []) := by
    intro md rd H locs ls hl hI hf
    unfold f_X13_readTangle_L16 at hf
    refine lv_aload_n hx hb dX13_readTangle_16 rfl (lv_at hl 0 rfl) ?_
    obtain ⟨md_2, hc_, hf⟩ := bd1_some hf
    refine call_Vv X hI (Cj.keep Cj.nil) (c_X13_goesOn l g a_md q_md_tangle (some (a_rd 0)) md md_2 hc_) ⟨rfl, rfl⟩ ⟨ht _ w_1856, w_1859, ht _ w_155, lk_X13_goesOn⟩ w_1858 w_66 rfl rfl rfl hl rfl rfl dX13_readTangle_17 rfl rfl rfl rfl (fun H locs hI => ?_)
    refine lv_aload_n hx hb dX13_readTangle_20 rfl (lv_at hl 0 rfl) ?_
    refine va_ldcS hx hb hown (sr_13 hI) dX13_readTangle_21 ?_
    refine lv_iconst (v := 0) hx hb dX13_readTangle_23 (by decide) ?_
    refine lv_bipush (v := 99) hx hb dX13_readTangle_24 (by decide) ?_
    obtain ⟨r_3, md_4, hc_, hf⟩ := bd2_some hf
    refine call_Vi X hI (Cj.keep Cj.nil) (c_X13_readPart l g a_md q_md_tangle (some (a_rd 0)) md_2 13 (0 : Int32) (99 : Int32) r_3 md_4 hc_) ⟨rfl, rfl⟩ ⟨ht _ w_1898, w_1901, ht _ w_155, lk_X13_readPart⟩ w_1900 w_73 rfl rfl rfl hl rfl rfl dX13_readTangle_26 rfl rfl rfl rfl (fun H locs hI => ?_)
    refine lv_istore_n (lv' := [(1, .int r_3), (0, .ref (a_md 0))]) hx hb dX13_readTangle_29 rfl hl (by decide) rfl (fun ls hl => ?_)
    refine lv_aload_n hx hb dX13_readTangle_30 rfl (lv_at hl 1 rfl) ?_
    refine va_ldcS hx hb hown (sr_14 hI) dX13_readTangle_31 ?_
    obtain ⟨r_5, md_6, hc_, hf⟩ := bd2_some hf
    refine call_Vi X hI (Cj.keep Cj.nil) (c_X13_eatsWord l g a_md q_md_tangle (some (a_rd 0)) md_4 14 r_5 md_6 hc_) ⟨rfl, rfl⟩ ⟨ht _ w_1914, w_1917, ht _ w_155, lk_X13_eatsWord⟩ w_1916 w_76 rfl rfl rfl hl rfl rfl dX13_readTangle_33 rfl rfl rfl rfl (fun H locs hI => ?_)
    refine lv_istore_n (lv' := [(2, .int r_5), (1, .int r_3), (0, .ref (a_md 0))]) hx hb dX13_readTangle_36 rfl hl (by decide) rfl (fun ls hl => ?_)
    refine lv_aload_n hx hb dX13_readTangle_37 rfl (lv_at hl 2 rfl) ?_
    refine g_Md_sort X hI has_Md.l (X.fl w_1592) dX13_readTangle_38 ?_
    refine lv_iconst (v := 5) hx hb dX13_readTangle_41 (by decide) ?_
    refine lv_icmp_ne (tgt := 46) hx hb dX13_readTangle_42 (by decide) (fun h_ => ?_) (fun h_ => ?_)
    · replace hf := if_f h_ hf
      refine lv_aload_n hx hb dX13_readTangle_46 rfl (lv_at hl 2 rfl) ?_
      refine g_Md_read_S X hI has_Md.l (X.fl w_1587) dX13_readTangle_47 ?_
      refine lv_iload_n hx hb dX13_readTangle_50 rfl (lv_at hl 1 rfl) ?_
      refine p_Tn_height X hI up_Tn_height.l.r (hI.fn (List.mem_of_getElem? (i := 79) rfl)) dX13_readTangle_51 (fun H locs hI => ?_)
      generalize hz_ : (Tn_height' rd r_3) = rd_7 at hI hf
      clear hz_
      replace hf := lt_e hf
      refine lv_aload_n hx hb dX13_readTangle_54 rfl (lv_at hl 2 rfl) ?_
      refine g_Md_read_S X hI has_Md.l (X.fl w_1587) dX13_readTangle_55 ?_
      refine lv_iload_n hx hb dX13_readTangle_58 rfl (lv_at hl 0 rfl) ?_
      obtain ⟨h_, hf⟩ := zb_some hf
      refine p_Tn_once X hI up_Tn_once.l.r (hI.fn (List.mem_of_getElem? (i := 86) rfl)) h_ dX13_readTangle_59 (fun H locs hI => ?_)
      generalize hz_ : (Tn_once' rd_7 r_5) = rd_8 at hI hf
      clear hz_
      replace hf := lt_e hf
      cases hf
      exact end_v hQ hA X hI dX13_readTangle_62
    · replace hf := if_t h_ hf
      cases hf
      exact end_v hQ hA X hI dX13_readTangle_45
  unfold f_X13_readTangle at hf
  refine lv_aload_n hx hb dX13_readTangle_0 rfl (lv_at hl 0 rfl) ?_
  refine g_Md_read_S X hI has_Md.l (X.fl w_1587) dX13_readTangle_1 ?_
  refine g_Tn_height X hI has_Tn.l.r (hI.fn (List.mem_of_getElem? (i := 79) rfl)) dX13_readTangle_4 ?_
  refine lv_iconst (v := (-1)) hx hb dX13_readTangle_7 (by decide) ?_
  refine lv_icmp_eq (tgt := 16) hx hb dX13_readTangle_8 (by decide) (fun h_ => ?_) (fun h_ => ?_)
  · replace hf := if_t h_ hf
    exact L_16 md rd _ _ _ hl hI hf
  · replace hf := if_f h_ hf
    refine lv_aload_n hx hb dX13_readTangle_11 rfl (lv_at hl 0 rfl) ?_
    refine lv_iconst (v := 3) hx hb dX13_readTangle_12 (by decide) ?_
    obtain ⟨md_1, hc_, hf⟩ := bd1_some hf
    refine call_Vv X hI (Cj.keep Cj.nil) (c_X13_flaw l g a_md q_md_tangle (some (a_rd 0)) md (3 : Int32) md_1 hc_) ⟨rfl, rfl⟩ ⟨ht _ w_1893, w_1896, ht _ w_155, lk_X13_flaw⟩ w_1895 w_72 rfl rfl rfl hl rfl rfl dX13_readTangle_13 rfl rfl rfl rfl (fun H locs hI => ?_)
    exact L_16 md_1 rd _ _ _ hl hI hf
abbrev rm_X13_readLine : Room := { frames := 10, cells := 0, slots := 0, locals := 234 }
set_option maxRecDepth 20000 in
theorem c_X13_readLine (l : Launch) (g : GT) (a_md : Nat → Nat) (a_rd : Nat → Nat) (q_md_tangle : Option Nat) (md : MdS) (rd : TnS) (o_md : MdS) (o_rd : TnS) (hf : f_X13_readLine md rd = some (o_md, o_rd)) : CV l yX13_readLine cX13_readLine 1 none rm_X13_readLine g [.ref (a_md 0)] (wMd g a_md q_md_tangle (some (a_rd 0)) md ++ (wTn g a_rd rd ++ [])) (wMd g a_md q_md_tangle (some (a_rd 0)) o_md ++ (wTn g a_rd o_rd ++ [])) := by
  refine start2 (y := yX13_readLine) (cc := cX13_readLine) (n := 1) (av := [.ref (a_md 0)]) (ws := (wMd g a_md q_md_tangle (some (a_rd 0)) md ++ (wTn g a_rd rd ++ []))) (Qc := fun sz => QV g (wMd g a_md q_md_tangle (some (a_rd 0)) md ++ (wTn g a_rd rd ++ [])) (wMd g a_md q_md_tangle (some (a_rd 0)) o_md ++ (wTn g a_rd o_rd ++ [])) sz) (by decide) rfl ?_
  intro p e s m args below meth c ls Q A ha hQ hA X hl hI hin
  have X : Cx p s m args meth c cX13_readLine 1 RX13 none := X
  have hl : lv_has ls 1 [(0, .ref (a_md 0))] := hl
  obtain ⟨hx, hb, hml, hown, ht, hr, hlk⟩ := id X
  clear ha hin
  unfold f_X13_readLine at hf
  refine lv_aload_n hx hb dX13_readLine_0 rfl (lv_at hl 0 rfl) ?_
  refine va_ldcS hx hb hown (sr_12 hI) dX13_readLine_1 ?_
  obtain ⟨r_1, hc_, hf⟩ := bd1_some hf
  refine call_Vi X hI (Cj.keep Cj.nil) (c_X13_isWord l g a_md q_md_tangle (some (a_rd 0)) md 12 r_1 hc_) ⟨rfl, rfl⟩ ⟨ht _ w_1880, w_1883, ht _ w_155, lk_X13_isWord⟩ w_1882 w_70 rfl rfl rfl hl rfl rfl dX13_readLine_3 rfl rfl rfl rfl (fun H locs hI => ?_)
  refine lv_if_eq (tgt := 16) hx hb dX13_readLine_6 (by decide) (fun h_ => ?_) (fun h_ => ?_)
  · replace hf := if_t h_ hf
    refine lv_aload_n hx hb dX13_readLine_16 rfl (lv_at hl 0 rfl) ?_
    refine va_ldcS hx hb hown (sr_15 hI) dX13_readLine_17 ?_
    obtain ⟨r_2, hc_, hf⟩ := bd1_some hf
    refine call_Vi X hI (Cj.keep Cj.nil) (c_X13_isWord l g a_md q_md_tangle (some (a_rd 0)) md 15 r_2 hc_) ⟨rfl, rfl⟩ ⟨ht _ w_1880, w_1883, ht _ w_155, lk_X13_isWord⟩ w_1882 w_70 rfl rfl rfl hl rfl rfl dX13_readLine_19 rfl rfl rfl rfl (fun H locs hI => ?_)
    refine lv_if_eq (tgt := 32) hx hb dX13_readLine_22 (by decide) (fun h_ => ?_) (fun h_ => ?_)
    · replace hf := if_t h_ hf
      refine lv_aload_n hx hb dX13_readLine_32 rfl (lv_at hl 0 rfl) ?_
      refine va_ldcS hx hb hown (sr_16 hI) dX13_readLine_33 ?_
      obtain ⟨r_3, hc_, hf⟩ := bd1_some hf
      refine call_Vi X hI (Cj.keep Cj.nil) (c_X13_isWord l g a_md q_md_tangle (some (a_rd 0)) md 16 r_3 hc_) ⟨rfl, rfl⟩ ⟨ht _ w_1880, w_1883, ht _ w_155, lk_X13_isWord⟩ w_1882 w_70 rfl rfl rfl hl rfl rfl dX13_readLine_35 rfl rfl rfl rfl (fun H locs hI => ?_)
      refine lv_if_eq (tgt := 48) hx hb dX13_readLine_38 (by decide) (fun h_ => ?_) (fun h_ => ?_)
      · replace hf := if_t h_ hf
        refine lv_aload_n hx hb dX13_readLine_48 rfl (lv_at hl 0 rfl) ?_
        refine va_ldcS hx hb hown (sr_17 hI) dX13_readLine_49 ?_
        obtain ⟨r_4, hc_, hf⟩ := bd1_some hf
        refine call_Vi X hI (Cj.keep Cj.nil) (c_X13_isWord l g a_md q_md_tangle (some (a_rd 0)) md 17 r_4 hc_) ⟨rfl, rfl⟩ ⟨ht _ w_1880, w_1883, ht _ w_155, lk_X13_isWord⟩ w_1882 w_70 rfl rfl rfl hl rfl rfl dX13_readLine_51 rfl rfl rfl rfl (fun H locs hI => ?_)
        refine lv_if_eq (tgt := 64) hx hb dX13_readLine_54 (by decide) (fun h_ => ?_) (fun h_ => ?_)
        · replace hf := if_t h_ hf
          refine lv_aload_n hx hb dX13_readLine_64 rfl (lv_at hl 0 rfl) ?_
          refine lv_iconst (v := 1) hx hb dX13_readLine_65 (by decide) ?_
          obtain ⟨md_5, hc_, hf⟩ := bd1_some hf
          refine call_Vv X hI (Cj.keep Cj.nil) (c_X13_flaw l g a_md q_md_tangle (some (a_rd 0)) md (1 : Int32) md_5 hc_) ⟨rfl, rfl⟩ ⟨ht _ w_1893, w_1896, ht _ w_155, lk_X13_flaw⟩ w_1895 w_72 rfl rfl rfl hl rfl rfl dX13_readLine_66 rfl rfl rfl rfl (fun H locs hI => ?_)
          cases hf
          exact end_v hQ hA X hI dX13_readLine_69
        · replace hf := if_f h_ hf
          refine lv_aload_n hx hb dX13_readLine_57 rfl (lv_at hl 0 rfl) ?_
          obtain ⟨md_6, rd_7, hc_, hf⟩ := bd2_some hf
          refine call_Vv X hI (Cj.keep (Cj.keep Cj.id)) (c_X13_readCross l g a_md a_rd q_md_tangle md rd md_6 rd_7 hc_) ⟨rfl, rfl⟩ ⟨ht _ w_1963, w_1966, ht _ w_155, lk_X13_readCross⟩ w_1965 w_86 rfl rfl rfl hl rfl rfl dX13_readLine_58 rfl rfl rfl rfl (fun H locs hI => ?_)
          refine lv_goto (tgt := 69) hx hb dX13_readLine_61 (by decide) ?_
          cases hf
          exact end_v hQ hA X hI dX13_readLine_69
      · replace hf := if_f h_ hf
        refine lv_aload_n hx hb dX13_readLine_41 rfl (lv_at hl 0 rfl) ?_
        obtain ⟨md_8, rd_9, hc_, hf⟩ := bd2_some hf
        refine call_Vv X hI (Cj.keep (Cj.keep Cj.id)) (c_X13_readHold l g a_md a_rd q_md_tangle md rd md_8 rd_9 hc_) ⟨rfl, rfl⟩ ⟨ht _ w_1945, w_1948, ht _ w_155, lk_X13_readHold⟩ w_1947 w_82 rfl rfl rfl hl rfl rfl dX13_readLine_42 rfl rfl rfl rfl (fun H locs hI => ?_)
        refine lv_goto (tgt := 69) hx hb dX13_readLine_45 (by decide) ?_
        cases hf
        exact end_v hQ hA X hI dX13_readLine_69
    · replace hf := if_f h_ hf
      refine lv_aload_n hx hb dX13_readLine_25 rfl (lv_at hl 0 rfl) ?_
      obtain ⟨md_10, rd_11, hc_, hf⟩ := bd2_some hf
      refine call_Vv X hI (Cj.keep (Cj.keep Cj.id)) (c_X13_readPerson l g a_md a_rd q_md_tangle md rd md_10 rd_11 hc_) ⟨rfl, rfl⟩ ⟨ht _ w_1919, w_1922, ht _ w_155, lk_X13_readPerson⟩ w_1921 w_77 rfl rfl rfl hl rfl rfl dX13_readLine_26 rfl rfl rfl rfl (fun H locs hI => ?_)
      refine lv_goto (tgt := 69) hx hb dX13_readLine_29 (by decide) ?_
      cases hf
      exact end_v hQ hA X hI dX13_readLine_69
  · replace hf := if_f h_ hf
    refine lv_aload_n hx hb dX13_readLine_9 rfl (lv_at hl 0 rfl) ?_
    obtain ⟨md_12, rd_13, hc_, hf⟩ := bd2_some hf
    refine call_Vv X hI (Cj.keep (Cj.keep Cj.id)) (c_X13_readTangle l g a_md a_rd q_md_tangle md rd md_12 rd_13 hc_) ⟨rfl, rfl⟩ ⟨ht _ w_1889, w_1892, ht _ w_155, lk_X13_readTangle⟩ w_1891 w_71 rfl rfl rfl hl rfl rfl dX13_readLine_10 rfl rfl rfl rfl (fun H locs hI => ?_)
    refine lv_goto (tgt := 69) hx hb dX13_readLine_13 (by decide) ?_
    cases hf
    exact end_v hQ hA X hI dX13_readLine_69
abbrev rm_X13_readAll : Room := { frames := 11, cells := 0, slots := 0, locals := 254 }
set_option maxRecDepth 20000 in
theorem c_X13_readAll (l : Launch) (g : GT) (a_md : Nat → Nat) (a_rd : Nat → Nat) (q_md_tangle : Option Nat) (md : MdS) (rd : TnS) (o_md : MdS) (o_rd : TnS) (hf : f_X13_readAll md rd = some (o_md, o_rd)) : CV l yX13_readAll cX13_readAll 2 none rm_X13_readAll g [.ref (a_md 0)] (wMd g a_md q_md_tangle (some (a_rd 0)) md ++ (wTn g a_rd rd ++ [])) (wMd g a_md q_md_tangle (some (a_rd 0)) o_md ++ (wTn g a_rd o_rd ++ [])) := by
  refine start2 (y := yX13_readAll) (cc := cX13_readAll) (n := 2) (av := [.ref (a_md 0)]) (ws := (wMd g a_md q_md_tangle (some (a_rd 0)) md ++ (wTn g a_rd rd ++ []))) (Qc := fun sz => QV g (wMd g a_md q_md_tangle (some (a_rd 0)) md ++ (wTn g a_rd rd ++ [])) (wMd g a_md q_md_tangle (some (a_rd 0)) o_md ++ (wTn g a_rd o_rd ++ [])) sz) (by decide) rfl ?_
  intro p e s m args below meth c ls Q A ha hQ hA X hl hI hin
  have X : Cx p s m args meth c cX13_readAll 2 RX13 none := X
  have hl : lv_has ls 2 [(0, .ref (a_md 0))] := hl
  obtain ⟨hx, hb, hml, hown, ht, hr, hlk⟩ := id X
  clear ha hin
  have L_69 : ∀ (md : MdS) (rd : TnS) (H : Heap) (locs : List Loc) (ls : Array Slot), lv_has ls 2 [(0, .ref (a_md 0))] → In g A s.heap s (wMd g a_md q_md_tangle (some (a_rd 0)) md ++ (wTn g a_rd rd ++ [])) H locs → f_X13_readAll_L69 md rd = some (o_md, o_rd) → W p l e rm_X13_readAll s m args below meth c H locs 0 0 Q (F0 m 69 ls []) := by
    intro md rd H locs ls hl hI hf
    unfold f_X13_readAll_L69 at hf
    refine lv_aload_n hx hb dX13_readAll_69 rfl (lv_at hl 0 rfl) ?_
    refine lv_bipush (v := 6) hx hb dX13_readAll_70 (by decide) ?_
    obtain ⟨md_6, hc_, hf⟩ := bd1_some hf
    refine call_Vv X hI (Cj.keep Cj.nil) (c_X13_flaw l g a_md q_md_tangle (some (a_rd 0)) md (6 : Int32) md_6 hc_) ⟨rfl, rfl⟩ ⟨ht _ w_1893, w_1896, ht _ w_155, lk_X13_flaw⟩ w_1895 w_72 rfl rfl rfl hl rfl rfl dX13_readAll_72 rfl rfl rfl rfl (fun H locs hI => ?_)
    cases hf
    exact end_v hQ hA X hI dX13_readAll_75
  have L_31 : ∀ (md : MdS) (rd : TnS) (H : Heap) (locs : List Loc) (ls : Array Slot), lv_has ls 2 [(0, .ref (a_md 0))] → In g A s.heap s (wMd g a_md q_md_tangle (some (a_rd 0)) md ++ (wTn g a_rd rd ++ [])) H locs → f_X13_readAll_L31 md rd = some (o_md, o_rd) → W p l e rm_X13_readAll s m args below meth c H locs 0 0 Q (F0 m 31 ls []) := by
    intro md rd H locs ls hl hI hf
    unfold f_X13_readAll_L31 at hf
    refine lv_aload_n hx hb dX13_readAll_31 rfl (lv_at hl 0 rfl) ?_
    refine g_Md_read_S X hI has_Md.l (X.fl w_1587) dX13_readAll_32 ?_
    refine g_Tn_height X hI has_Tn.l.r (hI.fn (List.mem_of_getElem? (i := 79) rfl)) dX13_readAll_35 ?_
    refine lv_iconst (v := (-1)) hx hb dX13_readAll_38 (by decide) ?_
    refine lv_icmp_eq (tgt := 69) hx hb dX13_readAll_39 (by decide) (fun h_ => ?_) (fun h_ => ?_)
    · replace hf := if_t h_ hf
      exact L_69 md rd _ _ _ hl hI hf
    · replace hf := if_f h_ hf
      refine lv_aload_n hx hb dX13_readAll_42 rfl (lv_at hl 0 rfl) ?_
      refine g_Md_read_S X hI has_Md.l (X.fl w_1587) dX13_readAll_43 ?_
      refine g_Tn_people X hI has_Tn.l.r (hI.fn (List.mem_of_getElem? (i := 80) rfl)) dX13_readAll_46 ?_
      refine lv_if_eq (tgt := 69) hx hb dX13_readAll_49 (by decide) (fun h_ => ?_) (fun h_ => ?_)
      · replace hf := if_t h_ hf
        exact L_69 md rd _ _ _ hl hI hf
      · replace hf := if_f h_ hf
        refine lv_aload_n hx hb dX13_readAll_52 rfl (lv_at hl 0 rfl) ?_
        refine g_Md_read_S X hI has_Md.l (X.fl w_1587) dX13_readAll_53 ?_
        refine g_Tn_links X hI has_Tn.l.r (hI.fn (List.mem_of_getElem? (i := 81) rfl)) dX13_readAll_56 ?_
        refine lv_aload_n hx hb dX13_readAll_59 rfl (lv_at hl 0 rfl) ?_
        refine g_Md_read_S X hI has_Md.l (X.fl w_1587) dX13_readAll_60 ?_
        refine g_Tn_people X hI has_Tn.l.r (hI.fn (List.mem_of_getElem? (i := 80) rfl)) dX13_readAll_63 ?_
        refine lv_icmp_ge (tgt := 75) hx hb dX13_readAll_66 (by decide) (fun h_ => ?_) (fun h_ => ?_)
        · replace hf := if_t h_ hf
          cases hf
          exact end_v hQ hA X hI dX13_readAll_75
        · replace hf := if_f h_ hf
          exact L_69 md rd _ _ _ hl hI hf
  have L_2 : ∀ (n_ : Nat) (x1 : Int32) (md : MdS) (rd : TnS) (H : Heap) (locs : List Loc) (ls : Array Slot), lv_has ls 2 [(0, .ref (a_md 0)), (1, .int x1)] → In g A s.heap s (wMd g a_md q_md_tangle (some (a_rd 0)) md ++ (wTn g a_rd rd ++ [])) H locs → f_X13_readAll_L2 n_ x1 md rd = some (o_md, o_rd) → W p l e rm_X13_readAll s m args below meth c H locs 0 0 Q (F0 m 2 ls []) := by
    intro n_
    induction n_ with
    | zero =>
      intro x1 md rd H locs ls hl hI hf
      rw [f_X13_readAll_L2] at hf
      cases hf
    | succ n_ ih =>
      intro x1 md rd H locs ls hl hI hf
      rw [f_X13_readAll_L2] at hf
      refine lv_iload_n hx hb dX13_readAll_2 rfl (lv_at hl 1 rfl) ?_
      refine lv_if_eq (tgt := 18) hx hb dX13_readAll_3 (by decide) (fun h_ => ?_) (fun h_ => ?_)
      · replace hf := if_t h_ hf
        refine lv_aload_n hx hb dX13_readAll_18 rfl (lv_at hl 0 rfl) ?_
        refine g_Md_sort X hI has_Md.l (X.fl w_1592) dX13_readAll_19 ?_
        refine lv_iconst (v := 1) hx hb dX13_readAll_22 (by decide) ?_
        refine lv_icmp_eq (tgt := 31) hx hb dX13_readAll_23 (by decide) (fun h_ => ?_) (fun h_ => ?_)
        · replace hf := if_t h_ hf
          exact L_31 md rd _ _ _ (lv_sub hl [0] rfl) hI hf
        · replace hf := if_f h_ hf
          refine lv_aload_n hx hb dX13_readAll_26 rfl (lv_at hl 0 rfl) ?_
          refine lv_iconst (v := 1) hx hb dX13_readAll_27 (by decide) ?_
          obtain ⟨md_1, hc_, hf⟩ := bd1_some hf
          refine call_Vv X hI (Cj.keep Cj.nil) (c_X13_flaw l g a_md q_md_tangle (some (a_rd 0)) md (1 : Int32) md_1 hc_) ⟨rfl, rfl⟩ ⟨ht _ w_1893, w_1896, ht _ w_155, lk_X13_flaw⟩ w_1895 w_72 rfl rfl rfl hl rfl rfl dX13_readAll_28 rfl rfl rfl rfl (fun H locs hI => ?_)
          exact L_31 md_1 rd _ _ _ (lv_sub hl [0] rfl) hI hf
      · replace hf := if_f h_ hf
        refine lv_aload_n hx hb dX13_readAll_6 rfl (lv_at hl 0 rfl) ?_
        obtain ⟨md_2, rd_3, hc_, hf⟩ := bd2_some hf
        refine call_Vv X hI (Cj.keep (Cj.keep Cj.id)) (c_X13_readLine l g a_md a_rd q_md_tangle md rd md_2 rd_3 hc_) ⟨rfl, rfl⟩ ⟨ht _ w_1875, w_1878, ht _ w_155, lk_X13_readLine⟩ w_1877 w_69 rfl rfl rfl hl rfl rfl dX13_readAll_7 rfl rfl rfl rfl (fun H locs hI => ?_)
        refine lv_aload_n hx hb dX13_readAll_10 rfl (lv_at hl 0 rfl) ?_
        obtain ⟨r_4, md_5, hc_, hf⟩ := bd2_some hf
        refine call_Vi X hI (Cj.keep Cj.nil) (c_X13_eatsSemicolon l g a_md q_md_tangle (some (a_rd 0)) md_2 r_4 md_5 hc_) ⟨rfl, rfl⟩ ⟨ht _ w_1974, w_1977, ht _ w_155, lk_X13_eatsSemicolon⟩ w_1976 w_88 rfl rfl rfl hl rfl rfl dX13_readAll_11 rfl rfl rfl rfl (fun H locs hI => ?_)
        refine lv_istore_n (lv' := [(1, .int r_4), (0, .ref (a_md 0))]) hx hb dX13_readAll_14 rfl hl (by decide) rfl (fun ls hl => ?_)
        refine lv_goto (tgt := 2) hx hb dX13_readAll_15 (by decide) ?_
        exact ih r_4 md_5 rd_3 _ _ _ (lv_sub hl [1, 0] rfl) hI hf
  unfold f_X13_readAll at hf
  refine lv_iconst (v := 1) hx hb dX13_readAll_0 (by decide) ?_
  refine lv_istore_n (lv' := [(1, .int (1 : Int32)), (0, .ref (a_md 0))]) hx hb dX13_readAll_1 rfl hl (by decide) rfl (fun ls hl => ?_)
  exact L_2 FU (1 : Int32) md rd _ _ _ (lv_sub hl [1, 0] rfl) hI hf
