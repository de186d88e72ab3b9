abbrev rm_X13_isLink_N : Room := { frames := 0, cells := 0, slots := 0, locals := 0 }
set_option maxRecDepth 20000 in
theorem c_X13_isLink_N (l : Launch) (g : GT) (a_md : Nat → Nat) (q_md_read : Option Nat) (md : MdS) (p1 : Int32) (r_ : Int32) (hf : f_X13_isLink_N = some (r_)) : CI l yX13_isLink cX13_isLink 2 (some .boolean) rm_X13_isLink_N g [.ref (a_md 0), .int p1] (wMd g a_md none q_md_read md ++ []) (wMd g a_md none q_md_read md ++ []) r_ := by
  refine start2 (y := yX13_isLink) (cc := cX13_isLink) (n := 2) (av := [.ref (a_md 0), .int p1]) (ws := (wMd g a_md none q_md_read md ++ [])) (Qc := fun sz => QI g (wMd g a_md none q_md_read md ++ []) (wMd g a_md none q_md_read md ++ []) r_ sz) (by decide) rfl ?_
  intro p e s m args below meth c ls Q A ha hQ hA X hl hI hin
  have X : Cx p s m args meth c cX13_isLink 2 RX13 (some .boolean) := X
  have hl : lv_has ls 2 [(0, .ref (a_md 0)), (1, .int p1)] := hl
  obtain ⟨hx, hb, hml, hown, ht, hr, hlk⟩ := id X
  clear ha hin
  unfold f_X13_isLink_N at hf
  refine lv_aload_n hx hb dX13_isLink_0 rfl (lv_at hl 0 rfl) ?_
  refine g_Md_tangle_N X hI has_Md.l (X.fl w_1586) dX13_isLink_1 ?_
  refine lv_ifnullN (tgt := 26) hx hb dX13_isLink_4 (by decide) ?_
  refine lv_iconst (v := 0) hx hb dX13_isLink_26 (by decide) ?_
  cases hf
  exact end_z hQ hA X hI rfl dX13_isLink_27
abbrev rm_X13_along_N : Room := { frames := 1, cells := 0, slots := 0, locals := 21 }
set_option maxRecDepth 20000 in
theorem c_X13_along_N (l : Launch) (g : GT) (a_md : Nat → Nat) (q_md_read : Option Nat) (md : MdS) (p1 : Int32) (r_ : Int32) (o_md : MdS) (hf : f_X13_along_N md = some (r_, o_md)) : CI l yX13_along cX13_along 2 (some .int) rm_X13_along_N g [.ref (a_md 0), .int p1] (wMd g a_md none q_md_read md ++ []) (wMd g a_md none q_md_read o_md ++ []) r_ := by
  refine start2 (y := yX13_along) (cc := cX13_along) (n := 2) (av := [.ref (a_md 0), .int p1]) (ws := (wMd g a_md none q_md_read md ++ [])) (Qc := fun sz => QI g (wMd g a_md none q_md_read md ++ []) (wMd g a_md none q_md_read o_md ++ []) r_ sz) (by decide) rfl ?_
  intro p e s m args below meth c ls Q A ha hQ hA X hl hI hin
  have X : Cx p s m args meth c cX13_along 2 RX13 (some .int) := X
  have hl : lv_has ls 2 [(0, .ref (a_md 0)), (1, .int p1)] := hl
  obtain ⟨hx, hb, hml, hown, ht, hr, hlk⟩ := id X
  clear ha hin
  unfold f_X13_along_N at hf
  refine lv_aload_n hx hb dX13_along_0 rfl (lv_at hl 0 rfl) ?_
  refine lv_iconst (v := 0) hx hb dX13_along_1 (by decide) ?_
  refine p_Md_thrown X hI up_Md_thrown.l (X.fl w_1583) dX13_along_2 (fun H locs hI => ?_)
  generalize hz_ : (Md_thrown' md (0 : Int32)) = md_1 at hI hf
  clear hz_
  replace hf := lt_e hf
  refine lv_aload_n hx hb dX13_along_5 rfl (lv_at hl 0 rfl) ?_
  refine lv_iload_n hx hb dX13_along_6 rfl (lv_at hl 1 rfl) ?_
  obtain ⟨r_2, hc_, hf⟩ := bd1_some hf
  refine call_Vi X hI (Cj.keep Cj.id) (c_X13_isLink_N l g a_md q_md_read md_1 p1 r_2 hc_) ⟨rfl, rfl⟩ ⟨ht _ w_2039, w_2042, ht _ w_155, lk_X13_isLink⟩ w_2041 w_95 rfl rfl rfl hl rfl rfl dX13_along_7 rfl rfl rfl rfl (fun H locs hI => ?_)
  refine lv_if_eq (tgt := 37) hx hb dX13_along_10 (by decide) (fun h_ => ?_) (fun h_ => ?_)
  · replace hf := if_t h_ hf
    refine lv_aload_n hx hb dX13_along_37 rfl (lv_at hl 0 rfl) ?_
    refine lv_iconst (v := 1) hx hb dX13_along_38 (by decide) ?_
    obtain ⟨r_3, md_4, hc_, hf⟩ := bd2_some hf
    refine call_Vi X hI (Cj.keep Cj.id) (c_X13_refused l g a_md none q_md_read md_1 (1 : Int32) r_3 md_4 hc_) ⟨rfl, rfl⟩ ⟨ht _ w_1719, w_1722, ht _ w_155, lk_X13_refused⟩ w_1721 w_65 rfl rfl rfl hl rfl rfl dX13_along_39 rfl rfl rfl rfl (fun H locs hI => ?_)
    cases hf
    exact end_i hQ hA X hI dX13_along_42
  · replace hf := if_f h_ hf
    cases hf
abbrev rm_X13_arcs_N : Room := { frames := 1, cells := 0, slots := 0, locals := 21 }
set_option maxRecDepth 20000 in
theorem c_X13_arcs_N (l : Launch) (g : GT) (a_md : Nat → Nat) (q_md_read : Option Nat) (md : MdS) (r_ : Int32) (o_md : MdS) (hf : f_X13_arcs_N md = some (r_, o_md)) : CI l yX13_arcs cX13_arcs 1 (some .int) rm_X13_arcs_N g [.ref (a_md 0)] (wMd g a_md none q_md_read md ++ []) (wMd g a_md none q_md_read o_md ++ []) r_ := by
  refine start2 (y := yX13_arcs) (cc := cX13_arcs) (n := 1) (av := [.ref (a_md 0)]) (ws := (wMd g a_md none q_md_read md ++ [])) (Qc := fun sz => QI g (wMd g a_md none q_md_read md ++ []) (wMd g a_md none q_md_read o_md ++ []) r_ sz) (by decide) rfl ?_
  intro p e s m args below meth c ls Q A ha hQ hA X hl hI hin
  have X : Cx p s m args meth c cX13_arcs 1 RX13 (some .int) := X
  have hl : lv_has ls 1 [(0, .ref (a_md 0))] := hl
  obtain ⟨hx, hb, hml, hown, ht, hr, hlk⟩ := id X
  clear ha hin
  unfold f_X13_arcs_N at hf
  refine lv_aload_n hx hb dX13_arcs_0 rfl (lv_at hl 0 rfl) ?_
  refine lv_iconst (v := 0) hx hb dX13_arcs_1 (by decide) ?_
  refine p_Md_thrown X hI up_Md_thrown.l (X.fl w_1583) dX13_arcs_2 (fun H locs hI => ?_)
  generalize hz_ : (Md_thrown' md (0 : Int32)) = md_1 at hI hf
  clear hz_
  replace hf := lt_e hf
  refine lv_aload_n hx hb dX13_arcs_5 rfl (lv_at hl 0 rfl) ?_
  refine g_Md_tangle_N X hI has_Md.l (X.fl w_1586) dX13_arcs_6 ?_
  refine lv_ifnonnullN hx hb dX13_arcs_9 ?_
  refine lv_aload_n hx hb dX13_arcs_12 rfl (lv_at hl 0 rfl) ?_
  refine lv_iconst (v := 1) hx hb dX13_arcs_13 (by decide) ?_
  obtain ⟨r_2, md_3, hc_, hf⟩ := bd2_some hf
  refine call_Vi X hI (Cj.keep Cj.id) (c_X13_refused l g a_md none q_md_read md_1 (1 : Int32) r_2 md_3 hc_) ⟨rfl, rfl⟩ ⟨ht _ w_1719, w_1722, ht _ w_155, lk_X13_refused⟩ w_1721 w_65 rfl rfl rfl hl rfl rfl dX13_arcs_14 rfl rfl rfl rfl (fun H locs hI => ?_)
  cases hf
  exact end_i hQ hA X hI dX13_arcs_17
abbrev rm_X13_back_N : Room := { frames := 2, cells := 0, slots := 0, locals := 42 }
set_option maxRecDepth 20000 in
theorem c_X13_back_N (l : Launch) (g : GT) (a_md : Nat → Nat) (q_md_read : Option Nat) (md : MdS) (p1 : Int32) (r_ : Int32) (o_md : MdS) (hf : f_X13_back_N md = some (r_, o_md)) : CI l yX13_back cX13_back 2 (some .boolean) rm_X13_back_N g [.ref (a_md 0), .int p1] (wMd g a_md none q_md_read md ++ []) (wMd g a_md none q_md_read o_md ++ []) r_ := by
  refine start2 (y := yX13_back) (cc := cX13_back) (n := 2) (av := [.ref (a_md 0), .int p1]) (ws := (wMd g a_md none q_md_read md ++ [])) (Qc := fun sz => QI g (wMd g a_md none q_md_read md ++ []) (wMd g a_md none q_md_read o_md ++ []) r_ sz) (by decide) rfl ?_
  intro p e s m args below meth c ls Q A ha hQ hA X hl hI hin
  have X : Cx p s m args meth c cX13_back 2 RX13 (some .boolean) := X
  have hl : lv_has ls 2 [(0, .ref (a_md 0)), (1, .int p1)] := hl
  obtain ⟨hx, hb, hml, hown, ht, hr, hlk⟩ := id X
  clear ha hin
  have L_24 : ∀ (md : MdS) (H : Heap) (locs : List Loc) (ls : Array Slot), lv_has ls 2 [(0, .ref (a_md 0))] → In g A s.heap s (wMd g a_md none q_md_read md ++ []) H locs → f_X13_back_N_L24 md = some (r_, o_md) → W p l e rm_X13_back_N s m args below meth c H locs 0 0 Q (F0 m 24 ls []) := by
    intro md H locs ls hl hI hf
    unfold f_X13_back_N_L24 at hf
    refine lv_aload_n hx hb dX13_back_24 rfl (lv_at hl 0 rfl) ?_
    refine lv_iconst (v := 1) hx hb dX13_back_25 (by decide) ?_
    obtain ⟨r_2, md_3, hc_, hf⟩ := bd2_some hf
    refine call_Vi X hI (Cj.keep Cj.id) (c_X13_denied l g a_md none q_md_read md (1 : Int32) r_2 md_3 hc_) ⟨rfl, rfl⟩ ⟨ht _ w_2370, w_2373, ht _ w_155, lk_X13_denied⟩ w_2372 w_136 rfl rfl rfl hl rfl rfl dX13_back_26 rfl rfl rfl rfl (fun H locs hI => ?_)
    obtain ⟨hzb_, hf⟩ := zb_some hf
    cases hf
    exact end_z hQ hA X hI (zb_n hzb_) dX13_back_29
  unfold f_X13_back_N at hf
  refine lv_aload_n hx hb dX13_back_0 rfl (lv_at hl 0 rfl) ?_
  refine lv_iconst (v := 0) hx hb dX13_back_1 (by decide) ?_
  refine p_Md_thrown X hI up_Md_thrown.l (X.fl w_1583) dX13_back_2 (fun H locs hI => ?_)
  generalize hz_ : (Md_thrown' md (0 : Int32)) = md_1 at hI hf
  clear hz_
  replace hf := lt_e hf
  refine lv_aload_n hx hb dX13_back_5 rfl (lv_at hl 0 rfl) ?_
  refine g_Md_tangle_N X hI has_Md.l (X.fl w_1586) dX13_back_6 ?_
  refine lv_ifnullN (tgt := 24) hx hb dX13_back_9 (by decide) ?_
  exact L_24 md_1 _ _ _ (lv_sub hl [0] rfl) hI hf
abbrev rm_X13_call_N : Room := { frames := 1, cells := 0, slots := 0, locals := 21 }
set_option maxRecDepth 20000 in
theorem c_X13_call_N (l : Launch) (g : GT) (a_md : Nat → Nat) (q_md_read : Option Nat) (md : MdS) (r_ : Int32) (o_md : MdS) (hf : f_X13_call_N md = some (r_, o_md)) : CI l yX13_call cX13_call 2 (some .int) rm_X13_call_N g [.ref (a_md 0)] (wMd g a_md none q_md_read md ++ []) (wMd g a_md none q_md_read o_md ++ []) r_ := by
  refine start2 (y := yX13_call) (cc := cX13_call) (n := 2) (av := [.ref (a_md 0)]) (ws := (wMd g a_md none q_md_read md ++ [])) (Qc := fun sz => QI g (wMd g a_md none q_md_read md ++ []) (wMd g a_md none q_md_read o_md ++ []) r_ sz) (by decide) rfl ?_
  intro p e s m args below meth c ls Q A ha hQ hA X hl hI hin
  have X : Cx p s m args meth c cX13_call 2 RX13 (some .int) := X
  have hl : lv_has ls 2 [(0, .ref (a_md 0))] := hl
  obtain ⟨hx, hb, hml, hown, ht, hr, hlk⟩ := id X
  clear ha hin
  unfold f_X13_call_N at hf
  refine lv_aload_n hx hb dX13_call_0 rfl (lv_at hl 0 rfl) ?_
  refine lv_iconst (v := 0) hx hb dX13_call_1 (by decide) ?_
  refine p_Md_thrown X hI up_Md_thrown.l (X.fl w_1583) dX13_call_2 (fun H locs hI => ?_)
  generalize hz_ : (Md_thrown' md (0 : Int32)) = md_1 at hI hf
  clear hz_
  replace hf := lt_e hf
  refine lv_aload_n hx hb dX13_call_5 rfl (lv_at hl 0 rfl) ?_
  refine g_Md_tangle_N X hI has_Md.l (X.fl w_1586) dX13_call_6 ?_
  refine lv_ifnonnullN hx hb dX13_call_9 ?_
  refine lv_aload_n hx hb dX13_call_12 rfl (lv_at hl 0 rfl) ?_
  refine lv_iconst (v := 1) hx hb dX13_call_13 (by decide) ?_
  obtain ⟨r_2, md_3, hc_, hf⟩ := bd2_some hf
  refine call_Vi X hI (Cj.keep Cj.id) (c_X13_refused l g a_md none q_md_read md_1 (1 : Int32) r_2 md_3 hc_) ⟨rfl, rfl⟩ ⟨ht _ w_1719, w_1722, ht _ w_155, lk_X13_refused⟩ w_1721 w_65 rfl rfl rfl hl rfl rfl dX13_call_14 rfl rfl rfl rfl (fun H locs hI => ?_)
  cases hf
  exact end_i hQ hA X hI dX13_call_17
abbrev rm_X13_caller_N : Room := { frames := 1, cells := 0, slots := 0, locals := 21 }
set_option maxRecDepth 20000 in
theorem c_X13_caller_N (l : Launch) (g : GT) (a_md : Nat → Nat) (q_md_read : Option Nat) (md : MdS) (r_ : Int32) (o_md : MdS) (hf : f_X13_caller_N md = some (r_, o_md)) : CI l yX13_caller cX13_caller 1 (some .int) rm_X13_caller_N g [.ref (a_md 0)] (wMd g a_md none q_md_read md ++ []) (wMd g a_md none q_md_read o_md ++ []) r_ := by
  refine start2 (y := yX13_caller) (cc := cX13_caller) (n := 1) (av := [.ref (a_md 0)]) (ws := (wMd g a_md none q_md_read md ++ [])) (Qc := fun sz => QI g (wMd g a_md none q_md_read md ++ []) (wMd g a_md none q_md_read o_md ++ []) r_ sz) (by decide) rfl ?_
  intro p e s m args below meth c ls Q A ha hQ hA X hl hI hin
  have X : Cx p s m args meth c cX13_caller 1 RX13 (some .int) := X
  have hl : lv_has ls 1 [(0, .ref (a_md 0))] := hl
  obtain ⟨hx, hb, hml, hown, ht, hr, hlk⟩ := id X
  clear ha hin
  unfold f_X13_caller_N at hf
  refine lv_aload_n hx hb dX13_caller_0 rfl (lv_at hl 0 rfl) ?_
  refine lv_iconst (v := 0) hx hb dX13_caller_1 (by decide) ?_
  refine p_Md_thrown X hI up_Md_thrown.l (X.fl w_1583) dX13_caller_2 (fun H locs hI => ?_)
  generalize hz_ : (Md_thrown' md (0 : Int32)) = md_1 at hI hf
  clear hz_
  replace hf := lt_e hf
  refine lv_aload_n hx hb dX13_caller_5 rfl (lv_at hl 0 rfl) ?_
  refine g_Md_tangle_N X hI has_Md.l (X.fl w_1586) dX13_caller_6 ?_
  refine lv_ifnonnullN hx hb dX13_caller_9 ?_
  refine lv_aload_n hx hb dX13_caller_12 rfl (lv_at hl 0 rfl) ?_
  refine lv_iconst (v := 1) hx hb dX13_caller_13 (by decide) ?_
  obtain ⟨r_2, md_3, hc_, hf⟩ := bd2_some hf
  refine call_Vi X hI (Cj.keep Cj.id) (c_X13_refused l g a_md none q_md_read md_1 (1 : Int32) r_2 md_3 hc_) ⟨rfl, rfl⟩ ⟨ht _ w_1719, w_1722, ht _ w_155, lk_X13_refused⟩ w_1721 w_65 rfl rfl rfl hl rfl rfl dX13_caller_14 rfl rfl rfl rfl (fun H locs hI => ?_)
  refine lv_goto (tgt := 28) hx hb dX13_caller_17 (by decide) ?_
  cases hf
  exact end_i hQ hA X hI dX13_caller_28
abbrev rm_X13_cannot_N : Room := { frames := 1, cells := 0, slots := 0, locals := 21 }
set_option maxRecDepth 20000 in
theorem c_X13_cannot_N (l : Launch) (g : GT) (a_md : Nat → Nat) (q_md_read : Option Nat) (md : MdS) (r_ : Int32) (o_md : MdS) (hf : f_X13_cannot_N md = some (r_, o_md)) : CI l yX13_cannot cX13_cannot 4 (some .int) rm_X13_cannot_N g [.ref (a_md 0)] (wMd g a_md none q_md_read md ++ []) (wMd g a_md none q_md_read o_md ++ []) r_ := by
  refine start2 (y := yX13_cannot) (cc := cX13_cannot) (n := 4) (av := [.ref (a_md 0)]) (ws := (wMd g a_md none q_md_read md ++ [])) (Qc := fun sz => QI g (wMd g a_md none q_md_read md ++ []) (wMd g a_md none q_md_read o_md ++ []) r_ sz) (by decide) rfl ?_
  intro p e s m args below meth c ls Q A ha hQ hA X hl hI hin
  have X : Cx p s m args meth c cX13_cannot 4 RX13 (some .int) := X
  have hl : lv_has ls 4 [(0, .ref (a_md 0))] := hl
  obtain ⟨hx, hb, hml, hown, ht, hr, hlk⟩ := id X
  clear ha hin
  unfold f_X13_cannot_N at hf
  refine lv_aload_n hx hb dX13_cannot_0 rfl (lv_at hl 0 rfl) ?_
  refine lv_iconst (v := 0) hx hb dX13_cannot_1 (by decide) ?_
  refine p_Md_thrown X hI up_Md_thrown.l (X.fl w_1583) dX13_cannot_2 (fun H locs hI => ?_)
  generalize hz_ : (Md_thrown' md (0 : Int32)) = md_1 at hI hf
  clear hz_
  replace hf := lt_e hf
  refine lv_aload_n hx hb dX13_cannot_5 rfl (lv_at hl 0 rfl) ?_
  refine g_Md_tangle_N X hI has_Md.l (X.fl w_1586) dX13_cannot_6 ?_
  refine lv_ifnonnullN hx hb dX13_cannot_9 ?_
  refine lv_aload_n hx hb dX13_cannot_12 rfl (lv_at hl 0 rfl) ?_
  refine lv_iconst (v := 1) hx hb dX13_cannot_13 (by decide) ?_
  obtain ⟨r_2, md_3, hc_, hf⟩ := bd2_some hf
  refine call_Vi X hI (Cj.keep Cj.id) (c_X13_refused l g a_md none q_md_read md_1 (1 : Int32) r_2 md_3 hc_) ⟨rfl, rfl⟩ ⟨ht _ w_1719, w_1722, ht _ w_155, lk_X13_refused⟩ w_1721 w_65 rfl rfl rfl hl rfl rfl dX13_cannot_14 rfl rfl rfl rfl (fun H locs hI => ?_)
  cases hf
  exact end_i hQ hA X hI dX13_cannot_17
abbrev rm_X13_colours_N : Room := { frames := 1, cells := 0, slots := 0, locals := 21 }
set_option maxRecDepth 20000 in
theorem c_X13_colours_N (l : Launch) (g : GT) (a_md : Nat → Nat) (q_md_read : Option Nat) (md : MdS) (p1 : Int32) (r_ : Int32) (o_md : MdS) (hf : f_X13_colours_N md = some (r_, o_md)) : CI l yX13_colours cX13_colours 2 (some .int) rm_X13_colours_N g [.ref (a_md 0), .int p1] (wMd g a_md none q_md_read md ++ []) (wMd g a_md none q_md_read o_md ++ []) r_ := by
  refine start2 (y := yX13_colours) (cc := cX13_colours) (n := 2) (av := [.ref (a_md 0), .int p1]) (ws := (wMd g a_md none q_md_read md ++ [])) (Qc := fun sz => QI g (wMd g a_md none q_md_read md ++ []) (wMd g a_md none q_md_read o_md ++ []) r_ sz) (by decide) rfl ?_
  intro p e s m args below meth c ls Q A ha hQ hA X hl hI hin
  have X : Cx p s m args meth c cX13_colours 2 RX13 (some .int) := X
  have hl : lv_has ls 2 [(0, .ref (a_md 0)), (1, .int p1)] := hl
  obtain ⟨hx, hb, hml, hown, ht, hr, hlk⟩ := id X
  clear ha hin
  unfold f_X13_colours_N at hf
  refine lv_aload_n hx hb dX13_colours_0 rfl (lv_at hl 0 rfl) ?_
  refine lv_iconst (v := 0) hx hb dX13_colours_1 (by decide) ?_
  refine p_Md_thrown X hI up_Md_thrown.l (X.fl w_1583) dX13_colours_2 (fun H locs hI => ?_)
  generalize hz_ : (Md_thrown' md (0 : Int32)) = md_1 at hI hf
  clear hz_
  replace hf := lt_e hf
  refine lv_aload_n hx hb dX13_colours_5 rfl (lv_at hl 0 rfl) ?_
  refine g_Md_tangle_N X hI has_Md.l (X.fl w_1586) dX13_colours_6 ?_
  refine lv_ifnonnullN hx hb dX13_colours_9 ?_
  refine lv_aload_n hx hb dX13_colours_12 rfl (lv_at hl 0 rfl) ?_
  refine lv_iconst (v := 1) hx hb dX13_colours_13 (by decide) ?_
  obtain ⟨r_2, md_3, hc_, hf⟩ := bd2_some hf
  refine call_Vi X hI (Cj.keep Cj.id) (c_X13_refused l g a_md none q_md_read md_1 (1 : Int32) r_2 md_3 hc_) ⟨rfl, rfl⟩ ⟨ht _ w_1719, w_1722, ht _ w_155, lk_X13_refused⟩ w_1721 w_65 rfl rfl rfl hl rfl rfl dX13_colours_14 rfl rfl rfl rfl (fun H locs hI => ?_)
  cases hf
  exact end_i hQ hA X hI dX13_colours_17
abbrev rm_X13_few_N : Room := { frames := 1, cells := 0, slots := 0, locals := 21 }
set_option maxRecDepth 20000 in
theorem c_X13_few_N (l : Launch) (g : GT) (a_md : Nat → Nat) (q_md_read : Option Nat) (md : MdS) (p1 : Int32) (r_ : Int32) (o_md : MdS) (hf : f_X13_few_N md = some (r_, o_md)) : CI l yX13_few cX13_few 4 (some .int) rm_X13_few_N g [.ref (a_md 0), .int p1] (wMd g a_md none q_md_read md ++ []) (wMd g a_md none q_md_read o_md ++ []) r_ := by
  refine start2 (y := yX13_few) (cc := cX13_few) (n := 4) (av := [.ref (a_md 0), .int p1]) (ws := (wMd g a_md none q_md_read md ++ [])) (Qc := fun sz => QI g (wMd g a_md none q_md_read md ++ []) (wMd g a_md none q_md_read o_md ++ []) r_ sz) (by decide) rfl ?_
  intro p e s m args below meth c ls Q A ha hQ hA X hl hI hin
  have X : Cx p s m args meth c cX13_few 4 RX13 (some .int) := X
  have hl : lv_has ls 4 [(0, .ref (a_md 0)), (1, .int p1)] := hl
  obtain ⟨hx, hb, hml, hown, ht, hr, hlk⟩ := id X
  clear ha hin
  unfold f_X13_few_N at hf
  refine lv_aload_n hx hb dX13_few_0 rfl (lv_at hl 0 rfl) ?_
  refine lv_iconst (v := 0) hx hb dX13_few_1 (by decide) ?_
  refine p_Md_thrown X hI up_Md_thrown.l (X.fl w_1583) dX13_few_2 (fun H locs hI => ?_)
  generalize hz_ : (Md_thrown' md (0 : Int32)) = md_1 at hI hf
  clear hz_
  replace hf := lt_e hf
  refine lv_aload_n hx hb dX13_few_5 rfl (lv_at hl 0 rfl) ?_
  refine g_Md_tangle_N X hI has_Md.l (X.fl w_1586) dX13_few_6 ?_
  refine lv_ifnonnullN hx hb dX13_few_9 ?_
  refine lv_aload_n hx hb dX13_few_12 rfl (lv_at hl 0 rfl) ?_
  refine lv_iconst (v := 1) hx hb dX13_few_13 (by decide) ?_
  obtain ⟨r_2, md_3, hc_, hf⟩ := bd2_some hf
  refine call_Vi X hI (Cj.keep Cj.id) (c_X13_refused l g a_md none q_md_read md_1 (1 : Int32) r_2 md_3 hc_) ⟨rfl, rfl⟩ ⟨ht _ w_1719, w_1722, ht _ w_155, lk_X13_refused⟩ w_1721 w_65 rfl rfl rfl hl rfl rfl dX13_few_14 rfl rfl rfl rfl (fun H locs hI => ?_)
  cases hf
  exact end_i hQ hA X hI dX13_few_17
abbrev rm_X13_fewest_N : Room := { frames := 1, cells := 0, slots := 0, locals := 21 }
set_option maxRecDepth 20000 in
theorem c_X13_fewest_N (l : Launch) (g : GT) (a_md : Nat → Nat) (q_md_read : Option Nat) (md : MdS) (p1 : Int32) (r_ : Int32) (o_md : MdS) (hf : f_X13_fewest_N md = some (r_, o_md)) : CI l yX13_fewest cX13_fewest 3 (some .int) rm_X13_fewest_N g [.ref (a_md 0), .int p1] (wMd g a_md none q_md_read md ++ []) (wMd g a_md none q_md_read o_md ++ []) r_ := by
  refine start2 (y := yX13_fewest) (cc := cX13_fewest) (n := 3) (av := [.ref (a_md 0), .int p1]) (ws := (wMd g a_md none q_md_read md ++ [])) (Qc := fun sz => QI g (wMd g a_md none q_md_read md ++ []) (wMd g a_md none q_md_read o_md ++ []) r_ sz) (by decide) rfl ?_
  intro p e s m args below meth c ls Q A ha hQ hA X hl hI hin
  have X : Cx p s m args meth c cX13_fewest 3 RX13 (some .int) := X
  have hl : lv_has ls 3 [(0, .ref (a_md 0)), (1, .int p1)] := hl
  obtain ⟨hx, hb, hml, hown, ht, hr, hlk⟩ := id X
  clear ha hin
  unfold f_X13_fewest_N at hf
  refine lv_aload_n hx hb dX13_fewest_0 rfl (lv_at hl 0 rfl) ?_
  refine lv_iconst (v := 0) hx hb dX13_fewest_1 (by decide) ?_
  refine p_Md_thrown X hI up_Md_thrown.l (X.fl w_1583) dX13_fewest_2 (fun H locs hI => ?_)
  generalize hz_ : (Md_thrown' md (0 : Int32)) = md_1 at hI hf
  clear hz_
  replace hf := lt_e hf
  refine lv_aload_n hx hb dX13_fewest_5 rfl (lv_at hl 0 rfl) ?_
  refine g_Md_tangle_N X hI has_Md.l (X.fl w_1586) dX13_fewest_6 ?_
  refine lv_ifnonnullN hx hb dX13_fewest_9 ?_
  refine lv_aload_n hx hb dX13_fewest_12 rfl (lv_at hl 0 rfl) ?_
  refine lv_iconst (v := 1) hx hb dX13_fewest_13 (by decide) ?_
  obtain ⟨r_2, md_3, hc_, hf⟩ := bd2_some hf
  refine call_Vi X hI (Cj.keep Cj.id) (c_X13_refused l g a_md none q_md_read md_1 (1 : Int32) r_2 md_3 hc_) ⟨rfl, rfl⟩ ⟨ht _ w_1719, w_1722, ht _ w_155, lk_X13_refused⟩ w_1721 w_65 rfl rfl rfl hl rfl rfl dX13_fewest_14 rfl rfl rfl rfl (fun H locs hI => ?_)
  cases hf
  exact end_i hQ hA X hI dX13_fewest_17
abbrev rm_X13_isMove_N : Room := { frames := 0, cells := 0, slots := 0, locals := 0 }
set_option maxRecDepth 20000 in
theorem c_X13_isMove_N (l : Launch) (g : GT) (a_md : Nat → Nat) (q_md_read : Option Nat) (md : MdS) (p1 : Int32) (r_ : Int32) (hf : f_X13_isMove_N = some (r_)) : CI l yX13_isMove cX13_isMove 5 (some .boolean) rm_X13_isMove_N g [.ref (a_md 0), .int p1] (wMd g a_md none q_md_read md ++ []) (wMd g a_md none q_md_read md ++ []) r_ := by
  refine start2 (y := yX13_isMove) (cc := cX13_isMove) (n := 5) (av := [.ref (a_md 0), .int p1]) (ws := (wMd g a_md none q_md_read md ++ [])) (Qc := fun sz => QI g (wMd g a_md none q_md_read md ++ []) (wMd g a_md none q_md_read md ++ []) r_ sz) (by decide) rfl ?_
  intro p e s m args below meth c ls Q A ha hQ hA X hl hI hin
  have X : Cx p s m args meth c cX13_isMove 5 RX13 (some .boolean) := X
  have hl : lv_has ls 5 [(0, .ref (a_md 0)), (1, .int p1)] := hl
  obtain ⟨hx, hb, hml, hown, ht, hr, hlk⟩ := id X
  clear ha hin
  unfold f_X13_isMove_N at hf
  refine lv_aload_n hx hb dX13_isMove_0 rfl (lv_at hl 0 rfl) ?_
  refine g_Md_tangle_N X hI has_Md.l (X.fl w_1586) dX13_isMove_1 ?_
  refine lv_ifnullN (tgt := 18) hx hb dX13_isMove_4 (by decide) ?_
  refine lv_iconst (v := 0) hx hb dX13_isMove_18 (by decide) ?_
  cases hf
  exact end_z hQ hA X hI rfl dX13_isMove_19
abbrev rm_X13_goer_N : Room := { frames := 1, cells := 0, slots := 0, locals := 24 }
set_option maxRecDepth 20000 in
theorem c_X13_goer_N (l : Launch) (g : GT) (a_md : Nat → Nat) (q_md_read : Option Nat) (md : MdS) (p1 : Int32) (r_ : Int32) (o_md : MdS) (hf : f_X13_goer_N md = some (r_, o_md)) : CI l yX13_goer cX13_goer 2 (some .int) rm_X13_goer_N g [.ref (a_md 0), .int p1] (wMd g a_md none q_md_read md ++ []) (wMd g a_md none q_md_read o_md ++ []) r_ := by
  refine start2 (y := yX13_goer) (cc := cX13_goer) (n := 2) (av := [.ref (a_md 0), .int p1]) (ws := (wMd g a_md none q_md_read md ++ [])) (Qc := fun sz => QI g (wMd g a_md none q_md_read md ++ []) (wMd g a_md none q_md_read o_md ++ []) r_ sz) (by decide) rfl ?_
  intro p e s m args below meth c ls Q A ha hQ hA X hl hI hin
  have X : Cx p s m args meth c cX13_goer 2 RX13 (some .int) := X
  have hl : lv_has ls 2 [(0, .ref (a_md 0)), (1, .int p1)] := hl
  obtain ⟨hx, hb, hml, hown, ht, hr, hlk⟩ := id X
  clear ha hin
  unfold f_X13_goer_N at hf
  refine lv_aload_n hx hb dX13_goer_0 rfl (lv_at hl 0 rfl) ?_
  refine lv_iconst (v := 0) hx hb dX13_goer_1 (by decide) ?_
  refine p_Md_thrown X hI up_Md_thrown.l (X.fl w_1583) dX13_goer_2 (fun H locs hI => ?_)
  generalize hz_ : (Md_thrown' md (0 : Int32)) = md_1 at hI hf
  clear hz_
  replace hf := lt_e hf
  refine lv_aload_n hx hb dX13_goer_5 rfl (lv_at hl 0 rfl) ?_
  refine lv_iload_n hx hb dX13_goer_6 rfl (lv_at hl 1 rfl) ?_
  obtain ⟨r_2, hc_, hf⟩ := bd1_some hf
  refine call_Vi X hI (Cj.keep Cj.id) (c_X13_isMove_N l g a_md q_md_read md_1 p1 r_2 hc_) ⟨rfl, rfl⟩ ⟨ht _ w_2107, w_2110, ht _ w_155, lk_X13_isMove⟩ w_2109 w_104 rfl rfl rfl hl rfl rfl dX13_goer_7 rfl rfl rfl rfl (fun H locs hI => ?_)
  refine lv_if_ne (tgt := 19) hx hb dX13_goer_10 (by decide) (fun h_ => ?_) (fun h_ => ?_)
  · replace hf := if_f h_ hf
    cases hf
  · replace hf := if_t h_ hf
    refine lv_aload_n hx hb dX13_goer_13 rfl (lv_at hl 0 rfl) ?_
    refine lv_iconst (v := 1) hx hb dX13_goer_14 (by decide) ?_
    obtain ⟨r_3, md_4, hc_, hf⟩ := bd2_some hf
    refine call_Vi X hI (Cj.keep Cj.id) (c_X13_refused l g a_md none q_md_read md_1 (1 : Int32) r_3 md_4 hc_) ⟨rfl, rfl⟩ ⟨ht _ w_1719, w_1722, ht _ w_155, lk_X13_refused⟩ w_1721 w_65 rfl rfl rfl hl rfl rfl dX13_goer_15 rfl rfl rfl rfl (fun H locs hI => ?_)
    cases hf
    exact end_i hQ hA X hI dX13_goer_18
abbrev rm_X13_isRing_N : Room := { frames := 0, cells := 0, slots := 0, locals := 0 }
set_option maxRecDepth 20000 in
theorem c_X13_isRing_N (l : Launch) (g : GT) (a_md : Nat → Nat) (q_md_read : Option Nat) (md : MdS) (p1 : Int32) (r_ : Int32) (hf : f_X13_isRing_N = some (r_)) : CI l yX13_isRing cX13_isRing 2 (some .boolean) rm_X13_isRing_N g [.ref (a_md 0), .int p1] (wMd g a_md none q_md_read md ++ []) (wMd g a_md none q_md_read md ++ []) r_ := by
  refine start2 (y := yX13_isRing) (cc := cX13_isRing) (n := 2) (av := [.ref (a_md 0), .int p1]) (ws := (wMd g a_md none q_md_read md ++ [])) (Qc := fun sz => QI g (wMd g a_md none q_md_read md ++ []) (wMd g a_md none q_md_read md ++ []) r_ sz) (by decide) rfl ?_
  intro p e s m args below meth c ls Q A ha hQ hA X hl hI hin
  have X : Cx p s m args meth c cX13_isRing 2 RX13 (some .boolean) := X
  have hl : lv_has ls 2 [(0, .ref (a_md 0)), (1, .int p1)] := hl
  obtain ⟨hx, hb, hml, hown, ht, hr, hlk⟩ := id X
  clear ha hin
  unfold f_X13_isRing_N at hf
  refine lv_aload_n hx hb dX13_isRing_0 rfl (lv_at hl 0 rfl) ?_
  refine g_Md_tangle_N X hI has_Md.l (X.fl w_1586) dX13_isRing_1 ?_
  refine lv_ifnullN (tgt := 26) hx hb dX13_isRing_4 (by decide) ?_
  refine lv_iconst (v := 0) hx hb dX13_isRing_26 (by decide) ?_
  cases hf
  exact end_z hQ hA X hI rfl dX13_isRing_27
abbrev rm_X13_hang_N : Room := { frames := 2, cells := 0, slots := 0, locals := 42 }
set_option maxRecDepth 20000 in
theorem c_X13_hang_N (l : Launch) (g : GT) (a_md : Nat → Nat) (q_md_read : Option Nat) (md : MdS) (p1 : Int32) (p2 : Int32) (r_ : Int32) (o_md : MdS) (hf : f_X13_hang_N md = some (r_, o_md)) : CI l yX13_hang cX13_hang 3 (some .int) rm_X13_hang_N g [.ref (a_md 0), .int p1, .int p2] (wMd g a_md none q_md_read md ++ []) (wMd g a_md none q_md_read o_md ++ []) r_ := by
  refine start2 (y := yX13_hang) (cc := cX13_hang) (n := 3) (av := [.ref (a_md 0), .int p1, .int p2]) (ws := (wMd g a_md none q_md_read md ++ [])) (Qc := fun sz => QI g (wMd g a_md none q_md_read md ++ []) (wMd g a_md none q_md_read o_md ++ []) r_ sz) (by decide) rfl ?_
  intro p e s m args below meth c ls Q A ha hQ hA X hl hI hin
  have X : Cx p s m args meth c cX13_hang 3 RX13 (some .int) := X
  have hl : lv_has ls 3 [(0, .ref (a_md 0)), (1, .int p1), (2, .int p2)] := hl
  obtain ⟨hx, hb, hml, hown, ht, hr, hlk⟩ := id X
  clear ha hin
  have L_39 : ∀ (md : MdS) (H : Heap) (locs : List Loc) (ls : Array Slot), lv_has ls 3 [(0, .ref (a_md 0))] → In g A s.heap s (wMd g a_md none q_md_read md ++ []) H locs → f_X13_hang_N_L39 md = some (r_, o_md) → W p l e rm_X13_hang_N s m args below meth c H locs 0 0 Q (F0 m 39 ls []) := by
    intro md H locs ls hl hI hf
    unfold f_X13_hang_N_L39 at hf
    refine lv_aload_n hx hb dX13_hang_39 rfl (lv_at hl 0 rfl) ?_
    refine lv_iconst (v := 1) hx hb dX13_hang_40 (by decide) ?_
    obtain ⟨r_3, md_4, hc_, hf⟩ := bd2_some hf
    refine call_Vi X hI (Cj.keep Cj.id) (c_X13_lost l g a_md none q_md_read md (1 : Int32) r_3 md_4 hc_) ⟨rfl, rfl⟩ ⟨ht _ w_2063, w_2066, ht _ w_155, lk_X13_lost⟩ w_2065 w_97 rfl rfl rfl hl rfl rfl dX13_hang_41 rfl rfl rfl rfl (fun H locs hI => ?_)
    cases hf
    exact end_i hQ hA X hI dX13_hang_44
  unfold f_X13_hang_N at hf
  refine lv_aload_n hx hb dX13_hang_0 rfl (lv_at hl 0 rfl) ?_
  refine lv_iconst (v := 0) hx hb dX13_hang_1 (by decide) ?_
  refine p_Md_thrown X hI up_Md_thrown.l (X.fl w_1583) dX13_hang_2 (fun H locs hI => ?_)
  generalize hz_ : (Md_thrown' md (0 : Int32)) = md_1 at hI hf
  clear hz_
  replace hf := lt_e hf
  refine lv_aload_n hx hb dX13_hang_5 rfl (lv_at hl 0 rfl) ?_
  refine lv_iload_n hx hb dX13_hang_6 rfl (lv_at hl 1 rfl) ?_
  obtain ⟨r_2, hc_, hf⟩ := bd1_some hf
  refine call_Vi X hI (Cj.keep Cj.id) (c_X13_isRing_N l g a_md q_md_read md_1 p1 r_2 hc_) ⟨rfl, rfl⟩ ⟨ht _ w_2022, w_2025, ht _ w_155, lk_X13_isRing⟩ w_2024 w_94 rfl rfl rfl hl rfl rfl dX13_hang_7 rfl rfl rfl rfl (fun H locs hI => ?_)
  refine lv_if_eq (tgt := 39) hx hb dX13_hang_10 (by decide) (fun h_ => ?_) (fun h_ => ?_)
  · replace hf := if_t h_ hf
    exact L_39 md_1 _ _ _ (lv_sub hl [0] rfl) hI hf
  · replace hf := if_f h_ hf
    cases hf
abbrev rm_X13_isPerson_N : Room := { frames := 0, cells := 0, slots := 0, locals := 0 }
set_option maxRecDepth 20000 in
theorem c_X13_isPerson_N (l : Launch) (g : GT) (a_md : Nat → Nat) (q_md_read : Option Nat) (md : MdS) (p1 : Int32) (r_ : Int32) (hf : f_X13_isPerson_N = some (r_)) : CI l yX13_isPerson cX13_isPerson 2 (some .boolean) rm_X13_isPerson_N g [.ref (a_md 0), .int p1] (wMd g a_md none q_md_read md ++ []) (wMd g a_md none q_md_read md ++ []) r_ := by
  refine start2 (y := yX13_isPerson) (cc := cX13_isPerson) (n := 2) (av := [.ref (a_md 0), .int p1]) (ws := (wMd g a_md none q_md_read md ++ [])) (Qc := fun sz => QI g (wMd g a_md none q_md_read md ++ []) (wMd g a_md none q_md_read md ++ []) r_ sz) (by decide) rfl ?_
  intro p e s m args below meth c ls Q A ha hQ hA X hl hI hin
  have X : Cx p s m args meth c cX13_isPerson 2 RX13 (some .boolean) := X
  have hl : lv_has ls 2 [(0, .ref (a_md 0)), (1, .int p1)] := hl
  obtain ⟨hx, hb, hml, hown, ht, hr, hlk⟩ := id X
  clear ha hin
  unfold f_X13_isPerson_N at hf
  refine lv_aload_n hx hb dX13_isPerson_0 rfl (lv_at hl 0 rfl) ?_
  refine g_Md_tangle_N X hI has_Md.l (X.fl w_1586) dX13_isPerson_1 ?_
  refine lv_ifnullN (tgt := 26) hx hb dX13_isPerson_4 (by decide) ?_
  refine lv_iconst (v := 0) hx hb dX13_isPerson_26 (by decide) ?_
  cases hf
  exact end_z hQ hA X hI rfl dX13_isPerson_27
abbrev rm_X13_holds_N : Room := { frames := 1, cells := 0, slots := 0, locals := 21 }
set_option maxRecDepth 20000 in
theorem c_X13_holds_N (l : Launch) (g : GT) (a_md : Nat → Nat) (q_md_read : Option Nat) (md : MdS) (p1 : Int32) (p2 : Int32) (r_ : Int32) (o_md : MdS) (hf : f_X13_holds_N md = some (r_, o_md)) : CI l yX13_holds cX13_holds 3 (some .int) rm_X13_holds_N g [.ref (a_md 0), .int p1, .int p2] (wMd g a_md none q_md_read md ++ []) (wMd g a_md none q_md_read o_md ++ []) r_ := by
  refine start2 (y := yX13_holds) (cc := cX13_holds) (n := 3) (av := [.ref (a_md 0), .int p1, .int p2]) (ws := (wMd g a_md none q_md_read md ++ [])) (Qc := fun sz => QI g (wMd g a_md none q_md_read md ++ []) (wMd g a_md none q_md_read o_md ++ []) r_ sz) (by decide) rfl ?_
  intro p e s m args below meth c ls Q A ha hQ hA X hl hI hin
  have X : Cx p s m args meth c cX13_holds 3 RX13 (some .int) := X
  have hl : lv_has ls 3 [(0, .ref (a_md 0)), (1, .int p1), (2, .int p2)] := hl
  obtain ⟨hx, hb, hml, hown, ht, hr, hlk⟩ := id X
  clear ha hin
  unfold f_X13_holds_N at hf
  refine lv_aload_n hx hb dX13_holds_0 rfl (lv_at hl 0 rfl) ?_
  refine lv_iconst (v := 0) hx hb dX13_holds_1 (by decide) ?_
  refine p_Md_thrown X hI up_Md_thrown.l (X.fl w_1583) dX13_holds_2 (fun H locs hI => ?_)
  generalize hz_ : (Md_thrown' md (0 : Int32)) = md_1 at hI hf
  clear hz_
  replace hf := lt_e hf
  refine lv_aload_n hx hb dX13_holds_5 rfl (lv_at hl 0 rfl) ?_
  refine lv_iload_n hx hb dX13_holds_6 rfl (lv_at hl 1 rfl) ?_
  obtain ⟨r_2, hc_, hf⟩ := bd1_some hf
  refine call_Vi X hI (Cj.keep Cj.id) (c_X13_isPerson_N l g a_md q_md_read md_1 p1 r_2 hc_) ⟨rfl, rfl⟩ ⟨ht _ w_2014, w_2017, ht _ w_155, lk_X13_isPerson⟩ w_2016 w_93 rfl rfl rfl hl rfl rfl dX13_holds_7 rfl rfl rfl rfl (fun H locs hI => ?_)
  refine lv_if_eq (tgt := 40) hx hb dX13_holds_10 (by decide) (fun h_ => ?_) (fun h_ => ?_)
  · replace hf := if_t h_ hf
    refine lv_aload_n hx hb dX13_holds_40 rfl (lv_at hl 0 rfl) ?_
    refine lv_iconst (v := 1) hx hb dX13_holds_41 (by decide) ?_
    obtain ⟨r_3, md_4, hc_, hf⟩ := bd2_some hf
    refine call_Vi X hI (Cj.keep Cj.id) (c_X13_refused l g a_md none q_md_read md_1 (1 : Int32) r_3 md_4 hc_) ⟨rfl, rfl⟩ ⟨ht _ w_1719, w_1722, ht _ w_155, lk_X13_refused⟩ w_1721 w_65 rfl rfl rfl hl rfl rfl dX13_holds_42 rfl rfl rfl rfl (fun H locs hI => ?_)
    cases hf
    exact end_i hQ hA X hI dX13_holds_45
  · replace hf := if_f h_ hf
    cases hf
abbrev rm_X13_isCrossing_N : Room := { frames := 0, cells := 0, slots := 0, locals := 0 }
set_option maxRecDepth 20000 in
theorem c_X13_isCrossing_N (l : Launch) (g : GT) (a_md : Nat → Nat) (q_md_read : Option Nat) (md : MdS) (p1 : Int32) (r_ : Int32) (hf : f_X13_isCrossing_N = some (r_)) : CI l yX13_isCrossing cX13_isCrossing 2 (some .boolean) rm_X13_isCrossing_N g [.ref (a_md 0), .int p1] (wMd g a_md none q_md_read md ++ []) (wMd g a_md none q_md_read md ++ []) r_ := by
  refine start2 (y := yX13_isCrossing) (cc := cX13_isCrossing) (n := 2) (av := [.ref (a_md 0), .int p1]) (ws := (wMd g a_md none q_md_read md ++ [])) (Qc := fun sz => QI g (wMd g a_md none q_md_read md ++ []) (wMd g a_md none q_md_read md ++ []) r_ sz) (by decide) rfl ?_
  intro p e s m args below meth c ls Q A ha hQ hA X hl hI hin
  have X : Cx p s m args meth c cX13_isCrossing 2 RX13 (some .boolean) := X
  have hl : lv_has ls 2 [(0, .ref (a_md 0)), (1, .int p1)] := hl
  obtain ⟨hx, hb, hml, hown, ht, hr, hlk⟩ := id X
  clear ha hin
  unfold f_X13_isCrossing_N at hf
  refine lv_aload_n hx hb dX13_isCrossing_0 rfl (lv_at hl 0 rfl) ?_
  refine g_Md_tangle_N X hI has_Md.l (X.fl w_1586) dX13_isCrossing_1 ?_
  refine lv_ifnullN (tgt := 26) hx hb dX13_isCrossing_4 (by decide) ?_
  refine lv_iconst (v := 0) hx hb dX13_isCrossing_26 (by decide) ?_
  cases hf
  exact end_z hQ hA X hI rfl dX13_isCrossing_27
abbrev rm_X13_isStanding_N : Room := { frames := 0, cells := 0, slots := 0, locals := 0 }
set_option maxRecDepth 20000 in
theorem c_X13_isStanding_N (l : Launch) (g : GT) (a_md : Nat → Nat) (q_md_read : Option Nat) (md : MdS) (p1 : Int32) (r_ : Int32) (hf : f_X13_isStanding_N = some (r_)) : CI l yX13_isStanding cX13_isStanding 2 (some .boolean) rm_X13_isStanding_N g [.ref (a_md 0), .int p1] (wMd g a_md none q_md_read md ++ []) (wMd g a_md none q_md_read md ++ []) r_ := by
  refine start2 (y := yX13_isStanding) (cc := cX13_isStanding) (n := 2) (av := [.ref (a_md 0), .int p1]) (ws := (wMd g a_md none q_md_read md ++ [])) (Qc := fun sz => QI g (wMd g a_md none q_md_read md ++ []) (wMd g a_md none q_md_read md ++ []) r_ sz) (by decide) rfl ?_
  intro p e s m args below meth c ls Q A ha hQ hA X hl hI hin
  have X : Cx p s m args meth c cX13_isStanding 2 RX13 (some .boolean) := X
  have hl : lv_has ls 2 [(0, .ref (a_md 0)), (1, .int p1)] := hl
  obtain ⟨hx, hb, hml, hown, ht, hr, hlk⟩ := id X
  clear ha hin
  unfold f_X13_isStanding_N at hf
  refine lv_aload_n hx hb dX13_isStanding_0 rfl (lv_at hl 0 rfl) ?_
  refine g_Md_tangle_N X hI has_Md.l (X.fl w_1586) dX13_isStanding_1 ?_
  refine lv_ifnullN (tgt := 26) hx hb dX13_isStanding_4 (by decide) ?_
  refine lv_iconst (v := 0) hx hb dX13_isStanding_26 (by decide) ?_
  cases hf
  exact end_z hQ hA X hI rfl dX13_isStanding_27
abbrev rm_X13_led_N : Room := { frames := 0, cells := 0, slots := 0, locals := 0 }
set_option maxRecDepth 20000 in
theorem c_X13_led_N (l : Launch) (g : GT) (a_md : Nat → Nat) (q_md_read : Option Nat) (md : MdS) (p1 : Int32) (r_ : Int32) (o_md : MdS) (hf : f_X13_led_N md = some (r_, o_md)) : CI l yX13_led cX13_led 4 (some .int) rm_X13_led_N g [.ref (a_md 0), .int p1] (wMd g a_md none q_md_read md ++ []) (wMd g a_md none q_md_read o_md ++ []) r_ := by
  refine start2 (y := yX13_led) (cc := cX13_led) (n := 4) (av := [.ref (a_md 0), .int p1]) (ws := (wMd g a_md none q_md_read md ++ [])) (Qc := fun sz => QI g (wMd g a_md none q_md_read md ++ []) (wMd g a_md none q_md_read o_md ++ []) r_ sz) (by decide) rfl ?_
  intro p e s m args below meth c ls Q A ha hQ hA X hl hI hin
  have X : Cx p s m args meth c cX13_led 4 RX13 (some .int) := X
  have hl : lv_has ls 4 [(0, .ref (a_md 0)), (1, .int p1)] := hl
  obtain ⟨hx, hb, hml, hown, ht, hr, hlk⟩ := id X
  clear ha hin
  have L_54 : ∀ (md : MdS) (H : Heap) (locs : List Loc) (ls : Array Slot), lv_has ls 4 [(0, .ref (a_md 0))] → In g A s.heap s (wMd g a_md none q_md_read md ++ []) H locs → f_X13_led_N_L54 md = some (r_, o_md) → W p l e rm_X13_led_N s m args below meth c H locs 0 0 Q (F0 m 54 ls []) := by
    intro md H locs ls hl hI hf
    unfold f_X13_led_N_L54 at hf
    refine lv_aload_n hx hb dX13_led_54 rfl (lv_at hl 0 rfl) ?_
    refine lv_iconst (v := 1) hx hb dX13_led_55 (by decide) ?_
    refine p_Md_thrown X hI up_Md_thrown.l (X.fl w_1583) dX13_led_56 (fun H locs hI => ?_)
    generalize hz_ : (Md_thrown' md (1 : Int32)) = md_2 at hI hf
    clear hz_
    replace hf := lt_e hf
    refine lv_iconst (v := 0) hx hb dX13_led_59 (by decide) ?_
    cases hf
    exact end_i hQ hA X hI dX13_led_60
  have L_9 : ∀ (n_ : Nat) (x1 : Int32) (x2 : Int32) (x3 : Int32) (md : MdS) (H : Heap) (locs : List Loc) (ls : Array Slot), lv_has ls 4 [(0, .ref (a_md 0)), (1, .int x1), (2, .int x2), (3, .int x3)] → In g A s.heap s (wMd g a_md none q_md_read md ++ []) H locs → f_X13_led_N_L9 n_ md = some (r_, o_md) → W p l e rm_X13_led_N s m args below meth c H locs 0 0 Q (F0 m 9 ls []) := by
    intro n_
    induction n_ with
    | zero =>
      intro x1 x2 x3 md H locs ls hl hI hf
      rw [f_X13_led_N_L9] at hf
      cases hf
    | succ n_ ih =>
      intro x1 x2 x3 md H locs ls hl hI hf
      rw [f_X13_led_N_L9] at hf
      refine lv_aload_n hx hb dX13_led_9 rfl (lv_at hl 0 rfl) ?_
      refine g_Md_tangle_N X hI has_Md.l (X.fl w_1586) dX13_led_10 ?_
      refine lv_ifnullN (tgt := 54) hx hb dX13_led_13 (by decide) ?_
      exact L_54 md _ _ _ (lv_sub hl [0] rfl) hI hf
  unfold f_X13_led_N at hf
  refine lv_aload_n hx hb dX13_led_0 rfl (lv_at hl 0 rfl) ?_
  refine lv_iconst (v := 0) hx hb dX13_led_1 (by decide) ?_
  refine p_Md_thrown X hI up_Md_thrown.l (X.fl w_1583) dX13_led_2 (fun H locs hI => ?_)
  generalize hz_ : (Md_thrown' md (0 : Int32)) = md_1 at hI hf
  clear hz_
  replace hf := lt_e hf
  refine lv_iconst (v := 0) hx hb dX13_led_5 (by decide) ?_
  refine lv_istore_n (lv' := [(2, .int (0 : Int32)), (0, .ref (a_md 0)), (1, .int p1)]) hx hb dX13_led_6 rfl hl (by decide) rfl (fun ls hl => ?_)
  refine lv_iconst (v := 0) hx hb dX13_led_7 (by decide) ?_
  refine lv_istore_n (lv' := [(3, .int (0 : Int32)), (2, .int (0 : Int32)), (0, .ref (a_md 0)), (1, .int p1)]) hx hb dX13_led_8 rfl hl (by decide) rfl (fun ls hl => ?_)
  exact L_9 FU p1 (0 : Int32) (0 : Int32) md_1 _ _ _ (lv_sub hl [2, 3, 1, 0] rfl) hI hf
abbrev rm_X13_left_N : Room := { frames := 1, cells := 0, slots := 0, locals := 21 }
set_option maxRecDepth 20000 in
theorem c_X13_left_N (l : Launch) (g : GT) (a_md : Nat → Nat) (q_md_read : Option Nat) (md : MdS) (r_ : Int32) (o_md : MdS) (hf : f_X13_left_N md = some (r_, o_md)) : CI l yX13_left cX13_left 1 (some .int) rm_X13_left_N g [.ref (a_md 0)] (wMd g a_md none q_md_read md ++ []) (wMd g a_md none q_md_read o_md ++ []) r_ := by
  refine start2 (y := yX13_left) (cc := cX13_left) (n := 1) (av := [.ref (a_md 0)]) (ws := (wMd g a_md none q_md_read md ++ [])) (Qc := fun sz => QI g (wMd g a_md none q_md_read md ++ []) (wMd g a_md none q_md_read o_md ++ []) r_ sz) (by decide) rfl ?_
  intro p e s m args below meth c ls Q A ha hQ hA X hl hI hin
  have X : Cx p s m args meth c cX13_left 1 RX13 (some .int) := X
  have hl : lv_has ls 1 [(0, .ref (a_md 0))] := hl
  obtain ⟨hx, hb, hml, hown, ht, hr, hlk⟩ := id X
  clear ha hin
  unfold f_X13_left_N at hf
  refine lv_aload_n hx hb dX13_left_0 rfl (lv_at hl 0 rfl) ?_
  refine lv_iconst (v := 0) hx hb dX13_left_1 (by decide) ?_
  refine p_Md_thrown X hI up_Md_thrown.l (X.fl w_1583) dX13_left_2 (fun H locs hI => ?_)
  generalize hz_ : (Md_thrown' md (0 : Int32)) = md_1 at hI hf
  clear hz_
  replace hf := lt_e hf
  refine lv_aload_n hx hb dX13_left_5 rfl (lv_at hl 0 rfl) ?_
  refine g_Md_tangle_N X hI has_Md.l (X.fl w_1586) dX13_left_6 ?_
  refine lv_ifnonnullN hx hb dX13_left_9 ?_
  refine lv_aload_n hx hb dX13_left_12 rfl (lv_at hl 0 rfl) ?_
  refine lv_iconst (v := 1) hx hb dX13_left_13 (by decide) ?_
  obtain ⟨r_2, md_3, hc_, hf⟩ := bd2_some hf
  refine call_Vi X hI (Cj.keep Cj.id) (c_X13_refused l g a_md none q_md_read md_1 (1 : Int32) r_2 md_3 hc_) ⟨rfl, rfl⟩ ⟨ht _ w_1719, w_1722, ht _ w_155, lk_X13_refused⟩ w_1721 w_65 rfl rfl rfl hl rfl rfl dX13_left_14 rfl rfl rfl rfl (fun H locs hI => ?_)
  refine lv_goto (tgt := 32) hx hb dX13_left_17 (by decide) ?_
  cases hf
  exact end_i hQ hA X hI dX13_left_32
abbrev rm_X13_lift_N : Room := { frames := 1, cells := 0, slots := 0, locals := 21 }
set_option maxRecDepth 20000 in
theorem c_X13_lift_N (l : Launch) (g : GT) (a_md : Nat → Nat) (q_md_read : Option Nat) (md : MdS) (p1 : Int32) (r_ : Int32) (o_md : MdS) (hf : f_X13_lift_N md = some (r_, o_md)) : CI l yX13_lift cX13_lift 9 (some .int) rm_X13_lift_N g [.ref (a_md 0), .int p1] (wMd g a_md none q_md_read md ++ []) (wMd g a_md none q_md_read o_md ++ []) r_ := by
  refine start2 (y := yX13_lift) (cc := cX13_lift) (n := 9) (av := [.ref (a_md 0), .int p1]) (ws := (wMd g a_md none q_md_read md ++ [])) (Qc := fun sz => QI g (wMd g a_md none q_md_read md ++ []) (wMd g a_md none q_md_read o_md ++ []) r_ sz) (by decide) rfl ?_
  intro p e s m args below meth c ls Q A ha hQ hA X hl hI hin
  have X : Cx p s m args meth c cX13_lift 9 RX13 (some .int) := X
  have hl : lv_has ls 9 [(0, .ref (a_md 0)), (1, .int p1)] := hl
  obtain ⟨hx, hb, hml, hown, ht, hr, hlk⟩ := id X
  clear ha hin
  unfold f_X13_lift_N at hf
  refine lv_aload_n hx hb dX13_lift_0 rfl (lv_at hl 0 rfl) ?_
  refine lv_iconst (v := 0) hx hb dX13_lift_1 (by decide) ?_
  refine p_Md_thrown X hI up_Md_thrown.l (X.fl w_1583) dX13_lift_2 (fun H locs hI => ?_)
  generalize hz_ : (Md_thrown' md (0 : Int32)) = md_1 at hI hf
  clear hz_
  replace hf := lt_e hf
  refine lv_aload_n hx hb dX13_lift_5 rfl (lv_at hl 0 rfl) ?_
  refine g_Md_tangle_N X hI has_Md.l (X.fl w_1586) dX13_lift_6 ?_
  refine lv_ifnonnullN hx hb dX13_lift_9 ?_
  refine lv_aload_n hx hb dX13_lift_12 rfl (lv_at hl 0 rfl) ?_
  refine lv_iconst (v := 1) hx hb dX13_lift_13 (by decide) ?_
  obtain ⟨r_2, md_3, hc_, hf⟩ := bd2_some hf
  refine call_Vi X hI (Cj.keep Cj.id) (c_X13_refused l g a_md none q_md_read md_1 (1 : Int32) r_2 md_3 hc_) ⟨rfl, rfl⟩ ⟨ht _ w_1719, w_1722, ht _ w_155, lk_X13_refused⟩ w_1721 w_65 rfl rfl rfl hl rfl rfl dX13_lift_14 rfl rfl rfl rfl (fun H locs hI => ?_)
  cases hf
  exact end_i hQ hA X hI dX13_lift_17
abbrev rm_X13_lifts_N : Room := { frames := 2, cells := 0, slots := 0, locals := 42 }
set_option maxRecDepth 20000 in
theorem c_X13_lifts_N (l : Launch) (g : GT) (a_md : Nat → Nat) (q_md_read : Option Nat) (md : MdS) (p1 : Int32) (r_ : Int32) (o_md : MdS) (hf : f_X13_lifts_N md = some (r_, o_md)) : CI l yX13_lifts cX13_lifts 2 (some .int) rm_X13_lifts_N g [.ref (a_md 0), .int p1] (wMd g a_md none q_md_read md ++ []) (wMd g a_md none q_md_read o_md ++ []) r_ := by
  refine start2 (y := yX13_lifts) (cc := cX13_lifts) (n := 2) (av := [.ref (a_md 0), .int p1]) (ws := (wMd g a_md none q_md_read md ++ [])) (Qc := fun sz => QI g (wMd g a_md none q_md_read md ++ []) (wMd g a_md none q_md_read o_md ++ []) r_ sz) (by decide) rfl ?_
  intro p e s m args below meth c ls Q A ha hQ hA X hl hI hin
  have X : Cx p s m args meth c cX13_lifts 2 RX13 (some .int) := X
  have hl : lv_has ls 2 [(0, .ref (a_md 0)), (1, .int p1)] := hl
  obtain ⟨hx, hb, hml, hown, ht, hr, hlk⟩ := id X
  clear ha hin
  unfold f_X13_lifts_N at hf
  refine lv_aload_n hx hb dX13_lifts_0 rfl (lv_at hl 0 rfl) ?_
  refine lv_iconst (v := 0) hx hb dX13_lifts_1 (by decide) ?_
  refine p_Md_thrown X hI up_Md_thrown.l (X.fl w_1583) dX13_lifts_2 (fun H locs hI => ?_)
  generalize hz_ : (Md_thrown' md (0 : Int32)) = md_1 at hI hf
  clear hz_
  replace hf := lt_e hf
  refine lv_aload_n hx hb dX13_lifts_5 rfl (lv_at hl 0 rfl) ?_
  refine lv_iload_n hx hb dX13_lifts_6 rfl (lv_at hl 1 rfl) ?_
  obtain ⟨r_2, hc_, hf⟩ := bd1_some hf
  refine call_Vi X hI (Cj.keep Cj.id) (c_X13_isCrossing_N l g a_md q_md_read md_1 p1 r_2 hc_) ⟨rfl, rfl⟩ ⟨ht _ w_2255, w_2258, ht _ w_155, lk_X13_isCrossing⟩ w_2257 w_126 rfl rfl rfl hl rfl rfl dX13_lifts_7 rfl rfl rfl rfl (fun H locs hI => ?_)
  refine lv_if_ne (tgt := 19) hx hb dX13_lifts_10 (by decide) (fun h_ => ?_) (fun h_ => ?_)
  · replace hf := if_f h_ hf
    cases hf
  · replace hf := if_t h_ hf
    refine lv_aload_n hx hb dX13_lifts_13 rfl (lv_at hl 0 rfl) ?_
    refine lv_iconst (v := 1) hx hb dX13_lifts_14 (by decide) ?_
    obtain ⟨r_3, md_4, hc_, hf⟩ := bd2_some hf
    refine call_Vi X hI (Cj.keep Cj.id) (c_X13_lost l g a_md none q_md_read md_1 (1 : Int32) r_3 md_4 hc_) ⟨rfl, rfl⟩ ⟨ht _ w_2063, w_2066, ht _ w_155, lk_X13_lost⟩ w_2065 w_97 rfl rfl rfl hl rfl rfl dX13_lifts_15 rfl rfl rfl rfl (fun H locs hI => ?_)
    cases hf
    exact end_i hQ hA X hI dX13_lifts_18
abbrev rm_X13_loose_N : Room := { frames := 1, cells := 0, slots := 0, locals := 21 }
set_option maxRecDepth 20000 in
theorem c_X13_loose_N (l : Launch) (g : GT) (a_md : Nat → Nat) (q_md_read : Option Nat) (md : MdS) (r_ : Int32) (o_md : MdS) (hf : f_X13_loose_N md = some (r_, o_md)) : CI l yX13_loose cX13_loose 1 (some .int) rm_X13_loose_N g [.ref (a_md 0)] (wMd g a_md none q_md_read md ++ []) (wMd g a_md none q_md_read o_md ++ []) r_ := by
  refine start2 (y := yX13_loose) (cc := cX13_loose) (n := 1) (av := [.ref (a_md 0)]) (ws := (wMd g a_md none q_md_read md ++ [])) (Qc := fun sz => QI g (wMd g a_md none q_md_read md ++ []) (wMd g a_md none q_md_read o_md ++ []) r_ sz) (by decide) rfl ?_
  intro p e s m args below meth c ls Q A ha hQ hA X hl hI hin
  have X : Cx p s m args meth c cX13_loose 1 RX13 (some .int) := X
  have hl : lv_has ls 1 [(0, .ref (a_md 0))] := hl
  obtain ⟨hx, hb, hml, hown, ht, hr, hlk⟩ := id X
  clear ha hin
  unfold f_X13_loose_N at hf
  refine lv_aload_n hx hb dX13_loose_0 rfl (lv_at hl 0 rfl) ?_
  refine lv_iconst (v := 0) hx hb dX13_loose_1 (by decide) ?_
  refine p_Md_thrown X hI up_Md_thrown.l (X.fl w_1583) dX13_loose_2 (fun H locs hI => ?_)
  generalize hz_ : (Md_thrown' md (0 : Int32)) = md_1 at hI hf
  clear hz_
  replace hf := lt_e hf
  refine lv_aload_n hx hb dX13_loose_5 rfl (lv_at hl 0 rfl) ?_
  refine g_Md_tangle_N X hI has_Md.l (X.fl w_1586) dX13_loose_6 ?_
  refine lv_ifnonnullN hx hb dX13_loose_9 ?_
  refine lv_aload_n hx hb dX13_loose_12 rfl (lv_at hl 0 rfl) ?_
  refine lv_iconst (v := 1) hx hb dX13_loose_13 (by decide) ?_
  obtain ⟨r_2, md_3, hc_, hf⟩ := bd2_some hf
  refine call_Vi X hI (Cj.keep Cj.id) (c_X13_refused l g a_md none q_md_read md_1 (1 : Int32) r_2 md_3 hc_) ⟨rfl, rfl⟩ ⟨ht _ w_1719, w_1722, ht _ w_155, lk_X13_refused⟩ w_1721 w_65 rfl rfl rfl hl rfl rfl dX13_loose_14 rfl rfl rfl rfl (fun H locs hI => ?_)
  refine lv_goto (tgt := 40) hx hb dX13_loose_17 (by decide) ?_
  cases hf
  exact end_i hQ hA X hI dX13_loose_40
abbrev rm_X13_lot_N : Room := { frames := 1, cells := 0, slots := 0, locals := 21 }
set_option maxRecDepth 20000 in
theorem c_X13_lot_N (l : Launch) (g : GT) (a_md : Nat → Nat) (q_md_read : Option Nat) (md : MdS) (r_ : Int32) (o_md : MdS) (hf : f_X13_lot_N md = some (r_, o_md)) : CI l yX13_lot cX13_lot 4 (some .int) rm_X13_lot_N g [.ref (a_md 0)] (wMd g a_md none q_md_read md ++ []) (wMd g a_md none q_md_read o_md ++ []) r_ := by
  refine start2 (y := yX13_lot) (cc := cX13_lot) (n := 4) (av := [.ref (a_md 0)]) (ws := (wMd g a_md none q_md_read md ++ [])) (Qc := fun sz => QI g (wMd g a_md none q_md_read md ++ []) (wMd g a_md none q_md_read o_md ++ []) r_ sz) (by decide) rfl ?_
  intro p e s m args below meth c ls Q A ha hQ hA X hl hI hin
  have X : Cx p s m args meth c cX13_lot 4 RX13 (some .int) := X
  have hl : lv_has ls 4 [(0, .ref (a_md 0))] := hl
  obtain ⟨hx, hb, hml, hown, ht, hr, hlk⟩ := id X
  clear ha hin
  unfold f_X13_lot_N at hf
  refine lv_aload_n hx hb dX13_lot_0 rfl (lv_at hl 0 rfl) ?_
  refine lv_iconst (v := 0) hx hb dX13_lot_1 (by decide) ?_
  refine p_Md_thrown X hI up_Md_thrown.l (X.fl w_1583) dX13_lot_2 (fun H locs hI => ?_)
  generalize hz_ : (Md_thrown' md (0 : Int32)) = md_1 at hI hf
  clear hz_
  replace hf := lt_e hf
  refine lv_aload_n hx hb dX13_lot_5 rfl (lv_at hl 0 rfl) ?_
  refine g_Md_tangle_N X hI has_Md.l (X.fl w_1586) dX13_lot_6 ?_
  refine lv_ifnonnullN hx hb dX13_lot_9 ?_
  refine lv_aload_n hx hb dX13_lot_12 rfl (lv_at hl 0 rfl) ?_
  refine lv_iconst (v := 1) hx hb dX13_lot_13 (by decide) ?_
  obtain ⟨r_2, md_3, hc_, hf⟩ := bd2_some hf
  refine call_Vi X hI (Cj.keep Cj.id) (c_X13_refused l g a_md none q_md_read md_1 (1 : Int32) r_2 md_3 hc_) ⟨rfl, rfl⟩ ⟨ht _ w_1719, w_1722, ht _ w_155, lk_X13_refused⟩ w_1721 w_65 rfl rfl rfl hl rfl rfl dX13_lot_14 rfl rfl rfl rfl (fun H locs hI => ?_)
  cases hf
  exact end_i hQ hA X hI dX13_lot_17
abbrev rm_X13_mark_N : Room := { frames := 1, cells := 0, slots := 0, locals := 21 }
set_option maxRecDepth 20000 in
theorem c_X13_mark_N (l : Launch) (g : GT) (a_md : Nat → Nat) (q_md_read : Option Nat) (md : MdS) (r_ : Int32) (o_md : MdS) (hf : f_X13_mark_N md = some (r_, o_md)) : CI l yX13_mark cX13_mark 1 (some .int) rm_X13_mark_N g [.ref (a_md 0)] (wMd g a_md none q_md_read md ++ []) (wMd g a_md none q_md_read o_md ++ []) r_ := by
  refine start2 (y := yX13_mark) (cc := cX13_mark) (n := 1) (av := [.ref (a_md 0)]) (ws := (wMd g a_md none q_md_read md ++ [])) (Qc := fun sz => QI g (wMd g a_md none q_md_read md ++ []) (wMd g a_md none q_md_read o_md ++ []) r_ sz) (by decide) rfl ?_
  intro p e s m args below meth c ls Q A ha hQ hA X hl hI hin
  have X : Cx p s m args meth c cX13_mark 1 RX13 (some .int) := X
  have hl : lv_has ls 1 [(0, .ref (a_md 0))] := hl
  obtain ⟨hx, hb, hml, hown, ht, hr, hlk⟩ := id X
  clear ha hin
  unfold f_X13_mark_N at hf
  refine lv_aload_n hx hb dX13_mark_0 rfl (lv_at hl 0 rfl) ?_
  refine lv_iconst (v := 0) hx hb dX13_mark_1 (by decide) ?_
  refine p_Md_thrown X hI up_Md_thrown.l (X.fl w_1583) dX13_mark_2 (fun H locs hI => ?_)
  generalize hz_ : (Md_thrown' md (0 : Int32)) = md_1 at hI hf
  clear hz_
  replace hf := lt_e hf
  refine lv_aload_n hx hb dX13_mark_5 rfl (lv_at hl 0 rfl) ?_
  refine g_Md_tangle_N X hI has_Md.l (X.fl w_1586) dX13_mark_6 ?_
  refine lv_ifnonnullN hx hb dX13_mark_9 ?_
  refine lv_aload_n hx hb dX13_mark_12 rfl (lv_at hl 0 rfl) ?_
  refine lv_iconst (v := 1) hx hb dX13_mark_13 (by decide) ?_
  obtain ⟨r_2, md_3, hc_, hf⟩ := bd2_some hf
  refine call_Vi X hI (Cj.keep Cj.id) (c_X13_refused l g a_md none q_md_read md_1 (1 : Int32) r_2 md_3 hc_) ⟨rfl, rfl⟩ ⟨ht _ w_1719, w_1722, ht _ w_155, lk_X13_refused⟩ w_1721 w_65 rfl rfl rfl hl rfl rfl dX13_mark_14 rfl rfl rfl rfl (fun H locs hI => ?_)
  cases hf
  exact end_i hQ hA X hI dX13_mark_17
abbrev rm_X13_may_N : Room := { frames := 1, cells := 0, slots := 0, locals := 24 }
set_option maxRecDepth 20000 in
theorem c_X13_may_N (l : Launch) (g : GT) (a_md : Nat → Nat) (q_md_read : Option Nat) (md : MdS) (p1 : Int32) (r_ : Int32) (o_md : MdS) (hf : f_X13_may_N md = some (r_, o_md)) : CI l yX13_may cX13_may 2 (some .int) rm_X13_may_N g [.ref (a_md 0), .int p1] (wMd g a_md none q_md_read md ++ []) (wMd g a_md none q_md_read o_md ++ []) r_ := by
  refine start2 (y := yX13_may) (cc := cX13_may) (n := 2) (av := [.ref (a_md 0), .int p1]) (ws := (wMd g a_md none q_md_read md ++ [])) (Qc := fun sz => QI g (wMd g a_md none q_md_read md ++ []) (wMd g a_md none q_md_read o_md ++ []) r_ sz) (by decide) rfl ?_
  intro p e s m args below meth c ls Q A ha hQ hA X hl hI hin
  have X : Cx p s m args meth c cX13_may 2 RX13 (some .int) := X
  have hl : lv_has ls 2 [(0, .ref (a_md 0)), (1, .int p1)] := hl
  obtain ⟨hx, hb, hml, hown, ht, hr, hlk⟩ := id X
  clear ha hin
  unfold f_X13_may_N at hf
  refine lv_aload_n hx hb dX13_may_0 rfl (lv_at hl 0 rfl) ?_
  refine lv_iconst (v := 0) hx hb dX13_may_1 (by decide) ?_
  refine p_Md_thrown X hI up_Md_thrown.l (X.fl w_1583) dX13_may_2 (fun H locs hI => ?_)
  generalize hz_ : (Md_thrown' md (0 : Int32)) = md_1 at hI hf
  clear hz_
  replace hf := lt_e hf
  refine lv_aload_n hx hb dX13_may_5 rfl (lv_at hl 0 rfl) ?_
  refine lv_iload_n hx hb dX13_may_6 rfl (lv_at hl 1 rfl) ?_
  obtain ⟨r_2, hc_, hf⟩ := bd1_some hf
  refine call_Vi X hI (Cj.keep Cj.id) (c_X13_isMove_N l g a_md q_md_read md_1 p1 r_2 hc_) ⟨rfl, rfl⟩ ⟨ht _ w_2107, w_2110, ht _ w_155, lk_X13_isMove⟩ w_2109 w_104 rfl rfl rfl hl rfl rfl dX13_may_7 rfl rfl rfl rfl (fun H locs hI => ?_)
  refine lv_if_ne (tgt := 19) hx hb dX13_may_10 (by decide) (fun h_ => ?_) (fun h_ => ?_)
  · replace hf := if_f h_ hf
    cases hf
  · replace hf := if_t h_ hf
    refine lv_aload_n hx hb dX13_may_13 rfl (lv_at hl 0 rfl) ?_
    refine lv_iconst (v := 1) hx hb dX13_may_14 (by decide) ?_
    obtain ⟨r_3, md_4, hc_, hf⟩ := bd2_some hf
    refine call_Vi X hI (Cj.keep Cj.id) (c_X13_refused l g a_md none q_md_read md_1 (1 : Int32) r_3 md_4 hc_) ⟨rfl, rfl⟩ ⟨ht _ w_1719, w_1722, ht _ w_155, lk_X13_refused⟩ w_1721 w_65 rfl rfl rfl hl rfl rfl dX13_may_15 rfl rfl rfl rfl (fun H locs hI => ?_)
    cases hf
    exact end_i hQ hA X hI dX13_may_18
abbrev rm_X13_member_N : Room := { frames := 1, cells := 0, slots := 0, locals := 21 }
set_option maxRecDepth 20000 in
theorem c_X13_member_N (l : Launch) (g : GT) (a_md : Nat → Nat) (q_md_read : Option Nat) (md : MdS) (p1 : Int32) (p2 : Int32) (r_ : Int32) (o_md : MdS) (hf : f_X13_member_N md = some (r_, o_md)) : CI l yX13_member cX13_member 3 (some .int) rm_X13_member_N g [.ref (a_md 0), .int p1, .int p2] (wMd g a_md none q_md_read md ++ []) (wMd g a_md none q_md_read o_md ++ []) r_ := by
  refine start2 (y := yX13_member) (cc := cX13_member) (n := 3) (av := [.ref (a_md 0), .int p1, .int p2]) (ws := (wMd g a_md none q_md_read md ++ [])) (Qc := fun sz => QI g (wMd g a_md none q_md_read md ++ []) (wMd g a_md none q_md_read o_md ++ []) r_ sz) (by decide) rfl ?_
  intro p e s m args below meth c ls Q A ha hQ hA X hl hI hin
  have X : Cx p s m args meth c cX13_member 3 RX13 (some .int) := X
  have hl : lv_has ls 3 [(0, .ref (a_md 0)), (1, .int p1), (2, .int p2)] := hl
  obtain ⟨hx, hb, hml, hown, ht, hr, hlk⟩ := id X
  clear ha hin
  have L_51 : ∀ (md : MdS) (H : Heap) (locs : List Loc) (ls : Array Slot), lv_has ls 3 [(0, .ref (a_md 0))] → In g A s.heap s (wMd g a_md none q_md_read md ++ []) H locs → f_X13_member_N_L51 md = some (r_, o_md) → W p l e rm_X13_member_N s m args below meth c H locs 0 0 Q (F0 m 51 ls []) := by
    intro md H locs ls hl hI hf
    unfold f_X13_member_N_L51 at hf
    refine lv_aload_n hx hb dX13_member_51 rfl (lv_at hl 0 rfl) ?_
    refine lv_iconst (v := 1) hx hb dX13_member_52 (by decide) ?_
    obtain ⟨r_3, md_4, hc_, hf⟩ := bd2_some hf
    refine call_Vi X hI (Cj.keep Cj.id) (c_X13_refused l g a_md none q_md_read md (1 : Int32) r_3 md_4 hc_) ⟨rfl, rfl⟩ ⟨ht _ w_1719, w_1722, ht _ w_155, lk_X13_refused⟩ w_1721 w_65 rfl rfl rfl hl rfl rfl dX13_member_53 rfl rfl rfl rfl (fun H locs hI => ?_)
    cases hf
    exact end_i hQ hA X hI dX13_member_56
  unfold f_X13_member_N at hf
  refine lv_aload_n hx hb dX13_member_0 rfl (lv_at hl 0 rfl) ?_
  refine lv_iconst (v := 0) hx hb dX13_member_1 (by decide) ?_
  refine p_Md_thrown X hI up_Md_thrown.l (X.fl w_1583) dX13_member_2 (fun H locs hI => ?_)
  generalize hz_ : (Md_thrown' md (0 : Int32)) = md_1 at hI hf
  clear hz_
  replace hf := lt_e hf
  refine lv_aload_n hx hb dX13_member_5 rfl (lv_at hl 0 rfl) ?_
  refine lv_iload_n hx hb dX13_member_6 rfl (lv_at hl 1 rfl) ?_
  obtain ⟨r_2, hc_, hf⟩ := bd1_some hf
  refine call_Vi X hI (Cj.keep Cj.id) (c_X13_isRing_N l g a_md q_md_read md_1 p1 r_2 hc_) ⟨rfl, rfl⟩ ⟨ht _ w_2022, w_2025, ht _ w_155, lk_X13_isRing⟩ w_2024 w_94 rfl rfl rfl hl rfl rfl dX13_member_7 rfl rfl rfl rfl (fun H locs hI => ?_)
  refine lv_if_eq (tgt := 51) hx hb dX13_member_10 (by decide) (fun h_ => ?_) (fun h_ => ?_)
  · replace hf := if_t h_ hf
    exact L_51 md_1 _ _ _ (lv_sub hl [0] rfl) hI hf
  · replace hf := if_f h_ hf
    cases hf
abbrev rm_X13_moveAt_N : Room := { frames := 1, cells := 0, slots := 0, locals := 21 }
set_option maxRecDepth 20000 in
theorem c_X13_moveAt_N (l : Launch) (g : GT) (a_md : Nat → Nat) (q_md_read : Option Nat) (md : MdS) (p1 : Int32) (r_ : Int32) (o_md : MdS) (hf : f_X13_moveAt_N md = some (r_, o_md)) : CI l yX13_moveAt cX13_moveAt 4 (some .int) rm_X13_moveAt_N g [.ref (a_md 0), .int p1] (wMd g a_md none q_md_read md ++ []) (wMd g a_md none q_md_read o_md ++ []) r_ := by
  refine start2 (y := yX13_moveAt) (cc := cX13_moveAt) (n := 4) (av := [.ref (a_md 0), .int p1]) (ws := (wMd g a_md none q_md_read md ++ [])) (Qc := fun sz => QI g (wMd g a_md none q_md_read md ++ []) (wMd g a_md none q_md_read o_md ++ []) r_ sz) (by decide) rfl ?_
  intro p e s m args below meth c ls Q A ha hQ hA X hl hI hin
  have X : Cx p s m args meth c cX13_moveAt 4 RX13 (some .int) := X
  have hl : lv_has ls 4 [(0, .ref (a_md 0)), (1, .int p1)] := hl
  obtain ⟨hx, hb, hml, hown, ht, hr, hlk⟩ := id X
  clear ha hin
  unfold f_X13_moveAt_N at hf
  refine lv_aload_n hx hb dX13_moveAt_0 rfl (lv_at hl 0 rfl) ?_
  refine lv_iconst (v := 0) hx hb dX13_moveAt_1 (by decide) ?_
  refine p_Md_thrown X hI up_Md_thrown.l (X.fl w_1583) dX13_moveAt_2 (fun H locs hI => ?_)
  generalize hz_ : (Md_thrown' md (0 : Int32)) = md_1 at hI hf
  clear hz_
  replace hf := lt_e hf
  refine lv_aload_n hx hb dX13_moveAt_5 rfl (lv_at hl 0 rfl) ?_
  refine g_Md_tangle_N X hI has_Md.l (X.fl w_1586) dX13_moveAt_6 ?_
  refine lv_ifnonnullN hx hb dX13_moveAt_9 ?_
  refine lv_aload_n hx hb dX13_moveAt_12 rfl (lv_at hl 0 rfl) ?_
  refine lv_iconst (v := 1) hx hb dX13_moveAt_13 (by decide) ?_
  obtain ⟨r_2, md_3, hc_, hf⟩ := bd2_some hf
  refine call_Vi X hI (Cj.keep Cj.id) (c_X13_refused l g a_md none q_md_read md_1 (1 : Int32) r_2 md_3 hc_) ⟨rfl, rfl⟩ ⟨ht _ w_1719, w_1722, ht _ w_155, lk_X13_refused⟩ w_1721 w_65 rfl rfl rfl hl rfl rfl dX13_moveAt_14 rfl rfl rfl rfl (fun H locs hI => ?_)
  cases hf
  exact end_i hQ hA X hI dX13_moveAt_17
abbrev rm_X13_move_N : Room := { frames := 1, cells := 0, slots := 0, locals := 24 }
set_option maxRecDepth 20000 in
theorem c_X13_move_N (l : Launch) (g : GT) (a_md : Nat → Nat) (q_md_read : Option Nat) (md : MdS) (p1 : Int32) (r_ : Int32) (o_md : MdS) (hf : f_X13_move_N md = some (r_, o_md)) : CI l yX13_move cX13_move 2 (some .int) rm_X13_move_N g [.ref (a_md 0), .int p1] (wMd g a_md none q_md_read md ++ []) (wMd g a_md none q_md_read o_md ++ []) r_ := by
  refine start2 (y := yX13_move) (cc := cX13_move) (n := 2) (av := [.ref (a_md 0), .int p1]) (ws := (wMd g a_md none q_md_read md ++ [])) (Qc := fun sz => QI g (wMd g a_md none q_md_read md ++ []) (wMd g a_md none q_md_read o_md ++ []) r_ sz) (by decide) rfl ?_
  intro p e s m args below meth c ls Q A ha hQ hA X hl hI hin
  have X : Cx p s m args meth c cX13_move 2 RX13 (some .int) := X
  have hl : lv_has ls 2 [(0, .ref (a_md 0)), (1, .int p1)] := hl
  obtain ⟨hx, hb, hml, hown, ht, hr, hlk⟩ := id X
  clear ha hin
  unfold f_X13_move_N at hf
  refine lv_aload_n hx hb dX13_move_0 rfl (lv_at hl 0 rfl) ?_
  refine lv_iconst (v := 0) hx hb dX13_move_1 (by decide) ?_
  refine p_Md_thrown X hI up_Md_thrown.l (X.fl w_1583) dX13_move_2 (fun H locs hI => ?_)
  generalize hz_ : (Md_thrown' md (0 : Int32)) = md_1 at hI hf
  clear hz_
  replace hf := lt_e hf
  refine lv_aload_n hx hb dX13_move_5 rfl (lv_at hl 0 rfl) ?_
  refine lv_iload_n hx hb dX13_move_6 rfl (lv_at hl 1 rfl) ?_
  obtain ⟨r_2, hc_, hf⟩ := bd1_some hf
  refine call_Vi X hI (Cj.keep Cj.id) (c_X13_isMove_N l g a_md q_md_read md_1 p1 r_2 hc_) ⟨rfl, rfl⟩ ⟨ht _ w_2107, w_2110, ht _ w_155, lk_X13_isMove⟩ w_2109 w_104 rfl rfl rfl hl rfl rfl dX13_move_7 rfl rfl rfl rfl (fun H locs hI => ?_)
  refine lv_if_ne (tgt := 19) hx hb dX13_move_10 (by decide) (fun h_ => ?_) (fun h_ => ?_)
  · replace hf := if_f h_ hf
    cases hf
  · replace hf := if_t h_ hf
    refine lv_aload_n hx hb dX13_move_13 rfl (lv_at hl 0 rfl) ?_
    refine lv_iconst (v := 1) hx hb dX13_move_14 (by decide) ?_
    obtain ⟨r_3, md_4, hc_, hf⟩ := bd2_some hf
    refine call_Vi X hI (Cj.keep Cj.id) (c_X13_refused l g a_md none q_md_read md_1 (1 : Int32) r_3 md_4 hc_) ⟨rfl, rfl⟩ ⟨ht _ w_1719, w_1722, ht _ w_155, lk_X13_refused⟩ w_1721 w_65 rfl rfl rfl hl rfl rfl dX13_move_15 rfl rfl rfl rfl (fun H locs hI => ?_)
    cases hf
    exact end_i hQ hA X hI dX13_move_18
abbrev rm_X13_moves_N : Room := { frames := 1, cells := 0, slots := 0, locals := 21 }
set_option maxRecDepth 20000 in
theorem c_X13_moves_N (l : Launch) (g : GT) (a_md : Nat → Nat) (q_md_read : Option Nat) (md : MdS) (r_ : Int32) (o_md : MdS) (hf : f_X13_moves_N md = some (r_, o_md)) : CI l yX13_moves cX13_moves 3 (some .int) rm_X13_moves_N g [.ref (a_md 0)] (wMd g a_md none q_md_read md ++ []) (wMd g a_md none q_md_read o_md ++ []) r_ := by
  refine start2 (y := yX13_moves) (cc := cX13_moves) (n := 3) (av := [.ref (a_md 0)]) (ws := (wMd g a_md none q_md_read md ++ [])) (Qc := fun sz => QI g (wMd g a_md none q_md_read md ++ []) (wMd g a_md none q_md_read o_md ++ []) r_ sz) (by decide) rfl ?_
  intro p e s m args below meth c ls Q A ha hQ hA X hl hI hin
  have X : Cx p s m args meth c cX13_moves 3 RX13 (some .int) := X
  have hl : lv_has ls 3 [(0, .ref (a_md 0))] := hl
  obtain ⟨hx, hb, hml, hown, ht, hr, hlk⟩ := id X
  clear ha hin
  unfold f_X13_moves_N at hf
  refine lv_aload_n hx hb dX13_moves_0 rfl (lv_at hl 0 rfl) ?_
  refine lv_iconst (v := 0) hx hb dX13_moves_1 (by decide) ?_
  refine p_Md_thrown X hI up_Md_thrown.l (X.fl w_1583) dX13_moves_2 (fun H locs hI => ?_)
  generalize hz_ : (Md_thrown' md (0 : Int32)) = md_1 at hI hf
  clear hz_
  replace hf := lt_e hf
  refine lv_aload_n hx hb dX13_moves_5 rfl (lv_at hl 0 rfl) ?_
  refine g_Md_tangle_N X hI has_Md.l (X.fl w_1586) dX13_moves_6 ?_
  refine lv_ifnonnullN hx hb dX13_moves_9 ?_
  refine lv_aload_n hx hb dX13_moves_12 rfl (lv_at hl 0 rfl) ?_
  refine lv_iconst (v := 1) hx hb dX13_moves_13 (by decide) ?_
  obtain ⟨r_2, md_3, hc_, hf⟩ := bd2_some hf
  refine call_Vi X hI (Cj.keep Cj.id) (c_X13_refused l g a_md none q_md_read md_1 (1 : Int32) r_2 md_3 hc_) ⟨rfl, rfl⟩ ⟨ht _ w_1719, w_1722, ht _ w_155, lk_X13_refused⟩ w_1721 w_65 rfl rfl rfl hl rfl rfl dX13_moves_14 rfl rfl rfl rfl (fun H locs hI => ?_)
  cases hf
  exact end_i hQ hA X hI dX13_moves_17
abbrev rm_X13_next_N : Room := { frames := 1, cells := 0, slots := 0, locals := 21 }
set_option maxRecDepth 20000 in
theorem c_X13_next_N (l : Launch) (g : GT) (a_md : Nat → Nat) (q_md_read : Option Nat) (md : MdS) (p1 : Int32) (r_ : Int32) (o_md : MdS) (hf : f_X13_next_N md = some (r_, o_md)) : CI l yX13_next cX13_next 4 (some .int) rm_X13_next_N g [.ref (a_md 0), .int p1] (wMd g a_md none q_md_read md ++ []) (wMd g a_md none q_md_read o_md ++ []) r_ := by
  refine start2 (y := yX13_next) (cc := cX13_next) (n := 4) (av := [.ref (a_md 0), .int p1]) (ws := (wMd g a_md none q_md_read md ++ [])) (Qc := fun sz => QI g (wMd g a_md none q_md_read md ++ []) (wMd g a_md none q_md_read o_md ++ []) r_ sz) (by decide) rfl ?_
  intro p e s m args below meth c ls Q A ha hQ hA X hl hI hin
  have X : Cx p s m args meth c cX13_next 4 RX13 (some .int) := X
  have hl : lv_has ls 4 [(0, .ref (a_md 0)), (1, .int p1)] := hl
  obtain ⟨hx, hb, hml, hown, ht, hr, hlk⟩ := id X
  clear ha hin
  unfold f_X13_next_N at hf
  refine lv_aload_n hx hb dX13_next_0 rfl (lv_at hl 0 rfl) ?_
  refine lv_iconst (v := 0) hx hb dX13_next_1 (by decide) ?_
  refine p_Md_thrown X hI up_Md_thrown.l (X.fl w_1583) dX13_next_2 (fun H locs hI => ?_)
  generalize hz_ : (Md_thrown' md (0 : Int32)) = md_1 at hI hf
  clear hz_
  replace hf := lt_e hf
  refine lv_aload_n hx hb dX13_next_5 rfl (lv_at hl 0 rfl) ?_
  refine g_Md_tangle_N X hI has_Md.l (X.fl w_1586) dX13_next_6 ?_
  refine lv_ifnonnullN hx hb dX13_next_9 ?_
  refine lv_aload_n hx hb dX13_next_12 rfl (lv_at hl 0 rfl) ?_
  refine lv_iconst (v := 1) hx hb dX13_next_13 (by decide) ?_
  obtain ⟨r_2, md_3, hc_, hf⟩ := bd2_some hf
  refine call_Vi X hI (Cj.keep Cj.id) (c_X13_refused l g a_md none q_md_read md_1 (1 : Int32) r_2 md_3 hc_) ⟨rfl, rfl⟩ ⟨ht _ w_1719, w_1722, ht _ w_155, lk_X13_refused⟩ w_1721 w_65 rfl rfl rfl hl rfl rfl dX13_next_14 rfl rfl rfl rfl (fun H locs hI => ?_)
  cases hf
  exact end_i hQ hA X hI dX13_next_17
abbrev rm_X13_own_N : Room := { frames := 1, cells := 0, slots := 0, locals := 21 }
set_option maxRecDepth 20000 in
theorem c_X13_own_N (l : Launch) (g : GT) (a_md : Nat → Nat) (q_md_read : Option Nat) (md : MdS) (p1 : Int32) (r_ : Int32) (o_md : MdS) (hf : f_X13_own_N md = some (r_, o_md)) : CI l yX13_own cX13_own 2 (some .int) rm_X13_own_N g [.ref (a_md 0), .int p1] (wMd g a_md none q_md_read md ++ []) (wMd g a_md none q_md_read o_md ++ []) r_ := by
  refine start2 (y := yX13_own) (cc := cX13_own) (n := 2) (av := [.ref (a_md 0), .int p1]) (ws := (wMd g a_md none q_md_read md ++ [])) (Qc := fun sz => QI g (wMd g a_md none q_md_read md ++ []) (wMd g a_md none q_md_read o_md ++ []) r_ sz) (by decide) rfl ?_
  intro p e s m args below meth c ls Q A ha hQ hA X hl hI hin
  have X : Cx p s m args meth c cX13_own 2 RX13 (some .int) := X
  have hl : lv_has ls 2 [(0, .ref (a_md 0)), (1, .int p1)] := hl
  obtain ⟨hx, hb, hml, hown, ht, hr, hlk⟩ := id X
  clear ha hin
  unfold f_X13_own_N at hf
  refine lv_aload_n hx hb dX13_own_0 rfl (lv_at hl 0 rfl) ?_
  refine lv_iconst (v := 0) hx hb dX13_own_1 (by decide) ?_
  refine p_Md_thrown X hI up_Md_thrown.l (X.fl w_1583) dX13_own_2 (fun H locs hI => ?_)
  generalize hz_ : (Md_thrown' md (0 : Int32)) = md_1 at hI hf
  clear hz_
  replace hf := lt_e hf
  refine lv_aload_n hx hb dX13_own_5 rfl (lv_at hl 0 rfl) ?_
  refine lv_iload_n hx hb dX13_own_6 rfl (lv_at hl 1 rfl) ?_
  obtain ⟨r_2, hc_, hf⟩ := bd1_some hf
  refine call_Vi X hI (Cj.keep Cj.id) (c_X13_isPerson_N l g a_md q_md_read md_1 p1 r_2 hc_) ⟨rfl, rfl⟩ ⟨ht _ w_2014, w_2017, ht _ w_155, lk_X13_isPerson⟩ w_2016 w_93 rfl rfl rfl hl rfl rfl dX13_own_7 rfl rfl rfl rfl (fun H locs hI => ?_)
  refine lv_if_eq (tgt := 29) hx hb dX13_own_10 (by decide) (fun h_ => ?_) (fun h_ => ?_)
  · replace hf := if_t h_ hf
    refine lv_aload_n hx hb dX13_own_29 rfl (lv_at hl 0 rfl) ?_
    refine lv_iconst (v := 1) hx hb dX13_own_30 (by decide) ?_
    obtain ⟨r_3, md_4, hc_, hf⟩ := bd2_some hf
    refine call_Vi X hI (Cj.keep Cj.id) (c_X13_refused l g a_md none q_md_read md_1 (1 : Int32) r_3 md_4 hc_) ⟨rfl, rfl⟩ ⟨ht _ w_1719, w_1722, ht _ w_155, lk_X13_refused⟩ w_1721 w_65 rfl rfl rfl hl rfl rfl dX13_own_31 rfl rfl rfl rfl (fun H locs hI => ?_)
    cases hf
    exact end_i hQ hA X hI dX13_own_34
  · replace hf := if_f h_ hf
    cases hf
abbrev rm_X13_part_N : Room := { frames := 1, cells := 0, slots := 0, locals := 21 }
set_option maxRecDepth 20000 in
theorem c_X13_part_N (l : Launch) (g : GT) (a_md : Nat → Nat) (q_md_read : Option Nat) (md : MdS) (p1 : Int32) (r_ : Int32) (o_md : MdS) (hf : f_X13_part_N md = some (r_, o_md)) : CI l yX13_part cX13_part 9 (some .int) rm_X13_part_N g [.ref (a_md 0), .int p1] (wMd g a_md none q_md_read md ++ []) (wMd g a_md none q_md_read o_md ++ []) r_ := by
  refine start2 (y := yX13_part) (cc := cX13_part) (n := 9) (av := [.ref (a_md 0), .int p1]) (ws := (wMd g a_md none q_md_read md ++ [])) (Qc := fun sz => QI g (wMd g a_md none q_md_read md ++ []) (wMd g a_md none q_md_read o_md ++ []) r_ sz) (by decide) rfl ?_
  intro p e s m args below meth c ls Q A ha hQ hA X hl hI hin
  have X : Cx p s m args meth c cX13_part 9 RX13 (some .int) := X
  have hl : lv_has ls 9 [(0, .ref (a_md 0)), (1, .int p1)] := hl
  obtain ⟨hx, hb, hml, hown, ht, hr, hlk⟩ := id X
  clear ha hin
  unfold f_X13_part_N at hf
  refine lv_aload_n hx hb dX13_part_0 rfl (lv_at hl 0 rfl) ?_
  refine lv_iconst (v := 0) hx hb dX13_part_1 (by decide) ?_
  refine p_Md_thrown X hI up_Md_thrown.l (X.fl w_1583) dX13_part_2 (fun H locs hI => ?_)
  generalize hz_ : (Md_thrown' md (0 : Int32)) = md_1 at hI hf
  clear hz_
  replace hf := lt_e hf
  refine lv_aload_n hx hb dX13_part_5 rfl (lv_at hl 0 rfl) ?_
  refine g_Md_tangle_N X hI has_Md.l (X.fl w_1586) dX13_part_6 ?_
  refine lv_ifnonnullN hx hb dX13_part_9 ?_
  refine lv_aload_n hx hb dX13_part_12 rfl (lv_at hl 0 rfl) ?_
  refine lv_iconst (v := 1) hx hb dX13_part_13 (by decide) ?_
  obtain ⟨r_2, md_3, hc_, hf⟩ := bd2_some hf
  refine call_Vi X hI (Cj.keep Cj.id) (c_X13_refused l g a_md none q_md_read md_1 (1 : Int32) r_2 md_3 hc_) ⟨rfl, rfl⟩ ⟨ht _ w_1719, w_1722, ht _ w_155, lk_X13_refused⟩ w_1721 w_65 rfl rfl rfl hl rfl rfl dX13_part_14 rfl rfl rfl rfl (fun H locs hI => ?_)
  cases hf
  exact end_i hQ hA X hI dX13_part_17
abbrev rm_X13_parts_N : Room := { frames := 1, cells := 0, slots := 0, locals := 21 }
set_option maxRecDepth 20000 in
theorem c_X13_parts_N (l : Launch) (g : GT) (a_md : Nat → Nat) (q_md_read : Option Nat) (md : MdS) (p1 : Int32) (r_ : Int32) (o_md : MdS) (hf : f_X13_parts_N md = some (r_, o_md)) : CI l yX13_parts cX13_parts 3 (some .int) rm_X13_parts_N g [.ref (a_md 0), .int p1] (wMd g a_md none q_md_read md ++ []) (wMd g a_md none q_md_read o_md ++ []) r_ := by
  refine start2 (y := yX13_parts) (cc := cX13_parts) (n := 3) (av := [.ref (a_md 0), .int p1]) (ws := (wMd g a_md none q_md_read md ++ [])) (Qc := fun sz => QI g (wMd g a_md none q_md_read md ++ []) (wMd g a_md none q_md_read o_md ++ []) r_ sz) (by decide) rfl ?_
  intro p e s m args below meth c ls Q A ha hQ hA X hl hI hin
  have X : Cx p s m args meth c cX13_parts 3 RX13 (some .int) := X
  have hl : lv_has ls 3 [(0, .ref (a_md 0)), (1, .int p1)] := hl
  obtain ⟨hx, hb, hml, hown, ht, hr, hlk⟩ := id X
  clear ha hin
  unfold f_X13_parts_N at hf
  refine lv_aload_n hx hb dX13_parts_0 rfl (lv_at hl 0 rfl) ?_
  refine lv_iconst (v := 0) hx hb dX13_parts_1 (by decide) ?_
  refine p_Md_thrown X hI up_Md_thrown.l (X.fl w_1583) dX13_parts_2 (fun H locs hI => ?_)
  generalize hz_ : (Md_thrown' md (0 : Int32)) = md_1 at hI hf
  clear hz_
  replace hf := lt_e hf
  refine lv_aload_n hx hb dX13_parts_5 rfl (lv_at hl 0 rfl) ?_
  refine lv_iload_n hx hb dX13_parts_6 rfl (lv_at hl 1 rfl) ?_
  obtain ⟨r_2, hc_, hf⟩ := bd1_some hf
  refine call_Vi X hI (Cj.keep Cj.id) (c_X13_isLink_N l g a_md q_md_read md_1 p1 r_2 hc_) ⟨rfl, rfl⟩ ⟨ht _ w_2039, w_2042, ht _ w_155, lk_X13_isLink⟩ w_2041 w_95 rfl rfl rfl hl rfl rfl dX13_parts_7 rfl rfl rfl rfl (fun H locs hI => ?_)
  refine lv_if_ne (tgt := 19) hx hb dX13_parts_10 (by decide) (fun h_ => ?_) (fun h_ => ?_)
  · replace hf := if_f h_ hf
    cases hf
  · replace hf := if_t h_ hf
    refine lv_aload_n hx hb dX13_parts_13 rfl (lv_at hl 0 rfl) ?_
    refine lv_iconst (v := 1) hx hb dX13_parts_14 (by decide) ?_
    obtain ⟨r_3, md_4, hc_, hf⟩ := bd2_some hf
    refine call_Vi X hI (Cj.keep Cj.id) (c_X13_refused l g a_md none q_md_read md_1 (1 : Int32) r_3 md_4 hc_) ⟨rfl, rfl⟩ ⟨ht _ w_1719, w_1722, ht _ w_155, lk_X13_refused⟩ w_1721 w_65 rfl rfl rfl hl rfl rfl dX13_parts_15 rfl rfl rfl rfl (fun H locs hI => ?_)
    cases hf
    exact end_i hQ hA X hI dX13_parts_18
abbrev rm_X13_people_N : Room := { frames := 1, cells := 0, slots := 0, locals := 21 }
set_option maxRecDepth 20000 in
theorem c_X13_people_N (l : Launch) (g : GT) (a_md : Nat → Nat) (q_md_read : Option Nat) (md : MdS) (p1 : Int32) (r_ : Int32) (o_md : MdS) (hf : f_X13_people_N md = some (r_, o_md)) : CI l yX13_people cX13_people 2 (some .int) rm_X13_people_N g [.ref (a_md 0), .int p1] (wMd g a_md none q_md_read md ++ []) (wMd g a_md none q_md_read o_md ++ []) r_ := by
  refine start2 (y := yX13_people) (cc := cX13_people) (n := 2) (av := [.ref (a_md 0), .int p1]) (ws := (wMd g a_md none q_md_read md ++ [])) (Qc := fun sz => QI g (wMd g a_md none q_md_read md ++ []) (wMd g a_md none q_md_read o_md ++ []) r_ sz) (by decide) rfl ?_
  intro p e s m args below meth c ls Q A ha hQ hA X hl hI hin
  have X : Cx p s m args meth c cX13_people 2 RX13 (some .int) := X
  have hl : lv_has ls 2 [(0, .ref (a_md 0)), (1, .int p1)] := hl
  obtain ⟨hx, hb, hml, hown, ht, hr, hlk⟩ := id X
  clear ha hin
  unfold f_X13_people_N at hf
  refine lv_aload_n hx hb dX13_people_0 rfl (lv_at hl 0 rfl) ?_
  refine lv_iconst (v := 0) hx hb dX13_people_1 (by decide) ?_
  refine p_Md_thrown X hI up_Md_thrown.l (X.fl w_1583) dX13_people_2 (fun H locs hI => ?_)
  generalize hz_ : (Md_thrown' md (0 : Int32)) = md_1 at hI hf
  clear hz_
  replace hf := lt_e hf
  refine lv_aload_n hx hb dX13_people_5 rfl (lv_at hl 0 rfl) ?_
  refine lv_iload_n hx hb dX13_people_6 rfl (lv_at hl 1 rfl) ?_
  obtain ⟨r_2, hc_, hf⟩ := bd1_some hf
  refine call_Vi X hI (Cj.keep Cj.id) (c_X13_isRing_N l g a_md q_md_read md_1 p1 r_2 hc_) ⟨rfl, rfl⟩ ⟨ht _ w_2022, w_2025, ht _ w_155, lk_X13_isRing⟩ w_2024 w_94 rfl rfl rfl hl rfl rfl dX13_people_7 rfl rfl rfl rfl (fun H locs hI => ?_)
  refine lv_if_eq (tgt := 29) hx hb dX13_people_10 (by decide) (fun h_ => ?_) (fun h_ => ?_)
  · replace hf := if_t h_ hf
    refine lv_aload_n hx hb dX13_people_29 rfl (lv_at hl 0 rfl) ?_
    refine lv_iconst (v := 1) hx hb dX13_people_30 (by decide) ?_
    obtain ⟨r_3, md_4, hc_, hf⟩ := bd2_some hf
    refine call_Vi X hI (Cj.keep Cj.id) (c_X13_refused l g a_md none q_md_read md_1 (1 : Int32) r_3 md_4 hc_) ⟨rfl, rfl⟩ ⟨ht _ w_1719, w_1722, ht _ w_155, lk_X13_refused⟩ w_1721 w_65 rfl rfl rfl hl rfl rfl dX13_people_31 rfl rfl rfl rfl (fun H locs hI => ?_)
    cases hf
    exact end_i hQ hA X hI dX13_people_34
  · replace hf := if_f h_ hf
    cases hf
abbrev rm_X13_place_N : Room := { frames := 1, cells := 0, slots := 0, locals := 21 }
set_option maxRecDepth 20000 in
theorem c_X13_place_N (l : Launch) (g : GT) (a_md : Nat → Nat) (q_md_read : Option Nat) (md : MdS) (p1 : Int32) (p2 : Int32) (r_ : Int32) (o_md : MdS) (hf : f_X13_place_N md = some (r_, o_md)) : CI l yX13_place cX13_place 3 (some .int) rm_X13_place_N g [.ref (a_md 0), .int p1, .int p2] (wMd g a_md none q_md_read md ++ []) (wMd g a_md none q_md_read o_md ++ []) r_ := by
  refine start2 (y := yX13_place) (cc := cX13_place) (n := 3) (av := [.ref (a_md 0), .int p1, .int p2]) (ws := (wMd g a_md none q_md_read md ++ [])) (Qc := fun sz => QI g (wMd g a_md none q_md_read md ++ []) (wMd g a_md none q_md_read o_md ++ []) r_ sz) (by decide) rfl ?_
  intro p e s m args below meth c ls Q A ha hQ hA X hl hI hin
  have X : Cx p s m args meth c cX13_place 3 RX13 (some .int) := X
  have hl : lv_has ls 3 [(0, .ref (a_md 0)), (1, .int p1), (2, .int p2)] := hl
  obtain ⟨hx, hb, hml, hown, ht, hr, hlk⟩ := id X
  clear ha hin
  have L_22 : ∀ (md : MdS) (H : Heap) (locs : List Loc) (ls : Array Slot), lv_has ls 3 [(0, .ref (a_md 0))] → In g A s.heap s (wMd g a_md none q_md_read md ++ []) H locs → f_X13_place_N_L22 md = some (r_, o_md) → W p l e rm_X13_place_N s m args below meth c H locs 0 0 Q (F0 m 22 ls []) := by
    intro md H locs ls hl hI hf
    unfold f_X13_place_N_L22 at hf
    refine lv_aload_n hx hb dX13_place_22 rfl (lv_at hl 0 rfl) ?_
    refine lv_iconst (v := 1) hx hb dX13_place_23 (by decide) ?_
    obtain ⟨r_3, md_4, hc_, hf⟩ := bd2_some hf
    refine call_Vi X hI (Cj.keep Cj.id) (c_X13_refused l g a_md none q_md_read md (1 : Int32) r_3 md_4 hc_) ⟨rfl, rfl⟩ ⟨ht _ w_1719, w_1722, ht _ w_155, lk_X13_refused⟩ w_1721 w_65 rfl rfl rfl hl rfl rfl dX13_place_24 rfl rfl rfl rfl (fun H locs hI => ?_)
    cases hf
    exact end_i hQ hA X hI dX13_place_27
  unfold f_X13_place_N at hf
  refine lv_aload_n hx hb dX13_place_0 rfl (lv_at hl 0 rfl) ?_
  refine lv_iconst (v := 0) hx hb dX13_place_1 (by decide) ?_
  refine p_Md_thrown X hI up_Md_thrown.l (X.fl w_1583) dX13_place_2 (fun H locs hI => ?_)
  generalize hz_ : (Md_thrown' md (0 : Int32)) = md_1 at hI hf
  clear hz_
  replace hf := lt_e hf
  refine lv_aload_n hx hb dX13_place_5 rfl (lv_at hl 0 rfl) ?_
  refine lv_iload_n hx hb dX13_place_6 rfl (lv_at hl 1 rfl) ?_
  obtain ⟨r_2, hc_, hf⟩ := bd1_some hf
  refine call_Vi X hI (Cj.keep Cj.id) (c_X13_isStanding_N l g a_md q_md_read md_1 p1 r_2 hc_) ⟨rfl, rfl⟩ ⟨ht _ w_2047, w_2050, ht _ w_155, lk_X13_isStanding⟩ w_2049 w_96 rfl rfl rfl hl rfl rfl dX13_place_7 rfl rfl rfl rfl (fun H locs hI => ?_)
  refine lv_if_eq (tgt := 22) hx hb dX13_place_10 (by decide) (fun h_ => ?_) (fun h_ => ?_)
  · replace hf := if_t h_ hf
    exact L_22 md_1 _ _ _ (lv_sub hl [0] rfl) hI hf
  · replace hf := if_f h_ hf
    cases hf
abbrev rm_X13_reached_N : Room := { frames := 1, cells := 0, slots := 0, locals := 21 }
set_option maxRecDepth 20000 in
theorem c_X13_reached_N (l : Launch) (g : GT) (a_md : Nat → Nat) (q_md_read : Option Nat) (md : MdS) (p1 : Int32) (r_ : Int32) (o_md : MdS) (hf : f_X13_reached_N md = some (r_, o_md)) : CI l yX13_reached cX13_reached 2 (some .int) rm_X13_reached_N g [.ref (a_md 0), .int p1] (wMd g a_md none q_md_read md ++ []) (wMd g a_md none q_md_read o_md ++ []) r_ := by
  refine start2 (y := yX13_reached) (cc := cX13_reached) (n := 2) (av := [.ref (a_md 0), .int p1]) (ws := (wMd g a_md none q_md_read md ++ [])) (Qc := fun sz => QI g (wMd g a_md none q_md_read md ++ []) (wMd g a_md none q_md_read o_md ++ []) r_ sz) (by decide) rfl ?_
  intro p e s m args below meth c ls Q A ha hQ hA X hl hI hin
  have X : Cx p s m args meth c cX13_reached 2 RX13 (some .int) := X
  have hl : lv_has ls 2 [(0, .ref (a_md 0)), (1, .int p1)] := hl
  obtain ⟨hx, hb, hml, hown, ht, hr, hlk⟩ := id X
  clear ha hin
  unfold f_X13_reached_N at hf
  refine lv_aload_n hx hb dX13_reached_0 rfl (lv_at hl 0 rfl) ?_
  refine lv_iconst (v := 0) hx hb dX13_reached_1 (by decide) ?_
  refine p_Md_thrown X hI up_Md_thrown.l (X.fl w_1583) dX13_reached_2 (fun H locs hI => ?_)
  generalize hz_ : (Md_thrown' md (0 : Int32)) = md_1 at hI hf
  clear hz_
  replace hf := lt_e hf
  refine lv_aload_n hx hb dX13_reached_5 rfl (lv_at hl 0 rfl) ?_
  refine g_Md_tangle_N X hI has_Md.l (X.fl w_1586) dX13_reached_6 ?_
  refine lv_ifnonnullN hx hb dX13_reached_9 ?_
  refine lv_aload_n hx hb dX13_reached_12 rfl (lv_at hl 0 rfl) ?_
  refine lv_iconst (v := 1) hx hb dX13_reached_13 (by decide) ?_
  obtain ⟨r_2, md_3, hc_, hf⟩ := bd2_some hf
  refine call_Vi X hI (Cj.keep Cj.id) (c_X13_refused l g a_md none q_md_read md_1 (1 : Int32) r_2 md_3 hc_) ⟨rfl, rfl⟩ ⟨ht _ w_1719, w_1722, ht _ w_155, lk_X13_refused⟩ w_1721 w_65 rfl rfl rfl hl rfl rfl dX13_reached_14 rfl rfl rfl rfl (fun H locs hI => ?_)
  cases hf
  exact end_i hQ hA X hI dX13_reached_17
abbrev rm_X13_ring_N : Room := { frames := 1, cells := 0, slots := 0, locals := 21 }
set_option maxRecDepth 20000 in
theorem c_X13_ring_N (l : Launch) (g : GT) (a_md : Nat → Nat) (q_md_read : Option Nat) (md : MdS) (p1 : Int32) (r_ : Int32) (o_md : MdS) (hf : f_X13_ring_N md = some (r_, o_md)) : CI l yX13_ring cX13_ring 2 (some .int) rm_X13_ring_N g [.ref (a_md 0), .int p1] (wMd g a_md none q_md_read md ++ []) (wMd g a_md none q_md_read o_md ++ []) r_ := by
  refine start2 (y := yX13_ring) (cc := cX13_ring) (n := 2) (av := [.ref (a_md 0), .int p1]) (ws := (wMd g a_md none q_md_read md ++ [])) (Qc := fun sz => QI g (wMd g a_md none q_md_read md ++ []) (wMd g a_md none q_md_read o_md ++ []) r_ sz) (by decide) rfl ?_
  intro p e s m args below meth c ls Q A ha hQ hA X hl hI hin
  have X : Cx p s m args meth c cX13_ring 2 RX13 (some .int) := X
  have hl : lv_has ls 2 [(0, .ref (a_md 0)), (1, .int p1)] := hl
  obtain ⟨hx, hb, hml, hown, ht, hr, hlk⟩ := id X
  clear ha hin
  unfold f_X13_ring_N at hf
  refine lv_aload_n hx hb dX13_ring_0 rfl (lv_at hl 0 rfl) ?_
  refine lv_iconst (v := 0) hx hb dX13_ring_1 (by decide) ?_
  refine p_Md_thrown X hI up_Md_thrown.l (X.fl w_1583) dX13_ring_2 (fun H locs hI => ?_)
  generalize hz_ : (Md_thrown' md (0 : Int32)) = md_1 at hI hf
  clear hz_
  replace hf := lt_e hf
  refine lv_aload_n hx hb dX13_ring_5 rfl (lv_at hl 0 rfl) ?_
  refine lv_iload_n hx hb dX13_ring_6 rfl (lv_at hl 1 rfl) ?_
  obtain ⟨r_2, hc_, hf⟩ := bd1_some hf
  refine call_Vi X hI (Cj.keep Cj.id) (c_X13_isPerson_N l g a_md q_md_read md_1 p1 r_2 hc_) ⟨rfl, rfl⟩ ⟨ht _ w_2014, w_2017, ht _ w_155, lk_X13_isPerson⟩ w_2016 w_93 rfl rfl rfl hl rfl rfl dX13_ring_7 rfl rfl rfl rfl (fun H locs hI => ?_)
  refine lv_if_eq (tgt := 29) hx hb dX13_ring_10 (by decide) (fun h_ => ?_) (fun h_ => ?_)
  · replace hf := if_t h_ hf
    refine lv_aload_n hx hb dX13_ring_29 rfl (lv_at hl 0 rfl) ?_
    refine lv_iconst (v := 1) hx hb dX13_ring_30 (by decide) ?_
    obtain ⟨r_3, md_4, hc_, hf⟩ := bd2_some hf
    refine call_Vi X hI (Cj.keep Cj.id) (c_X13_refused l g a_md none q_md_read md_1 (1 : Int32) r_3 md_4 hc_) ⟨rfl, rfl⟩ ⟨ht _ w_1719, w_1722, ht _ w_155, lk_X13_refused⟩ w_1721 w_65 rfl rfl rfl hl rfl rfl dX13_ring_31 rfl rfl rfl rfl (fun H locs hI => ?_)
    cases hf
    exact end_i hQ hA X hI dX13_ring_34
  · replace hf := if_f h_ hf
    cases hf
abbrev rm_X13_rounds_N : Room := { frames := 1, cells := 0, slots := 0, locals := 21 }
set_option maxRecDepth 20000 in
theorem c_X13_rounds_N (l : Launch) (g : GT) (a_md : Nat → Nat) (q_md_read : Option Nat) (md : MdS) (p1 : Int32) (r_ : Int32) (o_md : MdS) (hf : f_X13_rounds_N md = some (r_, o_md)) : CI l yX13_rounds cX13_rounds 7 (some .int) rm_X13_rounds_N g [.ref (a_md 0), .int p1] (wMd g a_md none q_md_read md ++ []) (wMd g a_md none q_md_read o_md ++ []) r_ := by
  refine start2 (y := yX13_rounds) (cc := cX13_rounds) (n := 7) (av := [.ref (a_md 0), .int p1]) (ws := (wMd g a_md none q_md_read md ++ [])) (Qc := fun sz => QI g (wMd g a_md none q_md_read md ++ []) (wMd g a_md none q_md_read o_md ++ []) r_ sz) (by decide) rfl ?_
  intro p e s m args below meth c ls Q A ha hQ hA X hl hI hin
  have X : Cx p s m args meth c cX13_rounds 7 RX13 (some .int) := X
  have hl : lv_has ls 7 [(0, .ref (a_md 0)), (1, .int p1)] := hl
  obtain ⟨hx, hb, hml, hown, ht, hr, hlk⟩ := id X
  clear ha hin
  unfold f_X13_rounds_N at hf
  refine lv_aload_n hx hb dX13_rounds_0 rfl (lv_at hl 0 rfl) ?_
  refine lv_iconst (v := 0) hx hb dX13_rounds_1 (by decide) ?_
  refine p_Md_thrown X hI up_Md_thrown.l (X.fl w_1583) dX13_rounds_2 (fun H locs hI => ?_)
  generalize hz_ : (Md_thrown' md (0 : Int32)) = md_1 at hI hf
  clear hz_
  replace hf := lt_e hf
  refine lv_aload_n hx hb dX13_rounds_5 rfl (lv_at hl 0 rfl) ?_
  refine g_Md_tangle_N X hI has_Md.l (X.fl w_1586) dX13_rounds_6 ?_
  refine lv_ifnonnullN hx hb dX13_rounds_9 ?_
  refine lv_aload_n hx hb dX13_rounds_12 rfl (lv_at hl 0 rfl) ?_
  refine lv_iconst (v := 1) hx hb dX13_rounds_13 (by decide) ?_
  obtain ⟨r_2, md_3, hc_, hf⟩ := bd2_some hf
  refine call_Vi X hI (Cj.keep Cj.id) (c_X13_refused l g a_md none q_md_read md_1 (1 : Int32) r_2 md_3 hc_) ⟨rfl, rfl⟩ ⟨ht _ w_1719, w_1722, ht _ w_155, lk_X13_refused⟩ w_1721 w_65 rfl rfl rfl hl rfl rfl dX13_rounds_14 rfl rfl rfl rfl (fun H locs hI => ?_)
  cases hf
  exact end_i hQ hA X hI dX13_rounds_17
abbrev rm_X13_seed_N : Room := { frames := 2, cells := 0, slots := 0, locals := 42 }
set_option maxRecDepth 20000 in
theorem c_X13_seed_N (l : Launch) (g : GT) (a_md : Nat → Nat) (q_md_read : Option Nat) (md : MdS) (p1 : Int32) (r_ : Int32) (o_md : MdS) (hf : f_X13_seed_N md = some (r_, o_md)) : CI l yX13_seed cX13_seed 2 (some .boolean) rm_X13_seed_N g [.ref (a_md 0), .int p1] (wMd g a_md none q_md_read md ++ []) (wMd g a_md none q_md_read o_md ++ []) r_ := by
  refine start2 (y := yX13_seed) (cc := cX13_seed) (n := 2) (av := [.ref (a_md 0), .int p1]) (ws := (wMd g a_md none q_md_read md ++ [])) (Qc := fun sz => QI g (wMd g a_md none q_md_read md ++ []) (wMd g a_md none q_md_read o_md ++ []) r_ sz) (by decide) rfl ?_
  intro p e s m args below meth c ls Q A ha hQ hA X hl hI hin
  have X : Cx p s m args meth c cX13_seed 2 RX13 (some .boolean) := X
  have hl : lv_has ls 2 [(0, .ref (a_md 0)), (1, .int p1)] := hl
  obtain ⟨hx, hb, hml, hown, ht, hr, hlk⟩ := id X
  clear ha hin
  unfold f_X13_seed_N at hf
  refine lv_aload_n hx hb dX13_seed_0 rfl (lv_at hl 0 rfl) ?_
  refine lv_iconst (v := 0) hx hb dX13_seed_1 (by decide) ?_
  refine p_Md_thrown X hI up_Md_thrown.l (X.fl w_1583) dX13_seed_2 (fun H locs hI => ?_)
  generalize hz_ : (Md_thrown' md (0 : Int32)) = md_1 at hI hf
  clear hz_
  replace hf := lt_e hf
  refine lv_aload_n hx hb dX13_seed_5 rfl (lv_at hl 0 rfl) ?_
  refine g_Md_tangle_N X hI has_Md.l (X.fl w_1586) dX13_seed_6 ?_
  refine lv_ifnonnullN hx hb dX13_seed_9 ?_
  refine lv_aload_n hx hb dX13_seed_12 rfl (lv_at hl 0 rfl) ?_
  refine lv_iconst (v := 1) hx hb dX13_seed_13 (by decide) ?_
  obtain ⟨r_2, md_3, hc_, hf⟩ := bd2_some hf
  refine call_Vi X hI (Cj.keep Cj.id) (c_X13_denied l g a_md none q_md_read md_1 (1 : Int32) r_2 md_3 hc_) ⟨rfl, rfl⟩ ⟨ht _ w_2370, w_2373, ht _ w_155, lk_X13_denied⟩ w_2372 w_136 rfl rfl rfl hl rfl rfl dX13_seed_14 rfl rfl rfl rfl (fun H locs hI => ?_)
  obtain ⟨hzb_, hf⟩ := zb_some hf
  cases hf
  exact end_z hQ hA X hI (zb_n hzb_) dX13_seed_17
abbrev rm_X13_sees_N : Room := { frames := 1, cells := 0, slots := 0, locals := 21 }
set_option maxRecDepth 20000 in
theorem c_X13_sees_N (l : Launch) (g : GT) (a_md : Nat → Nat) (q_md_read : Option Nat) (md : MdS) (p1 : Int32) (r_ : Int32) (o_md : MdS) (hf : f_X13_sees_N md = some (r_, o_md)) : CI l yX13_sees cX13_sees 2 (some .int) rm_X13_sees_N g [.ref (a_md 0), .int p1] (wMd g a_md none q_md_read md ++ []) (wMd g a_md none q_md_read o_md ++ []) r_ := by
  refine start2 (y := yX13_sees) (cc := cX13_sees) (n := 2) (av := [.ref (a_md 0), .int p1]) (ws := (wMd g a_md none q_md_read md ++ [])) (Qc := fun sz => QI g (wMd g a_md none q_md_read md ++ []) (wMd g a_md none q_md_read o_md ++ []) r_ sz) (by decide) rfl ?_
  intro p e s m args below meth c ls Q A ha hQ hA X hl hI hin
  have X : Cx p s m args meth c cX13_sees 2 RX13 (some .int) := X
  have hl : lv_has ls 2 [(0, .ref (a_md 0)), (1, .int p1)] := hl
  obtain ⟨hx, hb, hml, hown, ht, hr, hlk⟩ := id X
  clear ha hin
  unfold f_X13_sees_N at hf
  refine lv_aload_n hx hb dX13_sees_0 rfl (lv_at hl 0 rfl) ?_
  refine lv_iconst (v := 0) hx hb dX13_sees_1 (by decide) ?_
  refine p_Md_thrown X hI up_Md_thrown.l (X.fl w_1583) dX13_sees_2 (fun H locs hI => ?_)
  generalize hz_ : (Md_thrown' md (0 : Int32)) = md_1 at hI hf
  clear hz_
  replace hf := lt_e hf
  refine lv_aload_n hx hb dX13_sees_5 rfl (lv_at hl 0 rfl) ?_
  refine lv_iload_n hx hb dX13_sees_6 rfl (lv_at hl 1 rfl) ?_
  obtain ⟨r_2, hc_, hf⟩ := bd1_some hf
  refine call_Vi X hI (Cj.keep Cj.id) (c_X13_isPerson_N l g a_md q_md_read md_1 p1 r_2 hc_) ⟨rfl, rfl⟩ ⟨ht _ w_2014, w_2017, ht _ w_155, lk_X13_isPerson⟩ w_2016 w_93 rfl rfl rfl hl rfl rfl dX13_sees_7 rfl rfl rfl rfl (fun H locs hI => ?_)
  refine lv_if_eq (tgt := 29) hx hb dX13_sees_10 (by decide) (fun h_ => ?_) (fun h_ => ?_)
  · replace hf := if_t h_ hf
    refine lv_aload_n hx hb dX13_sees_29 rfl (lv_at hl 0 rfl) ?_
    refine lv_iconst (v := 1) hx hb dX13_sees_30 (by decide) ?_
    obtain ⟨r_3, md_4, hc_, hf⟩ := bd2_some hf
    refine call_Vi X hI (Cj.keep Cj.id) (c_X13_refused l g a_md none q_md_read md_1 (1 : Int32) r_3 md_4 hc_) ⟨rfl, rfl⟩ ⟨ht _ w_1719, w_1722, ht _ w_155, lk_X13_refused⟩ w_1721 w_65 rfl rfl rfl hl rfl rfl dX13_sees_31 rfl rfl rfl rfl (fun H locs hI => ?_)
    cases hf
    exact end_i hQ hA X hI dX13_sees_34
  · replace hf := if_f h_ hf
    cases hf
abbrev rm_X13_sign_N : Room := { frames := 2, cells := 0, slots := 0, locals := 42 }
set_option maxRecDepth 20000 in
theorem c_X13_sign_N (l : Launch) (g : GT) (a_md : Nat → Nat) (q_md_read : Option Nat) (md : MdS) (p1 : Int32) (r_ : Int32) (o_md : MdS) (hf : f_X13_sign_N md = some (r_, o_md)) : CI l yX13_sign cX13_sign 2 (some .int) rm_X13_sign_N g [.ref (a_md 0), .int p1] (wMd g a_md none q_md_read md ++ []) (wMd g a_md none q_md_read o_md ++ []) r_ := by
  refine start2 (y := yX13_sign) (cc := cX13_sign) (n := 2) (av := [.ref (a_md 0), .int p1]) (ws := (wMd g a_md none q_md_read md ++ [])) (Qc := fun sz => QI g (wMd g a_md none q_md_read md ++ []) (wMd g a_md none q_md_read o_md ++ []) r_ sz) (by decide) rfl ?_
  intro p e s m args below meth c ls Q A ha hQ hA X hl hI hin
  have X : Cx p s m args meth c cX13_sign 2 RX13 (some .int) := X
  have hl : lv_has ls 2 [(0, .ref (a_md 0)), (1, .int p1)] := hl
  obtain ⟨hx, hb, hml, hown, ht, hr, hlk⟩ := id X
  clear ha hin
  have L_27 : ∀ (md : MdS) (H : Heap) (locs : List Loc) (ls : Array Slot), lv_has ls 2 [(0, .ref (a_md 0))] → In g A s.heap s (wMd g a_md none q_md_read md ++ []) H locs → f_X13_sign_N_L27 md = some (r_, o_md) → W p l e rm_X13_sign_N s m args below meth c H locs 0 0 Q (F0 m 27 ls []) := by
    intro md H locs ls hl hI hf
    unfold f_X13_sign_N_L27 at hf
    refine lv_aload_n hx hb dX13_sign_27 rfl (lv_at hl 0 rfl) ?_
    refine lv_iconst (v := 1) hx hb dX13_sign_28 (by decide) ?_
    obtain ⟨r_2, md_3, hc_, hf⟩ := bd2_some hf
    refine call_Vi X hI (Cj.keep Cj.id) (c_X13_lost l g a_md none q_md_read md (1 : Int32) r_2 md_3 hc_) ⟨rfl, rfl⟩ ⟨ht _ w_2063, w_2066, ht _ w_155, lk_X13_lost⟩ w_2065 w_97 rfl rfl rfl hl rfl rfl dX13_sign_29 rfl rfl rfl rfl (fun H locs hI => ?_)
    cases hf
    exact end_i hQ hA X hI dX13_sign_32
  unfold f_X13_sign_N at hf
  refine lv_aload_n hx hb dX13_sign_0 rfl (lv_at hl 0 rfl) ?_
  refine lv_iconst (v := 0) hx hb dX13_sign_1 (by decide) ?_
  refine p_Md_thrown X hI up_Md_thrown.l (X.fl w_1583) dX13_sign_2 (fun H locs hI => ?_)
  generalize hz_ : (Md_thrown' md (0 : Int32)) = md_1 at hI hf
  clear hz_
  replace hf := lt_e hf
  refine lv_aload_n hx hb dX13_sign_5 rfl (lv_at hl 0 rfl) ?_
  refine g_Md_tangle_N X hI has_Md.l (X.fl w_1586) dX13_sign_6 ?_
  refine lv_ifnullN (tgt := 27) hx hb dX13_sign_9 (by decide) ?_
  exact L_27 md_1 _ _ _ (lv_sub hl [0] rfl) hI hf
abbrev rm_X13_size_N : Room := { frames := 1, cells := 0, slots := 0, locals := 22 }
set_option maxRecDepth 20000 in
theorem c_X13_size_N (l : Launch) (g : GT) (a_md : Nat → Nat) (q_md_read : Option Nat) (md : MdS) (p1 : Int32) (r_ : Int32) (o_md : MdS) (hf : f_X13_size_N md p1 = some (r_, o_md)) : CI l yX13_size cX13_size 2 (some .int) rm_X13_size_N g [.ref (a_md 0), .int p1] (wMd g a_md none q_md_read md ++ []) (wMd g a_md none q_md_read o_md ++ []) r_ := by
  refine start2 (y := yX13_size) (cc := cX13_size) (n := 2) (av := [.ref (a_md 0), .int p1]) (ws := (wMd g a_md none q_md_read md ++ [])) (Qc := fun sz => QI g (wMd g a_md none q_md_read md ++ []) (wMd g a_md none q_md_read o_md ++ []) r_ sz) (by decide) rfl ?_
  intro p e s m args below meth c ls Q A ha hQ hA X hl hI hin
  have X : Cx p s m args meth c cX13_size 2 RX13 (some .int) := X
  have hl : lv_has ls 2 [(0, .ref (a_md 0)), (1, .int p1)] := hl
  obtain ⟨hx, hb, hml, hown, ht, hr, hlk⟩ := id X
  clear ha hin
  unfold f_X13_size_N at hf
  refine lv_aload_n hx hb dX13_size_0 rfl (lv_at hl 0 rfl) ?_
  refine lv_iconst (v := 0) hx hb dX13_size_1 (by decide) ?_
  refine p_Md_thrown X hI up_Md_thrown.l (X.fl w_1583) dX13_size_2 (fun H locs hI => ?_)
  generalize hz_ : (Md_thrown' md (0 : Int32)) = md_1 at hI hf
  clear hz_
  replace hf := lt_e hf
  refine lv_iload_n hx hb dX13_size_5 rfl (lv_at hl 1 rfl) ?_
  refine lv_bipush (v := 11) hx hb dX13_size_6 (by decide) ?_
  refine lv_icmp_ne (tgt := 16) hx hb dX13_size_8 (by decide) (fun h_ => ?_) (fun h_ => ?_)
  · replace hf := if_f h_ hf
    refine lv_iload_n hx hb dX13_size_16 rfl (lv_at hl 1 rfl) ?_
    refine lv_iconst (v := 0) hx hb dX13_size_17 (by decide) ?_
    refine lv_bipush (v := 10) hx hb dX13_size_18 (by decide) ?_
    obtain ⟨r_2, hc_, hf⟩ := bd1_some hf
    refine call_Si X hI Cj.nil (c_X13_in l g p1 (0 : Int32) (10 : Int32) r_2 hc_) ⟨rfl, rfl⟩ ⟨ht _ w_1910, w_1912, ht _ w_155, lk_X13_in⟩ w_1911 rfl hl rfl rfl dX13_size_20 rfl rfl rfl rfl (fun H locs hI => ?_)
    refine lv_if_ne (tgt := 28) hx hb dX13_size_23 (by decide) (fun h_ => ?_) (fun h_ => ?_)
    · replace hf := if_f h_ hf
      refine lv_aload_n hx hb dX13_size_28 rfl (lv_at hl 0 rfl) ?_
      refine g_Md_tangle_N X hI has_Md.l (X.fl w_1586) dX13_size_29 ?_
      refine lv_ifnonnullN hx hb dX13_size_32 ?_
      refine lv_iconst (v := 0) hx hb dX13_size_35 (by decide) ?_
      cases hf
      exact end_i hQ hA X hI dX13_size_36
    · replace hf := if_t h_ hf
      refine lv_iconst (v := (-1)) hx hb dX13_size_26 (by decide) ?_
      cases hf
      exact end_i hQ hA X hI dX13_size_27
  · replace hf := if_t h_ hf
    refine lv_aload_n hx hb dX13_size_11 rfl (lv_at hl 0 rfl) ?_
    refine g_Md_taped X hI has_Md.l (X.fl w_1589) dX13_size_12 ?_
    cases hf
    exact end_i hQ hA X hI dX13_size_15
abbrev rm_X13_stands_N : Room := { frames := 1, cells := 0, slots := 0, locals := 21 }
set_option maxRecDepth 20000 in
theorem c_X13_stands_N (l : Launch) (g : GT) (a_md : Nat → Nat) (q_md_read : Option Nat) (md : MdS) (p1 : Int32) (r_ : Int32) (o_md : MdS) (hf : f_X13_stands_N md = some (r_, o_md)) : CI l yX13_stands cX13_stands 2 (some .int) rm_X13_stands_N g [.ref (a_md 0), .int p1] (wMd g a_md none q_md_read md ++ []) (wMd g a_md none q_md_read o_md ++ []) r_ := by
  refine start2 (y := yX13_stands) (cc := cX13_stands) (n := 2) (av := [.ref (a_md 0), .int p1]) (ws := (wMd g a_md none q_md_read md ++ [])) (Qc := fun sz => QI g (wMd g a_md none q_md_read md ++ []) (wMd g a_md none q_md_read o_md ++ []) r_ sz) (by decide) rfl ?_
  intro p e s m args below meth c ls Q A ha hQ hA X hl hI hin
  have X : Cx p s m args meth c cX13_stands 2 RX13 (some .int) := X
  have hl : lv_has ls 2 [(0, .ref (a_md 0)), (1, .int p1)] := hl
  obtain ⟨hx, hb, hml, hown, ht, hr, hlk⟩ := id X
  clear ha hin
  unfold f_X13_stands_N at hf
  refine lv_aload_n hx hb dX13_stands_0 rfl (lv_at hl 0 rfl) ?_
  refine lv_iconst (v := 0) hx hb dX13_stands_1 (by decide) ?_
  refine p_Md_thrown X hI up_Md_thrown.l (X.fl w_1583) dX13_stands_2 (fun H locs hI => ?_)
  generalize hz_ : (Md_thrown' md (0 : Int32)) = md_1 at hI hf
  clear hz_
  replace hf := lt_e hf
  refine lv_aload_n hx hb dX13_stands_5 rfl (lv_at hl 0 rfl) ?_
  refine lv_iload_n hx hb dX13_stands_6 rfl (lv_at hl 1 rfl) ?_
  obtain ⟨r_2, hc_, hf⟩ := bd1_some hf
  refine call_Vi X hI (Cj.keep Cj.id) (c_X13_isStanding_N l g a_md q_md_read md_1 p1 r_2 hc_) ⟨rfl, rfl⟩ ⟨ht _ w_2047, w_2050, ht _ w_155, lk_X13_isStanding⟩ w_2049 w_96 rfl rfl rfl hl rfl rfl dX13_stands_7 rfl rfl rfl rfl (fun H locs hI => ?_)
  refine lv_if_ne (tgt := 19) hx hb dX13_stands_10 (by decide) (fun h_ => ?_) (fun h_ => ?_)
  · replace hf := if_f h_ hf
    cases hf
  · replace hf := if_t h_ hf
    refine lv_aload_n hx hb dX13_stands_13 rfl (lv_at hl 0 rfl) ?_
    refine lv_iconst (v := 1) hx hb dX13_stands_14 (by decide) ?_
    obtain ⟨r_3, md_4, hc_, hf⟩ := bd2_some hf
    refine call_Vi X hI (Cj.keep Cj.id) (c_X13_refused l g a_md none q_md_read md_1 (1 : Int32) r_3 md_4 hc_) ⟨rfl, rfl⟩ ⟨ht _ w_1719, w_1722, ht _ w_155, lk_X13_refused⟩ w_1721 w_65 rfl rfl rfl hl rfl rfl dX13_stands_15 rfl rfl rfl rfl (fun H locs hI => ?_)
    cases hf
    exact end_i hQ hA X hI dX13_stands_18
abbrev rm_X13_tries_N : Room := { frames := 1, cells := 0, slots := 0, locals := 21 }
set_option maxRecDepth 20000 in
theorem c_X13_tries_N (l : Launch) (g : GT) (a_md : Nat → Nat) (q_md_read : Option Nat) (md : MdS) (p1 : Int32) (p2 : Int32) (p3 : Int32) (r_ : Int32) (o_md : MdS) (hf : f_X13_tries_N md = some (r_, o_md)) : CI l yX13_tries cX13_tries 9 (some .int) rm_X13_tries_N g [.ref (a_md 0), .int p1, .int p2, .int p3] (wMd g a_md none q_md_read md ++ []) (wMd g a_md none q_md_read o_md ++ []) r_ := by
  refine start2 (y := yX13_tries) (cc := cX13_tries) (n := 9) (av := [.ref (a_md 0), .int p1, .int p2, .int p3]) (ws := (wMd g a_md none q_md_read md ++ [])) (Qc := fun sz => QI g (wMd g a_md none q_md_read md ++ []) (wMd g a_md none q_md_read o_md ++ []) r_ sz) (by decide) rfl ?_
  intro p e s m args below meth c ls Q A ha hQ hA X hl hI hin
  have X : Cx p s m args meth c cX13_tries 9 RX13 (some .int) := X
  have hl : lv_has ls 9 [(0, .ref (a_md 0)), (1, .int p1), (2, .int p2), (3, .int p3)] := hl
  obtain ⟨hx, hb, hml, hown, ht, hr, hlk⟩ := id X
  clear ha hin
  unfold f_X13_tries_N at hf
  refine lv_aload_n hx hb dX13_tries_0 rfl (lv_at hl 0 rfl) ?_
  refine lv_iconst (v := 0) hx hb dX13_tries_1 (by decide) ?_
  refine p_Md_thrown X hI up_Md_thrown.l (X.fl w_1583) dX13_tries_2 (fun H locs hI => ?_)
  generalize hz_ : (Md_thrown' md (0 : Int32)) = md_1 at hI hf
  clear hz_
  replace hf := lt_e hf
  refine lv_aload_n hx hb dX13_tries_5 rfl (lv_at hl 0 rfl) ?_
  refine g_Md_tangle_N X hI has_Md.l (X.fl w_1586) dX13_tries_6 ?_
  refine lv_ifnonnullN hx hb dX13_tries_9 ?_
  refine lv_aload_n hx hb dX13_tries_12 rfl (lv_at hl 0 rfl) ?_
  refine lv_iconst (v := 1) hx hb dX13_tries_13 (by decide) ?_
  obtain ⟨r_2, md_3, hc_, hf⟩ := bd2_some hf
  refine call_Vi X hI (Cj.keep Cj.id) (c_X13_refused l g a_md none q_md_read md_1 (1 : Int32) r_2 md_3 hc_) ⟨rfl, rfl⟩ ⟨ht _ w_1719, w_1722, ht _ w_155, lk_X13_refused⟩ w_1721 w_65 rfl rfl rfl hl rfl rfl dX13_tries_14 rfl rfl rfl rfl (fun H locs hI => ?_)
  cases hf
  exact end_i hQ hA X hI dX13_tries_17
abbrev rm_X13_twist_N : Room := { frames := 2, cells := 0, slots := 0, locals := 42 }
set_option maxRecDepth 20000 in
theorem c_X13_twist_N (l : Launch) (g : GT) (a_md : Nat → Nat) (q_md_read : Option Nat) (md : MdS) (p1 : Int32) (r_ : Int32) (o_md : MdS) (hf : f_X13_twist_N md = some (r_, o_md)) : CI l yX13_twist cX13_twist 4 (some .int) rm_X13_twist_N g [.ref (a_md 0), .int p1] (wMd g a_md none q_md_read md ++ []) (wMd g a_md none q_md_read o_md ++ []) r_ := by
  refine start2 (y := yX13_twist) (cc := cX13_twist) (n := 4) (av := [.ref (a_md 0), .int p1]) (ws := (wMd g a_md none q_md_read md ++ [])) (Qc := fun sz => QI g (wMd g a_md none q_md_read md ++ []) (wMd g a_md none q_md_read o_md ++ []) r_ sz) (by decide) rfl ?_
  intro p e s m args below meth c ls Q A ha hQ hA X hl hI hin
  have X : Cx p s m args meth c cX13_twist 4 RX13 (some .int) := X
  have hl : lv_has ls 4 [(0, .ref (a_md 0)), (1, .int p1)] := hl
  obtain ⟨hx, hb, hml, hown, ht, hr, hlk⟩ := id X
  clear ha hin
  unfold f_X13_twist_N at hf
  refine lv_aload_n hx hb dX13_twist_0 rfl (lv_at hl 0 rfl) ?_
  refine lv_iconst (v := 0) hx hb dX13_twist_1 (by decide) ?_
  refine p_Md_thrown X hI up_Md_thrown.l (X.fl w_1583) dX13_twist_2 (fun H locs hI => ?_)
  generalize hz_ : (Md_thrown' md (0 : Int32)) = md_1 at hI hf
  clear hz_
  replace hf := lt_e hf
  refine lv_aload_n hx hb dX13_twist_5 rfl (lv_at hl 0 rfl) ?_
  refine lv_iload_n hx hb dX13_twist_6 rfl (lv_at hl 1 rfl) ?_
  obtain ⟨r_2, hc_, hf⟩ := bd1_some hf
  refine call_Vi X hI (Cj.keep Cj.id) (c_X13_isRing_N l g a_md q_md_read md_1 p1 r_2 hc_) ⟨rfl, rfl⟩ ⟨ht _ w_2022, w_2025, ht _ w_155, lk_X13_isRing⟩ w_2024 w_94 rfl rfl rfl hl rfl rfl dX13_twist_7 rfl rfl rfl rfl (fun H locs hI => ?_)
  refine lv_if_ne (tgt := 19) hx hb dX13_twist_10 (by decide) (fun h_ => ?_) (fun h_ => ?_)
  · replace hf := if_f h_ hf
    cases hf
  · replace hf := if_t h_ hf
    refine lv_aload_n hx hb dX13_twist_13 rfl (lv_at hl 0 rfl) ?_
    refine lv_iconst (v := 1) hx hb dX13_twist_14 (by decide) ?_
    obtain ⟨r_3, md_4, hc_, hf⟩ := bd2_some hf
    refine call_Vi X hI (Cj.keep Cj.id) (c_X13_lost l g a_md none q_md_read md_1 (1 : Int32) r_3 md_4 hc_) ⟨rfl, rfl⟩ ⟨ht _ w_2063, w_2066, ht _ w_155, lk_X13_lost⟩ w_2065 w_97 rfl rfl rfl hl rfl rfl dX13_twist_15 rfl rfl rfl rfl (fun H locs hI => ?_)
    cases hf
    exact end_i hQ hA X hI dX13_twist_18
abbrev rm_X13_undo_N : Room := { frames := 2, cells := 0, slots := 0, locals := 42 }
set_option maxRecDepth 20000 in
theorem c_X13_undo_N (l : Launch) (g : GT) (a_md : Nat → Nat) (q_md_read : Option Nat) (md : MdS) (r_ : Int32) (o_md : MdS) (hf : f_X13_undo_N md = some (r_, o_md)) : CI l yX13_undo cX13_undo 1 (some .boolean) rm_X13_undo_N g [.ref (a_md 0)] (wMd g a_md none q_md_read md ++ []) (wMd g a_md none q_md_read o_md ++ []) r_ := by
  refine start2 (y := yX13_undo) (cc := cX13_undo) (n := 1) (av := [.ref (a_md 0)]) (ws := (wMd g a_md none q_md_read md ++ [])) (Qc := fun sz => QI g (wMd g a_md none q_md_read md ++ []) (wMd g a_md none q_md_read o_md ++ []) r_ sz) (by decide) rfl ?_
  intro p e s m args below meth c ls Q A ha hQ hA X hl hI hin
  have X : Cx p s m args meth c cX13_undo 1 RX13 (some .boolean) := X
  have hl : lv_has ls 1 [(0, .ref (a_md 0))] := hl
  obtain ⟨hx, hb, hml, hown, ht, hr, hlk⟩ := id X
  clear ha hin
  have L_19 : ∀ (md : MdS) (H : Heap) (locs : List Loc) (ls : Array Slot), lv_has ls 1 [(0, .ref (a_md 0))] → In g A s.heap s (wMd g a_md none q_md_read md ++ []) H locs → f_X13_undo_N_L19 md = some (r_, o_md) → W p l e rm_X13_undo_N s m args below meth c H locs 0 0 Q (F0 m 19 ls []) := by
    intro md H locs ls hl hI hf
    unfold f_X13_undo_N_L19 at hf
    refine lv_aload_n hx hb dX13_undo_19 rfl (lv_at hl 0 rfl) ?_
    refine lv_bipush (v := 6) hx hb dX13_undo_20 (by decide) ?_
    obtain ⟨r_2, md_3, hc_, hf⟩ := bd2_some hf
    refine call_Vi X hI (Cj.keep Cj.id) (c_X13_denied l g a_md none q_md_read md (6 : Int32) r_2 md_3 hc_) ⟨rfl, rfl⟩ ⟨ht _ w_2370, w_2373, ht _ w_155, lk_X13_denied⟩ w_2372 w_136 rfl rfl rfl hl rfl rfl dX13_undo_22 rfl rfl rfl rfl (fun H locs hI => ?_)
    obtain ⟨hzb_, hf⟩ := zb_some hf
    cases hf
    exact end_z hQ hA X hI (zb_n hzb_) dX13_undo_25
  unfold f_X13_undo_N at hf
  refine lv_aload_n hx hb dX13_undo_0 rfl (lv_at hl 0 rfl) ?_
  refine lv_iconst (v := 0) hx hb dX13_undo_1 (by decide) ?_
  refine p_Md_thrown X hI up_Md_thrown.l (X.fl w_1583) dX13_undo_2 (fun H locs hI => ?_)
  generalize hz_ : (Md_thrown' md (0 : Int32)) = md_1 at hI hf
  clear hz_
  replace hf := lt_e hf
  refine lv_aload_n hx hb dX13_undo_5 rfl (lv_at hl 0 rfl) ?_
  refine g_Md_tangle_N X hI has_Md.l (X.fl w_1586) dX13_undo_6 ?_
  refine lv_ifnullN (tgt := 19) hx hb dX13_undo_9 (by decide) ?_
  exact L_19 md_1 _ _ _ hl hI hf
