abbrev rm_X11_caller : Room := { frames := 5, cells := 0, slots := 0, locals := 123 }
set_option maxRecDepth 20000 in
theorem c_X11_caller (l : Launch) (g : GT) (a_hk : Nat → Nat) (a_wi : Nat → Nat) (a_bo : Nat → Nat) (a_wb : Nat → Nat) (a_now : Nat → Nat) (a_ri : Nat → Nat) (q_hk_reader : Nat) (q_hk_tried : Nat) (q_hk_history : Nat) (q_hk_search : Nat) (q_hk_colouring : Nat) (q_hk_chances : Nat) (hk : HKS) (bo : BoS) (wb : BoS) (now : MoS) (ri : RiS) (r_ : Int32) (o_hk : HKS) (o_wb : BoS) (hf : f_X11_caller hk bo wb now ri = some (r_, o_hk, o_wb)) : CI l yX11_caller cX11_caller 1 (some .int) rm_X11_caller g [.ref (a_hk 0)] (wHK g a_hk q_hk_reader (a_ri 0) (a_now 0) q_hk_tried q_hk_history (a_bo 0) q_hk_search (a_wi 0) q_hk_colouring q_hk_chances hk ++ (wWi g a_wi (a_ri 0) (a_wb 0) ++ (wBo g a_bo (a_ri 0) bo ++ (wBo g a_wb (a_ri 0) wb ++ (wMo g a_now now ++ (wRi g a_ri ri ++ [])))))) (wHK g a_hk q_hk_reader (a_ri 0) (a_now 0) q_hk_tried q_hk_history (a_bo 0) q_hk_search (a_wi 0) q_hk_colouring q_hk_chances o_hk ++ (wWi g a_wi (a_ri 0) (a_wb 0) ++ (wBo g a_bo (a_ri 0) bo ++ (wBo g a_wb (a_ri 0) o_wb ++ (wMo g a_now now ++ (wRi g a_ri ri ++ [])))))) r_ := by
  refine start2 (y := yX11_caller) (cc := cX11_caller) (n := 1) (av := [.ref (a_hk 0)]) (ws := (wHK g a_hk q_hk_reader (a_ri 0) (a_now 0) q_hk_tried q_hk_history (a_bo 0) q_hk_search (a_wi 0) q_hk_colouring q_hk_chances hk ++ (wWi g a_wi (a_ri 0) (a_wb 0) ++ (wBo g a_bo (a_ri 0) bo ++ (wBo g a_wb (a_ri 0) wb ++ (wMo g a_now now ++ (wRi g a_ri ri ++ []))))))) (Qc := fun sz => QI g (wHK g a_hk q_hk_reader (a_ri 0) (a_now 0) q_hk_tried q_hk_history (a_bo 0) q_hk_search (a_wi 0) q_hk_colouring q_hk_chances hk ++ (wWi g a_wi (a_ri 0) (a_wb 0) ++ (wBo g a_bo (a_ri 0) bo ++ (wBo g a_wb (a_ri 0) wb ++ (wMo g a_now now ++ (wRi g a_ri ri ++ [])))))) (wHK g a_hk q_hk_reader (a_ri 0) (a_now 0) q_hk_tried q_hk_history (a_bo 0) q_hk_search (a_wi 0) q_hk_colouring q_hk_chances o_hk ++ (wWi g a_wi (a_ri 0) (a_wb 0) ++ (wBo g a_bo (a_ri 0) bo ++ (wBo g a_wb (a_ri 0) o_wb ++ (wMo g a_now now ++ (wRi g a_ri ri ++ [])))))) r_ sz) (by decide) rfl ?_
  intro p e s m args below meth c ls Q A ha hQ hA X hl hI hin
  have X : Cx p s m args meth c cX11_caller 1 RX11 (some .int) := X
  have hl : lv_has ls 1 [(0, .ref (a_hk 0))] := hl
  obtain ⟨hx, hb, hml, hown, ht, hr, hlk⟩ := id X
  clear ha hin
  unfold f_X11_caller at hf
  refine lv_aload_n hx hb dX11_caller_0 rfl (lv_at hl 0 rfl) ?_
  refine g_HK_there X hI has_HK.l (X.fl w_686) dX11_caller_1 ?_
  refine lv_if_eq (tgt := 29) hx hb dX11_caller_4 (by decide) (fun h_ => ?_) (fun h_ => ?_)
  · replace hf := if_t h_ hf
    refine lv_aload_n hx hb dX11_caller_29 rfl (lv_at hl 0 rfl) ?_
    refine lv_iconst (v := 1) hx hb dX11_caller_30 (by decide) ?_
    obtain ⟨r_1, hk_2, hc_, hf⟩ := bd2_some hf
    refine call_Vi X hI (Cj.keep Cj.nil) (c_X11_refuse l g a_hk q_hk_reader (a_ri 0) (a_now 0) q_hk_tried q_hk_history (a_bo 0) q_hk_search (a_wi 0) q_hk_colouring q_hk_chances hk (1 : Int32) r_1 hk_2 hc_) ⟨rfl, rfl⟩ ⟨ht _ w_729, w_732, ht _ w_139, lk_X11_refuse⟩ w_731 w_0 rfl rfl rfl hl rfl rfl dX11_caller_31 rfl rfl rfl rfl (fun H locs hI => ?_)
    cases hf
    exact end_i hQ hA X hI dX11_caller_34
  · replace hf := if_f h_ hf
    refine lv_aload_n hx hb dX11_caller_7 rfl (lv_at hl 0 rfl) ?_
    refine lv_aload_n hx hb dX11_caller_8 rfl (lv_at hl 0 rfl) ?_
    refine g_HK_within X hI has_HK.l (X.fl w_683) dX11_caller_9 ?_
    refine lv_aload_n hx hb dX11_caller_12 rfl (lv_at hl 0 rfl) ?_
    refine g_HK_board X hI has_HK.l (X.fl w_681) dX11_caller_13 ?_
    refine lv_aload_n hx hb dX11_caller_16 rfl (lv_at hl 0 rfl) ?_
    refine g_HK_now X hI has_HK.l (X.fl w_678) dX11_caller_17 ?_
    obtain ⟨r_3, wb_4, hc_, hf⟩ := bd2_some hf
    refine call_Vi X hI (Cj.skip (Cj.keep (Cj.keep (Cj.keep (Cj.keep (Cj.keep Cj.id)))))) (c_X10_bestCall l g a_wi a_bo a_wb a_now a_ri bo wb now ri r_3 wb_4 hc_) ⟨rfl, rfl⟩ ⟨ht _ w_1190, w_1193, ht _ w_152, lk_X10_bestCall⟩ w_1191 w_1192 rfl rfl rfl hl rfl rfl dX11_caller_20 rfl rfl rfl rfl (fun H locs hI => ?_)
    obtain ⟨r_5, hk_6, hc_, hf⟩ := bd2_some hf
    refine call_Vi X hI (Cj.keep Cj.nil) (c_X11_grant l g a_hk q_hk_reader (a_ri 0) (a_now 0) q_hk_tried q_hk_history (a_bo 0) q_hk_search (a_wi 0) q_hk_colouring q_hk_chances hk r_3 r_5 hk_6 hc_) ⟨rfl, rfl⟩ ⟨ht _ w_995, w_998, ht _ w_139, lk_X11_grant⟩ w_997 w_37 rfl rfl rfl hl rfl rfl dX11_caller_23 rfl rfl rfl rfl (fun H locs hI => ?_)
    refine lv_goto (tgt := 34) hx hb dX11_caller_26 (by decide) ?_
    cases hf
    exact end_i hQ hA X hI dX11_caller_34
abbrev rm_X11_hang : Room := { frames := 3, cells := 0, slots := 0, locals := 68 }
set_option maxRecDepth 20000 in
theorem c_X11_hang (l : Launch) (g : GT) (a_hk : Nat → Nat) (a_bo : Nat → Nat) (a_ri : Nat → Nat) (q_hk_reader : Nat) (q_hk_now : Nat) (q_hk_tried : Nat) (q_hk_history : Nat) (q_hk_search : Nat) (q_hk_within : Nat) (q_hk_colouring : Nat) (q_hk_chances : Nat) (hk : HKS) (bo : BoS) (ri : RiS) (p1 : Int32) (p2 : Int32) (r_ : Int32) (o_hk : HKS) (hf : f_X11_hang hk bo ri p1 p2 = some (r_, o_hk)) : CI l yX11_hang cX11_hang 3 (some .int) rm_X11_hang g [.ref (a_hk 0), .int p1, .int p2] (wHK g a_hk q_hk_reader (a_ri 0) q_hk_now q_hk_tried q_hk_history (a_bo 0) q_hk_search q_hk_within q_hk_colouring q_hk_chances hk ++ (wBo g a_bo (a_ri 0) bo ++ (wRi g a_ri ri ++ []))) (wHK g a_hk q_hk_reader (a_ri 0) q_hk_now q_hk_tried q_hk_history (a_bo 0) q_hk_search q_hk_within q_hk_colouring q_hk_chances o_hk ++ (wBo g a_bo (a_ri 0) bo ++ (wRi g a_ri ri ++ []))) r_ := by
  refine start2 (y := yX11_hang) (cc := cX11_hang) (n := 3) (av := [.ref (a_hk 0), .int p1, .int p2]) (ws := (wHK g a_hk q_hk_reader (a_ri 0) q_hk_now q_hk_tried q_hk_history (a_bo 0) q_hk_search q_hk_within q_hk_colouring q_hk_chances hk ++ (wBo g a_bo (a_ri 0) bo ++ (wRi g a_ri ri ++ [])))) (Qc := fun sz => QI g (wHK g a_hk q_hk_reader (a_ri 0) q_hk_now q_hk_tried q_hk_history (a_bo 0) q_hk_search q_hk_within q_hk_colouring q_hk_chances hk ++ (wBo g a_bo (a_ri 0) bo ++ (wRi g a_ri ri ++ []))) (wHK g a_hk q_hk_reader (a_ri 0) q_hk_now q_hk_tried q_hk_history (a_bo 0) q_hk_search q_hk_within q_hk_colouring q_hk_chances o_hk ++ (wBo g a_bo (a_ri 0) bo ++ (wRi g a_ri ri ++ []))) r_ sz) (by decide) rfl ?_
  intro p e s m args below meth c ls Q A ha hQ hA X hl hI hin
  have X : Cx p s m args meth c cX11_hang 3 RX11 (some .int) := X
  have hl : lv_has ls 3 [(0, .ref (a_hk 0)), (1, .int p1), (2, .int p2)] := hl
  obtain ⟨hx, hb, hml, hown, ht, hr, hlk⟩ := id X
  clear ha hin
  have L_21 : ∀ (hk : HKS) (H : Heap) (locs : List Loc) (ls : Array Slot), lv_has ls 3 [(0, .ref (a_hk 0))] → In g A s.heap s (wHK g a_hk q_hk_reader (a_ri 0) q_hk_now q_hk_tried q_hk_history (a_bo 0) q_hk_search q_hk_within q_hk_colouring q_hk_chances hk ++ (wBo g a_bo (a_ri 0) bo ++ (wRi g a_ri ri ++ []))) H locs → f_X11_hang_L21 hk = some (r_, o_hk) → W p l e rm_X11_hang s m args below meth c H locs 0 0 Q (F0 m 21 ls []) := by
    intro hk H locs ls hl hI hf
    unfold f_X11_hang_L21 at hf
    refine lv_aload_n hx hb dX11_hang_21 rfl (lv_at hl 0 rfl) ?_
    refine lv_iconst (v := 1) hx hb dX11_hang_22 (by decide) ?_
    obtain ⟨r_6, hk_7, hc_, hf⟩ := bd2_some hf
    refine call_Vi X hI (Cj.keep Cj.nil) (c_X11_refuseSigned l g a_hk q_hk_reader (a_ri 0) q_hk_now q_hk_tried q_hk_history (a_bo 0) q_hk_search q_hk_within q_hk_colouring q_hk_chances hk (1 : Int32) r_6 hk_7 hc_) ⟨rfl, rfl⟩ ⟨ht _ w_1073, w_1076, ht _ w_139, lk_X11_refuseSigned⟩ w_1075 w_43 rfl rfl rfl hl rfl rfl dX11_hang_23 rfl rfl rfl rfl (fun H locs hI => ?_)
    cases hf
    exact end_i hQ hA X hI dX11_hang_26
  unfold f_X11_hang at hf
  refine lv_aload_n hx hb dX11_hang_0 rfl (lv_at hl 0 rfl) ?_
  refine lv_iload_n hx hb dX11_hang_1 rfl (lv_at hl 1 rfl) ?_
  obtain ⟨r_1, hc_, hf⟩ := bd1_some hf
  refine call_Vi X hI (Cj.keep (Cj.skip (Cj.keep Cj.id))) (c_X11_isRing l g a_hk a_ri q_hk_reader q_hk_now q_hk_tried q_hk_history (a_bo 0) q_hk_search q_hk_within q_hk_colouring q_hk_chances hk ri p1 r_1 hc_) ⟨rfl, rfl⟩ ⟨ht _ w_1020, w_1023, ht _ w_139, lk_X11_isRing⟩ w_1022 w_39 rfl rfl rfl hl rfl rfl dX11_hang_2 rfl rfl rfl rfl (fun H locs hI => ?_)
  refine lv_if_eq (tgt := 21) hx hb dX11_hang_5 (by decide) (fun h_ => ?_) (fun h_ => ?_)
  · replace hf := if_t h_ hf
    exact L_21 hk _ _ _ (lv_sub hl [0] rfl) hI hf
  · replace hf := if_f h_ hf
    refine lv_aload_n hx hb dX11_hang_8 rfl (lv_at hl 0 rfl) ?_
    refine lv_iload_n hx hb dX11_hang_9 rfl (lv_at hl 2 rfl) ?_
    obtain ⟨r_2, hc_, hf⟩ := bd1_some hf
    refine call_Vi X hI (Cj.keep (Cj.skip (Cj.keep Cj.id))) (c_X11_isRing l g a_hk a_ri q_hk_reader q_hk_now q_hk_tried q_hk_history (a_bo 0) q_hk_search q_hk_within q_hk_colouring q_hk_chances hk ri p2 r_2 hc_) ⟨rfl, rfl⟩ ⟨ht _ w_1020, w_1023, ht _ w_139, lk_X11_isRing⟩ w_1022 w_39 rfl rfl rfl hl rfl rfl dX11_hang_10 rfl rfl rfl rfl (fun H locs hI => ?_)
    refine lv_if_eq (tgt := 21) hx hb dX11_hang_13 (by decide) (fun h_ => ?_) (fun h_ => ?_)
    · replace hf := if_t h_ hf
      exact L_21 hk _ _ _ (lv_sub hl [0] rfl) hI hf
    · replace hf := if_f h_ hf
      refine lv_iload_n hx hb dX11_hang_16 rfl (lv_at hl 1 rfl) ?_
      refine lv_iload_n hx hb dX11_hang_17 rfl (lv_at hl 2 rfl) ?_
      refine lv_icmp_ne (tgt := 27) hx hb dX11_hang_18 (by decide) (fun h_ => ?_) (fun h_ => ?_)
      · replace hf := if_f h_ hf
        refine lv_aload_n hx hb dX11_hang_27 rfl (lv_at hl 0 rfl) ?_
        refine lv_aload_n hx hb dX11_hang_28 rfl (lv_at hl 0 rfl) ?_
        refine g_HK_board X hI has_HK.l (X.fl w_681) dX11_hang_29 ?_
        refine lv_iload_n hx hb dX11_hang_32 rfl (lv_at hl 1 rfl) ?_
        refine lv_iload_n hx hb dX11_hang_33 rfl (lv_at hl 2 rfl) ?_
        obtain ⟨r_3, hc_, hf⟩ := bd1_some hf
        refine call_Vi X hI (Cj.skip (Cj.keep (Cj.keep Cj.id))) (c_X0_signsBetween l g a_bo a_ri bo ri p1 p2 r_3 hc_) ⟨rfl, rfl⟩ ⟨ht _ w_1208, w_1211, ht _ w_150, lk_X0_signsBetween⟩ w_1209 w_1210 rfl rfl rfl hl rfl rfl dX11_hang_34 rfl rfl rfl rfl (fun H locs hI => ?_)
        obtain ⟨r_4, hk_5, hc_, hf⟩ := bd2_some hf
        refine call_Vi X hI (Cj.keep Cj.nil) (c_X11_grant l g a_hk q_hk_reader (a_ri 0) q_hk_now q_hk_tried q_hk_history (a_bo 0) q_hk_search q_hk_within q_hk_colouring q_hk_chances hk r_3 r_4 hk_5 hc_) ⟨rfl, rfl⟩ ⟨ht _ w_995, w_998, ht _ w_139, lk_X11_grant⟩ w_997 w_37 rfl rfl rfl hl rfl rfl dX11_hang_37 rfl rfl rfl rfl (fun H locs hI => ?_)
        cases hf
        exact end_i hQ hA X hI dX11_hang_40
      · replace hf := if_t h_ hf
        exact L_21 hk _ _ _ (lv_sub hl [0] rfl) hI hf
abbrev rm_X11_colours : Room := { frames := 4, cells := 0, slots := 0, locals := 99 }
set_option maxRecDepth 20000 in
theorem c_X11_colours (l : Launch) (g : GT) (a_hk : Nat → Nat) (a_co : Nat → Nat) (a_bo : Nat → Nat) (a_ri : Nat → Nat) (q_hk_reader : Nat) (q_hk_now : Nat) (q_hk_tried : Nat) (q_hk_history : Nat) (q_hk_search : Nat) (q_hk_within : Nat) (q_hk_chances : Nat) (hk : HKS) (co : CoS) (bo : BoS) (ri : RiS) (p1 : Int32) (r_ : Int32) (o_hk : HKS) (o_co : CoS) (hf : f_X11_colours hk co bo ri p1 = some (r_, o_hk, o_co)) : CI l yX11_colours cX11_colours 2 (some .int) rm_X11_colours g [.ref (a_hk 0), .int p1] (wHK g a_hk q_hk_reader (a_ri 0) q_hk_now q_hk_tried q_hk_history (a_bo 0) q_hk_search q_hk_within (a_co 0) q_hk_chances hk ++ (wCo g a_co co ++ (wBo g a_bo (a_ri 0) bo ++ (wRi g a_ri ri ++ [])))) (wHK g a_hk q_hk_reader (a_ri 0) q_hk_now q_hk_tried q_hk_history (a_bo 0) q_hk_search q_hk_within (a_co 0) q_hk_chances o_hk ++ (wCo g a_co o_co ++ (wBo g a_bo (a_ri 0) bo ++ (wRi g a_ri ri ++ [])))) r_ := by
  refine start2 (y := yX11_colours) (cc := cX11_colours) (n := 2) (av := [.ref (a_hk 0), .int p1]) (ws := (wHK g a_hk q_hk_reader (a_ri 0) q_hk_now q_hk_tried q_hk_history (a_bo 0) q_hk_search q_hk_within (a_co 0) q_hk_chances hk ++ (wCo g a_co co ++ (wBo g a_bo (a_ri 0) bo ++ (wRi g a_ri ri ++ []))))) (Qc := fun sz => QI g (wHK g a_hk q_hk_reader (a_ri 0) q_hk_now q_hk_tried q_hk_history (a_bo 0) q_hk_search q_hk_within (a_co 0) q_hk_chances hk ++ (wCo g a_co co ++ (wBo g a_bo (a_ri 0) bo ++ (wRi g a_ri ri ++ [])))) (wHK g a_hk q_hk_reader (a_ri 0) q_hk_now q_hk_tried q_hk_history (a_bo 0) q_hk_search q_hk_within (a_co 0) q_hk_chances o_hk ++ (wCo g a_co o_co ++ (wBo g a_bo (a_ri 0) bo ++ (wRi g a_ri ri ++ [])))) r_ sz) (by decide) rfl ?_
  intro p e s m args below meth c ls Q A ha hQ hA X hl hI hin
  have X : Cx p s m args meth c cX11_colours 2 RX11 (some .int) := X
  have hl : lv_has ls 2 [(0, .ref (a_hk 0)), (1, .int p1)] := hl
  obtain ⟨hx, hb, hml, hown, ht, hr, hlk⟩ := id X
  clear ha hin
  have L_35 : ∀ (x1 : Int32) (hk : HKS) (co : CoS) (H : Heap) (locs : List Loc) (ls : Array Slot), lv_has ls 2 [(0, .ref (a_hk 0)), (1, .int x1)] → In g A s.heap s (wHK g a_hk q_hk_reader (a_ri 0) q_hk_now q_hk_tried q_hk_history (a_bo 0) q_hk_search q_hk_within (a_co 0) q_hk_chances hk ++ (wCo g a_co co ++ (wBo g a_bo (a_ri 0) bo ++ (wRi g a_ri ri ++ [])))) H locs → f_X11_colours_L35 x1 hk co bo ri = some (r_, o_hk, o_co) → W p l e rm_X11_colours s m args below meth c H locs 0 0 Q (F0 m 35 ls []) := by
    intro x1 hk co H locs ls hl hI hf
    unfold f_X11_colours_L35 at hf
    refine lv_aload_n hx hb dX11_colours_35 rfl (lv_at hl 0 rfl) ?_
    refine lv_aload_n hx hb dX11_colours_36 rfl (lv_at hl 0 rfl) ?_
    refine g_HK_colouring X hI has_HK.l (X.fl w_684) dX11_colours_37 ?_
    refine lv_aload_n hx hb dX11_colours_40 rfl (lv_at hl 0 rfl) ?_
    refine g_HK_board X hI has_HK.l (X.fl w_681) dX11_colours_41 ?_
    refine lv_aload_n hx hb dX11_colours_44 rfl (lv_at hl 0 rfl) ?_
    refine g_HK_rings X hI has_HK.l (X.fl w_677) dX11_colours_45 ?_
    refine g_Ri_count X hI has_Ri.l.r.r.r (hI.fn (List.mem_of_getElem? (i := 35) rfl)) dX11_colours_48 ?_
    refine lv_iload_n hx hb dX11_colours_51 rfl (lv_at hl 1 rfl) ?_
    obtain ⟨r_5, co_6, hc_, hf⟩ := bd2_some hf
    refine call_Vi X hI (Cj.skip (Cj.keep (Cj.keep (Cj.keep Cj.id)))) (c_X2_freeColours l g a_co a_bo a_ri co bo ri (Ri_count ri) x1 r_5 co_6 hc_) ⟨rfl, rfl⟩ ⟨ht _ w_1221, w_1224, ht _ w_153, lk_X2_freeColours⟩ w_1222 w_1223 rfl rfl rfl hl rfl rfl dX11_colours_52 rfl rfl rfl rfl (fun H locs hI => ?_)
    obtain ⟨r_7, hk_8, hc_, hf⟩ := bd2_some hf
    refine call_Vi X hI (Cj.keep Cj.nil) (c_X11_grant l g a_hk q_hk_reader (a_ri 0) q_hk_now q_hk_tried q_hk_history (a_bo 0) q_hk_search q_hk_within (a_co 0) q_hk_chances hk r_5 r_7 hk_8 hc_) ⟨rfl, rfl⟩ ⟨ht _ w_995, w_998, ht _ w_139, lk_X11_grant⟩ w_997 w_37 rfl rfl rfl hl rfl rfl dX11_colours_55 rfl rfl rfl rfl (fun H locs hI => ?_)
    cases hf
    exact end_i hQ hA X hI dX11_colours_58
  unfold f_X11_colours at hf
  refine lv_aload_n hx hb dX11_colours_0 rfl (lv_at hl 0 rfl) ?_
  refine g_HK_there X hI has_HK.l (X.fl w_686) dX11_colours_1 ?_
  refine lv_if_ne (tgt := 13) hx hb dX11_colours_4 (by decide) (fun h_ => ?_) (fun h_ => ?_)
  · replace hf := if_f h_ hf
    refine lv_iload_n hx hb dX11_colours_13 rfl (lv_at hl 1 rfl) ?_
    refine lv_iconst (v := 3) hx hb dX11_colours_14 (by decide) ?_
    refine lv_icmp_eq (tgt := 35) hx hb dX11_colours_15 (by decide) (fun h_ => ?_) (fun h_ => ?_)
    · replace hf := if_t h_ hf
      exact L_35 p1 hk co _ _ _ hl hI hf
    · replace hf := if_f h_ hf
      refine lv_iload_n hx hb dX11_colours_18 rfl (lv_at hl 1 rfl) ?_
      refine lv_iconst (v := 5) hx hb dX11_colours_19 (by decide) ?_
      refine lv_icmp_eq (tgt := 35) hx hb dX11_colours_20 (by decide) (fun h_ => ?_) (fun h_ => ?_)
      · replace hf := if_t h_ hf
        exact L_35 p1 hk co _ _ _ hl hI hf
      · replace hf := if_f h_ hf
        refine lv_iload_n hx hb dX11_colours_23 rfl (lv_at hl 1 rfl) ?_
        refine lv_bipush (v := 7) hx hb dX11_colours_24 (by decide) ?_
        refine lv_icmp_eq (tgt := 35) hx hb dX11_colours_26 (by decide) (fun h_ => ?_) (fun h_ => ?_)
        · replace hf := if_t h_ hf
          exact L_35 p1 hk co _ _ _ hl hI hf
        · replace hf := if_f h_ hf
          refine lv_aload_n hx hb dX11_colours_29 rfl (lv_at hl 0 rfl) ?_
          refine lv_iconst (v := 2) hx hb dX11_colours_30 (by decide) ?_
          obtain ⟨r_1, hk_2, hc_, hf⟩ := bd2_some hf
          refine call_Vi X hI (Cj.keep Cj.nil) (c_X11_refuse l g a_hk q_hk_reader (a_ri 0) q_hk_now q_hk_tried q_hk_history (a_bo 0) q_hk_search q_hk_within (a_co 0) q_hk_chances hk (2 : Int32) r_1 hk_2 hc_) ⟨rfl, rfl⟩ ⟨ht _ w_729, w_732, ht _ w_139, lk_X11_refuse⟩ w_731 w_0 rfl rfl rfl hl rfl rfl dX11_colours_31 rfl rfl rfl rfl (fun H locs hI => ?_)
          cases hf
          exact end_i hQ hA X hI dX11_colours_34
  · replace hf := if_t h_ hf
    refine lv_aload_n hx hb dX11_colours_7 rfl (lv_at hl 0 rfl) ?_
    refine lv_iconst (v := 1) hx hb dX11_colours_8 (by decide) ?_
    obtain ⟨r_3, hk_4, hc_, hf⟩ := bd2_some hf
    refine call_Vi X hI (Cj.keep Cj.nil) (c_X11_refuse l g a_hk q_hk_reader (a_ri 0) q_hk_now q_hk_tried q_hk_history (a_bo 0) q_hk_search q_hk_within (a_co 0) q_hk_chances hk (1 : Int32) r_3 hk_4 hc_) ⟨rfl, rfl⟩ ⟨ht _ w_729, w_732, ht _ w_139, lk_X11_refuse⟩ w_731 w_0 rfl rfl rfl hl rfl rfl dX11_colours_9 rfl rfl rfl rfl (fun H locs hI => ?_)
    cases hf
    exact end_i hQ hA X hI dX11_colours_12
abbrev rm_X11_isProvedTight : Room := { frames := 4, cells := 0, slots := 0, locals := 99 }
set_option maxRecDepth 20000 in
theorem c_X11_isProvedTight (l : Launch) (g : GT) (a_hk : Nat → Nat) (a_co : Nat → Nat) (a_bo : Nat → Nat) (a_ri : Nat → Nat) (q_hk_reader : Nat) (q_hk_now : Nat) (q_hk_tried : Nat) (q_hk_history : Nat) (q_hk_search : Nat) (q_hk_within : Nat) (q_hk_chances : Nat) (hk : HKS) (co : CoS) (bo : BoS) (ri : RiS) (r_ : Int32) (o_co : CoS) (hf : f_X11_isProvedTight co bo ri = some (r_, o_co)) : CI l yX11_isProvedTight cX11_isProvedTight 3 (some .boolean) rm_X11_isProvedTight g [.ref (a_hk 0)] (wHK g a_hk q_hk_reader (a_ri 0) q_hk_now q_hk_tried q_hk_history (a_bo 0) q_hk_search q_hk_within (a_co 0) q_hk_chances hk ++ (wCo g a_co co ++ (wBo g a_bo (a_ri 0) bo ++ (wRi g a_ri ri ++ [])))) (wHK g a_hk q_hk_reader (a_ri 0) q_hk_now q_hk_tried q_hk_history (a_bo 0) q_hk_search q_hk_within (a_co 0) q_hk_chances hk ++ (wCo g a_co o_co ++ (wBo g a_bo (a_ri 0) bo ++ (wRi g a_ri ri ++ [])))) r_ := by
  refine start2 (y := yX11_isProvedTight) (cc := cX11_isProvedTight) (n := 3) (av := [.ref (a_hk 0)]) (ws := (wHK g a_hk q_hk_reader (a_ri 0) q_hk_now q_hk_tried q_hk_history (a_bo 0) q_hk_search q_hk_within (a_co 0) q_hk_chances hk ++ (wCo g a_co co ++ (wBo g a_bo (a_ri 0) bo ++ (wRi g a_ri ri ++ []))))) (Qc := fun sz => QI g (wHK g a_hk q_hk_reader (a_ri 0) q_hk_now q_hk_tried q_hk_history (a_bo 0) q_hk_search q_hk_within (a_co 0) q_hk_chances hk ++ (wCo g a_co co ++ (wBo g a_bo (a_ri 0) bo ++ (wRi g a_ri ri ++ [])))) (wHK g a_hk q_hk_reader (a_ri 0) q_hk_now q_hk_tried q_hk_history (a_bo 0) q_hk_search q_hk_within (a_co 0) q_hk_chances hk ++ (wCo g a_co o_co ++ (wBo g a_bo (a_ri 0) bo ++ (wRi g a_ri ri ++ [])))) r_ sz) (by decide) rfl ?_
  intro p e s m args below meth c ls Q A ha hQ hA X hl hI hin
  have X : Cx p s m args meth c cX11_isProvedTight 3 RX11 (some .boolean) := X
  have hl : lv_has ls 3 [(0, .ref (a_hk 0))] := hl
  obtain ⟨hx, hb, hml, hown, ht, hr, hlk⟩ := id X
  clear ha hin
  have L_62 : ∀ (n_ : Nat) (x1 : Int32) (x2 : Int32) (co : CoS) (k47 : (Int32) → (CoS) → (BoS) → (RiS) → Option (Int32 × (CoS))) (H : Heap) (locs : List Loc) (ls : Array Slot), lv_has ls 3 [(0, .ref (a_hk 0)), (1, .int x1), (2, .int x2)] → In g A s.heap s (wHK g a_hk q_hk_reader (a_ri 0) q_hk_now q_hk_tried q_hk_history (a_bo 0) q_hk_search q_hk_within (a_co 0) q_hk_chances hk ++ (wCo g a_co co ++ (wBo g a_bo (a_ri 0) bo ++ (wRi g a_ri ri ++ [])))) H locs → f_X11_isProvedTight_L62 n_ x1 x2 co bo ri k47 = some (r_, o_co) → (∀ (x1 : Int32) (co : CoS) (H : Heap) (locs : List Loc) (ls : Array Slot), lv_has ls 3 [(0, .ref (a_hk 0)), (1, .int x1)] → In g A s.heap s (wHK g a_hk q_hk_reader (a_ri 0) q_hk_now q_hk_tried q_hk_history (a_bo 0) q_hk_search q_hk_within (a_co 0) q_hk_chances hk ++ (wCo g a_co co ++ (wBo g a_bo (a_ri 0) bo ++ (wRi g a_ri ri ++ [])))) H locs → k47 x1 co bo ri = some (r_, o_co) → W p l e rm_X11_isProvedTight s m args below meth c H locs 0 0 Q (F0 m 47 ls [])) → W p l e rm_X11_isProvedTight s m args below meth c H locs 0 0 Q (F0 m 62 ls []) := by
    intro n_
    induction n_ with
    | zero =>
      intro x1 x2 co k47 H locs ls hl hI hf hk47
      rw [f_X11_isProvedTight_L62] at hf
      cases hf
    | succ n_ ih =>
      intro x1 x2 co k47 H locs ls hl hI hf hk47
      rw [f_X11_isProvedTight_L62] at hf
      refine lv_iload_n hx hb dX11_isProvedTight_62 rfl (lv_at hl 2 rfl) ?_
      refine lv_aload_n hx hb dX11_isProvedTight_63 rfl (lv_at hl 0 rfl) ?_
      refine g_HK_rings X hI has_HK.l (X.fl w_677) dX11_isProvedTight_64 ?_
      refine g_Ri_count X hI has_Ri.l.r.r.r (hI.fn (List.mem_of_getElem? (i := 35) rfl)) dX11_isProvedTight_67 ?_
      refine lv_icmp_ge (tgt := 93) hx hb dX11_isProvedTight_70 (by decide) (fun h_ => ?_) (fun h_ => ?_)
      · replace hf := if_t h_ hf
        obtain ⟨v_5, e_⟩ : ∃ y : Int32, y = (x1 + (1 : Int32)) := ⟨_, rfl⟩
        replace hf := lt_to e_ hf
        refine lv_iinc (v := v_5) (lv' := [(1, .int v_5), (0, .ref (a_hk 0)), (2, .int x2)]) hx hb dX11_isProvedTight_93 hl (k := 1) rfl (by rw [e_]; rfl) (by decide) rfl (fun ls hl => ?_)
        clear e_
        refine lv_goto (tgt := 47) hx hb dX11_isProvedTight_96 (by decide) ?_
        exact hk47 v_5 co _ _ _ (lv_sub hl [1, 0] rfl) hI hf
      · replace hf := if_f h_ hf
        refine lv_aload_n hx hb dX11_isProvedTight_73 rfl (lv_at hl 0 rfl) ?_
        refine g_HK_board X hI has_HK.l (X.fl w_681) dX11_isProvedTight_74 ?_
        refine lv_iload_n hx hb dX11_isProvedTight_77 rfl (lv_at hl 1 rfl) ?_
        refine lv_iload_n hx hb dX11_isProvedTight_78 rfl (lv_at hl 2 rfl) ?_
        obtain ⟨r_6, hc_, hf⟩ := bd1_some hf
        refine call_Vi X hI (Cj.skip (Cj.skip (Cj.keep (Cj.keep Cj.id)))) (c_X0_signsBetween l g a_bo a_ri bo ri x1 x2 r_6 hc_) ⟨rfl, rfl⟩ ⟨ht _ w_1208, w_1211, ht _ w_150, lk_X0_signsBetween⟩ w_1209 w_1210 rfl rfl rfl hl rfl rfl dX11_isProvedTight_79 rfl rfl rfl rfl (fun H locs hI => ?_)
        refine lv_if_eq (tgt := 87) hx hb dX11_isProvedTight_82 (by decide) (fun h_ => ?_) (fun h_ => ?_)
        · replace hf := if_t h_ hf
          obtain ⟨v_7, e_⟩ : ∃ y : Int32, y = (x2 + (1 : Int32)) := ⟨_, rfl⟩
          replace hf := lt_to e_ hf
          refine lv_iinc (v := v_7) (lv' := [(2, .int v_7), (0, .ref (a_hk 0)), (1, .int x1)]) hx hb dX11_isProvedTight_87 hl (k := 2) rfl (by rw [e_]; rfl) (by decide) rfl (fun ls hl => ?_)
          clear e_
          refine lv_goto (tgt := 62) hx hb dX11_isProvedTight_90 (by decide) ?_
          exact ih x1 v_7 co k47 _ _ _ (lv_sub hl [1, 2, 0] rfl) hI hf hk47
        · replace hf := if_f h_ hf
          refine lv_iconst (v := 1) hx hb dX11_isProvedTight_85 (by decide) ?_
          cases hf
          exact end_z hQ hA X hI rfl dX11_isProvedTight_86
  have L_47 : ∀ (n_ : Nat) (x1 : Int32) (co : CoS) (H : Heap) (locs : List Loc) (ls : Array Slot), lv_has ls 3 [(0, .ref (a_hk 0)), (1, .int x1)] → In g A s.heap s (wHK g a_hk q_hk_reader (a_ri 0) q_hk_now q_hk_tried q_hk_history (a_bo 0) q_hk_search q_hk_within (a_co 0) q_hk_chances hk ++ (wCo g a_co co ++ (wBo g a_bo (a_ri 0) bo ++ (wRi g a_ri ri ++ [])))) H locs → f_X11_isProvedTight_L47 n_ x1 co bo ri = some (r_, o_co) → W p l e rm_X11_isProvedTight s m args below meth c H locs 0 0 Q (F0 m 47 ls []) := by
    intro n_
    induction n_ with
    | zero =>
      intro x1 co H locs ls hl hI hf
      rw [f_X11_isProvedTight_L47] at hf
      cases hf
    | succ n_ ih =>
      intro x1 co H locs ls hl hI hf
      rw [f_X11_isProvedTight_L47] at hf
      refine lv_iload_n hx hb dX11_isProvedTight_47 rfl (lv_at hl 1 rfl) ?_
      refine lv_aload_n hx hb dX11_isProvedTight_48 rfl (lv_at hl 0 rfl) ?_
      refine g_HK_rings X hI has_HK.l (X.fl w_677) dX11_isProvedTight_49 ?_
      refine g_Ri_count X hI has_Ri.l.r.r.r (hI.fn (List.mem_of_getElem? (i := 35) rfl)) dX11_isProvedTight_52 ?_
      refine lv_icmp_ge (tgt := 99) hx hb dX11_isProvedTight_55 (by decide) (fun h_ => ?_) (fun h_ => ?_)
      · replace hf := if_t h_ hf
        refine lv_iconst (v := 0) hx hb dX11_isProvedTight_99 (by decide) ?_
        cases hf
        exact end_z hQ hA X hI rfl dX11_isProvedTight_100
      · replace hf := if_f h_ hf
        refine lv_iload_n hx hb dX11_isProvedTight_58 rfl (lv_at hl 1 rfl) ?_
        refine lv_iconst (v := 1) hx hb dX11_isProvedTight_59 (by decide) ?_
        refine lv_iadd hx hb dX11_isProvedTight_60 ?_
        refine lv_topi (fun v_4 e_ => ?_)
        replace hf := lt_to e_ hf
        clear e_
        refine lv_istore_n (lv' := [(2, .int v_4), (0, .ref (a_hk 0)), (1, .int x1)]) hx hb dX11_isProvedTight_61 rfl hl (by decide) rfl (fun ls hl => ?_)
        exact L_62 FU x1 v_4 co _ _ _ _ (lv_sub hl [1, 2, 0] rfl) hI hf (fun z_0 z_1 _ _ _ hl hI hf => ih z_0 z_1 _ _ _ hl hI hf)
  have L_2 : ∀ (n_ : Nat) (x1 : Int32) (co : CoS) (H : Heap) (locs : List Loc) (ls : Array Slot), lv_has ls 3 [(0, .ref (a_hk 0)), (1, .int x1)] → In g A s.heap s (wHK g a_hk q_hk_reader (a_ri 0) q_hk_now q_hk_tried q_hk_history (a_bo 0) q_hk_search q_hk_within (a_co 0) q_hk_chances hk ++ (wCo g a_co co ++ (wBo g a_bo (a_ri 0) bo ++ (wRi g a_ri ri ++ [])))) H locs → f_X11_isProvedTight_L2 n_ x1 co bo ri = some (r_, o_co) → W p l e rm_X11_isProvedTight s m args below meth c H locs 0 0 Q (F0 m 2 ls []) := by
    intro n_
    induction n_ with
    | zero =>
      intro x1 co H locs ls hl hI hf
      rw [f_X11_isProvedTight_L2] at hf
      cases hf
    | succ n_ ih =>
      intro x1 co H locs ls hl hI hf
      rw [f_X11_isProvedTight_L2] at hf
      refine lv_iload_n hx hb dX11_isProvedTight_2 rfl (lv_at hl 1 rfl) ?_
      refine lv_bipush (v := 7) hx hb dX11_isProvedTight_3 (by decide) ?_
      refine lv_icmp_gt (tgt := 45) hx hb dX11_isProvedTight_5 (by decide) (fun h_ => ?_) (fun h_ => ?_)
      · replace hf := if_t h_ hf
        refine lv_iconst (v := 0) hx hb dX11_isProvedTight_45 (by decide) ?_
        refine lv_istore_n (lv' := [(1, .int (0 : Int32)), (0, .ref (a_hk 0))]) hx hb dX11_isProvedTight_46 rfl hl (by decide) rfl (fun ls hl => ?_)
        exact L_47 FU (0 : Int32) co _ _ _ (lv_sub hl [1, 0] rfl) hI hf
      · replace hf := if_f h_ hf
        refine lv_aload_n hx hb dX11_isProvedTight_8 rfl (lv_at hl 0 rfl) ?_
        refine g_HK_colouring X hI has_HK.l (X.fl w_684) dX11_isProvedTight_9 ?_
        refine lv_aload_n hx hb dX11_isProvedTight_12 rfl (lv_at hl 0 rfl) ?_
        refine g_HK_board X hI has_HK.l (X.fl w_681) dX11_isProvedTight_13 ?_
        refine lv_aload_n hx hb dX11_isProvedTight_16 rfl (lv_at hl 0 rfl) ?_
        refine g_HK_rings X hI has_HK.l (X.fl w_677) dX11_isProvedTight_17 ?_
        refine g_Ri_count X hI has_Ri.l.r.r.r (hI.fn (List.mem_of_getElem? (i := 35) rfl)) dX11_isProvedTight_20 ?_
        refine lv_iload_n hx hb dX11_isProvedTight_23 rfl (lv_at hl 1 rfl) ?_
        obtain ⟨r_1, co_2, hc_, hf⟩ := bd2_some hf
        refine call_Vi X hI (Cj.skip (Cj.keep (Cj.keep (Cj.keep Cj.id)))) (c_X2_freeColours l g a_co a_bo a_ri co bo ri (Ri_count ri) x1 r_1 co_2 hc_) ⟨rfl, rfl⟩ ⟨ht _ w_1221, w_1224, ht _ w_153, lk_X2_freeColours⟩ w_1222 w_1223 rfl rfl rfl hl rfl rfl dX11_isProvedTight_24 rfl rfl rfl rfl (fun H locs hI => ?_)
        refine lv_aload_n hx hb dX11_isProvedTight_27 rfl (lv_at hl 0 rfl) ?_
        refine g_HK_rings X hI has_HK.l (X.fl w_677) dX11_isProvedTight_28 ?_
        refine g_Ri_count X hI has_Ri.l.r.r.r (hI.fn (List.mem_of_getElem? (i := 35) rfl)) dX11_isProvedTight_31 ?_
        refine lv_icmp_eq (tgt := 39) hx hb dX11_isProvedTight_34 (by decide) (fun h_ => ?_) (fun h_ => ?_)
        · replace hf := if_t h_ hf
          obtain ⟨v_3, e_⟩ : ∃ y : Int32, y = (x1 + (2 : Int32)) := ⟨_, rfl⟩
          replace hf := lt_to e_ hf
          refine lv_iinc (v := v_3) (lv' := [(1, .int v_3), (0, .ref (a_hk 0))]) hx hb dX11_isProvedTight_39 hl (k := 1) rfl (by rw [e_]; rfl) (by decide) rfl (fun ls hl => ?_)
          clear e_
          refine lv_goto (tgt := 2) hx hb dX11_isProvedTight_42 (by decide) ?_
          exact ih v_3 co_2 _ _ _ (lv_sub hl [1, 0] rfl) hI hf
        · replace hf := if_f h_ hf
          refine lv_iconst (v := 1) hx hb dX11_isProvedTight_37 (by decide) ?_
          cases hf
          exact end_z hQ hA X hI rfl dX11_isProvedTight_38
  unfold f_X11_isProvedTight at hf
  refine lv_iconst (v := 3) hx hb dX11_isProvedTight_0 (by decide) ?_
  refine lv_istore_n (lv' := [(1, .int (3 : Int32)), (0, .ref (a_hk 0))]) hx hb dX11_isProvedTight_1 rfl hl (by decide) rfl (fun ls hl => ?_)
  exact L_2 FU (3 : Int32) co _ _ _ (lv_sub hl [1, 0] rfl) hI hf
abbrev rm_X11_cannot : Room := { frames := 5, cells := 0, slots := 0, locals := 121 }
set_option maxRecDepth 20000 in
theorem c_X11_cannot (l : Launch) (g : GT) (a_hk : Nat → Nat) (a_co : Nat → Nat) (a_bo : Nat → Nat) (a_ri : Nat → Nat) (q_hk_reader : Nat) (q_hk_now : Nat) (q_hk_tried : Nat) (q_hk_history : Nat) (q_hk_search : Nat) (q_hk_within : Nat) (q_hk_chances : Nat) (hk : HKS) (co : CoS) (bo : BoS) (ri : RiS) (r_ : Int32) (o_hk : HKS) (o_co : CoS) (hf : f_X11_cannot hk co bo ri = some (r_, o_hk, o_co)) : CI l yX11_cannot cX11_cannot 1 (some .int) rm_X11_cannot g [.ref (a_hk 0)] (wHK g a_hk q_hk_reader (a_ri 0) q_hk_now q_hk_tried q_hk_history (a_bo 0) q_hk_search q_hk_within (a_co 0) q_hk_chances hk ++ (wCo g a_co co ++ (wBo g a_bo (a_ri 0) bo ++ (wRi g a_ri ri ++ [])))) (wHK g a_hk q_hk_reader (a_ri 0) q_hk_now q_hk_tried q_hk_history (a_bo 0) q_hk_search q_hk_within (a_co 0) q_hk_chances o_hk ++ (wCo g a_co o_co ++ (wBo g a_bo (a_ri 0) bo ++ (wRi g a_ri ri ++ [])))) r_ := by
  refine start2 (y := yX11_cannot) (cc := cX11_cannot) (n := 1) (av := [.ref (a_hk 0)]) (ws := (wHK g a_hk q_hk_reader (a_ri 0) q_hk_now q_hk_tried q_hk_history (a_bo 0) q_hk_search q_hk_within (a_co 0) q_hk_chances hk ++ (wCo g a_co co ++ (wBo g a_bo (a_ri 0) bo ++ (wRi g a_ri ri ++ []))))) (Qc := fun sz => QI g (wHK g a_hk q_hk_reader (a_ri 0) q_hk_now q_hk_tried q_hk_history (a_bo 0) q_hk_search q_hk_within (a_co 0) q_hk_chances hk ++ (wCo g a_co co ++ (wBo g a_bo (a_ri 0) bo ++ (wRi g a_ri ri ++ [])))) (wHK g a_hk q_hk_reader (a_ri 0) q_hk_now q_hk_tried q_hk_history (a_bo 0) q_hk_search q_hk_within (a_co 0) q_hk_chances o_hk ++ (wCo g a_co o_co ++ (wBo g a_bo (a_ri 0) bo ++ (wRi g a_ri ri ++ [])))) r_ sz) (by decide) rfl ?_
  intro p e s m args below meth c ls Q A ha hQ hA X hl hI hin
  have X : Cx p s m args meth c cX11_cannot 1 RX11 (some .int) := X
  have hl : lv_has ls 1 [(0, .ref (a_hk 0))] := hl
  obtain ⟨hx, hb, hml, hown, ht, hr, hlk⟩ := id X
  clear ha hin
  have L_20 : ∀ (t1i : Int32) (hk : HKS) (co : CoS) (H : Heap) (locs : List Loc) (ls : Array Slot), lv_has ls 1 [] → In g A s.heap s (wHK g a_hk q_hk_reader (a_ri 0) q_hk_now q_hk_tried q_hk_history (a_bo 0) q_hk_search q_hk_within (a_co 0) q_hk_chances hk ++ (wCo g a_co co ++ (wBo g a_bo (a_ri 0) bo ++ (wRi g a_ri ri ++ [])))) H locs → f_X11_cannot_L20 t1i hk co = some (r_, o_hk, o_co) → W p l e rm_X11_cannot s m args below meth c H locs 0 0 Q (F0 m 20 ls [.int t1i, .ref (a_hk 0)]) := by
    intro t1i hk co H locs ls hl hI hf
    unfold f_X11_cannot_L20 at hf
    obtain ⟨r_5, hk_6, hc_, hf⟩ := bd2_some hf
    refine call_Vi X hI (Cj.keep Cj.nil) (c_X11_grant l g a_hk q_hk_reader (a_ri 0) q_hk_now q_hk_tried q_hk_history (a_bo 0) q_hk_search q_hk_within (a_co 0) q_hk_chances hk t1i r_5 hk_6 hc_) ⟨rfl, rfl⟩ ⟨ht _ w_995, w_998, ht _ w_139, lk_X11_grant⟩ w_997 w_37 rfl rfl rfl hl rfl rfl dX11_cannot_20 rfl rfl rfl rfl (fun H locs hI => ?_)
    refine lv_goto (tgt := 31) hx hb dX11_cannot_23 (by decide) ?_
    cases hf
    exact end_i hQ hA X hI dX11_cannot_31
  unfold f_X11_cannot at hf
  refine lv_aload_n hx hb dX11_cannot_0 rfl (lv_at hl 0 rfl) ?_
  refine g_HK_there X hI has_HK.l (X.fl w_686) dX11_cannot_1 ?_
  refine lv_if_eq (tgt := 26) hx hb dX11_cannot_4 (by decide) (fun h_ => ?_) (fun h_ => ?_)
  · replace hf := if_t h_ hf
    refine lv_aload_n hx hb dX11_cannot_26 rfl (lv_at hl 0 rfl) ?_
    refine lv_iconst (v := 1) hx hb dX11_cannot_27 (by decide) ?_
    obtain ⟨r_1, hk_2, hc_, hf⟩ := bd2_some hf
    refine call_Vi X hI (Cj.keep Cj.nil) (c_X11_refuse l g a_hk q_hk_reader (a_ri 0) q_hk_now q_hk_tried q_hk_history (a_bo 0) q_hk_search q_hk_within (a_co 0) q_hk_chances hk (1 : Int32) r_1 hk_2 hc_) ⟨rfl, rfl⟩ ⟨ht _ w_729, w_732, ht _ w_139, lk_X11_refuse⟩ w_731 w_0 rfl rfl rfl hl rfl rfl dX11_cannot_28 rfl rfl rfl rfl (fun H locs hI => ?_)
    cases hf
    exact end_i hQ hA X hI dX11_cannot_31
  · replace hf := if_f h_ hf
    refine lv_aload_n hx hb dX11_cannot_7 rfl (lv_at hl 0 rfl) ?_
    refine lv_aload_n hx hb dX11_cannot_8 rfl (lv_at hl 0 rfl) ?_
    obtain ⟨r_3, co_4, hc_, hf⟩ := bd2_some hf
    refine call_Vi X hI (Cj.keep (Cj.keep (Cj.keep (Cj.keep Cj.id)))) (c_X11_isProvedTight l g a_hk a_co a_bo a_ri q_hk_reader q_hk_now q_hk_tried q_hk_history q_hk_search q_hk_within q_hk_chances hk co bo ri r_3 co_4 hc_) ⟨rfl, rfl⟩ ⟨ht _ w_1259, w_1262, ht _ w_139, lk_X11_isProvedTight⟩ w_1261 w_57 rfl rfl rfl hl rfl rfl dX11_cannot_9 rfl rfl rfl rfl (fun H locs hI => ?_)
    refine lv_if_eq (tgt := 19) hx hb dX11_cannot_12 (by decide) (fun h_ => ?_) (fun h_ => ?_)
    · replace hf := if_t h_ hf
      refine lv_iconst (v := 0) hx hb dX11_cannot_19 (by decide) ?_
      exact L_20 (0 : Int32) hk co_4 _ _ _ (lv_sub hl [] rfl) hI hf
    · replace hf := if_f h_ hf
      refine lv_iconst (v := 1) hx hb dX11_cannot_15 (by decide) ?_
      refine lv_goto (tgt := 20) hx hb dX11_cannot_16 (by decide) ?_
      exact L_20 (1 : Int32) hk co_4 _ _ _ (lv_sub hl [] rfl) hI hf
abbrev rm_X11_bestPart : Room := { frames := 6, cells := 0, slots := 0, locals := 147 }
set_option maxRecDepth 20000 in
theorem c_X11_bestPart (l : Launch) (g : GT) (a_hk : Nat → Nat) (a_se : Nat → Nat) (a_sb : Nat → Nat) (a_tr : Nat → Nat) (a_now : Nat → Nat) (a_ri : Nat → Nat) (q_hk_reader : Nat) (q_hk_history : Nat) (q_hk_board : Nat) (q_hk_within : Nat) (q_hk_colouring : Nat) (q_hk_chances : Nat) (hk : HKS) (se : SeS) (sb : BoS) (tr : MoS) (now : MoS) (ri : RiS) (p1 : Int32) (r_ : Int32) (o_se : SeS) (o_sb : BoS) (o_tr : MoS) (hf : f_X11_bestPart se sb tr now ri p1 = some (r_, o_se, o_sb, o_tr)) : CI l yX11_bestPart cX11_bestPart 6 (some .int) rm_X11_bestPart g [.ref (a_hk 0), .int p1] (wHK g a_hk q_hk_reader (a_ri 0) (a_now 0) (a_tr 0) q_hk_history q_hk_board (a_se 0) q_hk_within q_hk_colouring q_hk_chances hk ++ (wSe g a_se (a_sb 0) se ++ (wBo g a_sb (a_ri 0) sb ++ (wMo g a_tr tr ++ (wMo g a_now now ++ (wRi g a_ri ri ++ [])))))) (wHK g a_hk q_hk_reader (a_ri 0) (a_now 0) (a_tr 0) q_hk_history q_hk_board (a_se 0) q_hk_within q_hk_colouring q_hk_chances hk ++ (wSe g a_se (a_sb 0) o_se ++ (wBo g a_sb (a_ri 0) o_sb ++ (wMo g a_tr o_tr ++ (wMo g a_now now ++ (wRi g a_ri ri ++ [])))))) r_ := by
  refine start2 (y := yX11_bestPart) (cc := cX11_bestPart) (n := 6) (av := [.ref (a_hk 0), .int p1]) (ws := (wHK g a_hk q_hk_reader (a_ri 0) (a_now 0) (a_tr 0) q_hk_history q_hk_board (a_se 0) q_hk_within q_hk_colouring q_hk_chances hk ++ (wSe g a_se (a_sb 0) se ++ (wBo g a_sb (a_ri 0) sb ++ (wMo g a_tr tr ++ (wMo g a_now now ++ (wRi g a_ri ri ++ []))))))) (Qc := fun sz => QI g (wHK g a_hk q_hk_reader (a_ri 0) (a_now 0) (a_tr 0) q_hk_history q_hk_board (a_se 0) q_hk_within q_hk_colouring q_hk_chances hk ++ (wSe g a_se (a_sb 0) se ++ (wBo g a_sb (a_ri 0) sb ++ (wMo g a_tr tr ++ (wMo g a_now now ++ (wRi g a_ri ri ++ [])))))) (wHK g a_hk q_hk_reader (a_ri 0) (a_now 0) (a_tr 0) q_hk_history q_hk_board (a_se 0) q_hk_within q_hk_colouring q_hk_chances hk ++ (wSe g a_se (a_sb 0) o_se ++ (wBo g a_sb (a_ri 0) o_sb ++ (wMo g a_tr o_tr ++ (wMo g a_now now ++ (wRi g a_ri ri ++ [])))))) r_ sz) (by decide) rfl ?_
  intro p e s m args below meth c ls Q A ha hQ hA X hl hI hin
  have X : Cx p s m args meth c cX11_bestPart 6 RX11 (some .int) := X
  have hl : lv_has ls 6 [(0, .ref (a_hk 0)), (1, .int p1)] := hl
  obtain ⟨hx, hb, hml, hown, ht, hr, hlk⟩ := id X
  clear ha hin
  have L_88 : ∀ (x1 : Int32) (x2 : Int32) (x3 : Int32) (x4 : Int32) (se : SeS) (sb : BoS) (tr : MoS) (k10 : (Int32) → (Int32) → (Int32) → (Int32) → (SeS) → (BoS) → (MoS) → (MoS) → (RiS) → Option (Int32 × (SeS) × (BoS) × (MoS))) (H : Heap) (locs : List Loc) (ls : Array Slot), lv_has ls 6 [(0, .ref (a_hk 0)), (1, .int x1), (2, .int x2), (3, .int x3), (4, .int x4)] → In g A s.heap s (wHK g a_hk q_hk_reader (a_ri 0) (a_now 0) (a_tr 0) q_hk_history q_hk_board (a_se 0) q_hk_within q_hk_colouring q_hk_chances hk ++ (wSe g a_se (a_sb 0) se ++ (wBo g a_sb (a_ri 0) sb ++ (wMo g a_tr tr ++ (wMo g a_now now ++ (wRi g a_ri ri ++ [])))))) H locs → f_X11_bestPart_L88 x1 x2 x3 x4 se sb tr now ri k10 = some (r_, o_se, o_sb, o_tr) → (∀ (x1 : Int32) (x2 : Int32) (x3 : Int32) (x4 : Int32) (se : SeS) (sb : BoS) (tr : MoS) (H : Heap) (locs : List Loc) (ls : Array Slot), lv_has ls 6 [(0, .ref (a_hk 0)), (1, .int x1), (2, .int x2), (3, .int x3), (4, .int x4)] → In g A s.heap s (wHK g a_hk q_hk_reader (a_ri 0) (a_now 0) (a_tr 0) q_hk_history q_hk_board (a_se 0) q_hk_within q_hk_colouring q_hk_chances hk ++ (wSe g a_se (a_sb 0) se ++ (wBo g a_sb (a_ri 0) sb ++ (wMo g a_tr tr ++ (wMo g a_now now ++ (wRi g a_ri ri ++ [])))))) H locs → k10 x1 x2 x3 x4 se sb tr now ri = some (r_, o_se, o_sb, o_tr) → W p l e rm_X11_bestPart s m args below meth c H locs 0 0 Q (F0 m 10 ls [])) → W p l e rm_X11_bestPart s m args below meth c H locs 0 0 Q (F0 m 88 ls []) := by
    intro x1 x2 x3 x4 se sb tr k10 H locs ls hl hI hf hk10
    unfold f_X11_bestPart_L88 at hf
    obtain ⟨v_7, e_⟩ : ∃ y : Int32, y = (x4 + (1 : Int32)) := ⟨_, rfl⟩
    replace hf := lt_to e_ hf
    refine lv_iinc (v := v_7) (lv' := [(4, .int v_7), (0, .ref (a_hk 0)), (1, .int x1), (2, .int x2), (3, .int x3)]) hx hb dX11_bestPart_88 hl (k := 4) rfl (by rw [e_]; rfl) (by decide) rfl (fun ls hl => ?_)
    clear e_
    refine lv_goto (tgt := 10) hx hb dX11_bestPart_91 (by decide) ?_
    exact hk10 x1 x2 x3 v_7 se sb tr _ _ _ (lv_sub hl [1, 2, 3, 4, 0] rfl) hI hf
  have L_10 : ∀ (n_ : Nat) (x1 : Int32) (x2 : Int32) (x3 : Int32) (x4 : Int32) (se : SeS) (sb : BoS) (tr : MoS) (H : Heap) (locs : List Loc) (ls : Array Slot), lv_has ls 6 [(0, .ref (a_hk 0)), (1, .int x1), (2, .int x2), (3, .int x3), (4, .int x4)] → In g A s.heap s (wHK g a_hk q_hk_reader (a_ri 0) (a_now 0) (a_tr 0) q_hk_history q_hk_board (a_se 0) q_hk_within q_hk_colouring q_hk_chances hk ++ (wSe g a_se (a_sb 0) se ++ (wBo g a_sb (a_ri 0) sb ++ (wMo g a_tr tr ++ (wMo g a_now now ++ (wRi g a_ri ri ++ [])))))) H locs → f_X11_bestPart_L10 n_ x1 x2 x3 x4 se sb tr now ri = some (r_, o_se, o_sb, o_tr) → W p l e rm_X11_bestPart s m args below meth c H locs 0 0 Q (F0 m 10 ls []) := by
    intro n_
    induction n_ with
    | zero =>
      intro x1 x2 x3 x4 se sb tr H locs ls hl hI hf
      rw [f_X11_bestPart_L10] at hf
      cases hf
    | succ n_ ih =>
      intro x1 x2 x3 x4 se sb tr H locs ls hl hI hf
      rw [f_X11_bestPart_L10] at hf
      refine lv_iload hx hb dX11_bestPart_10 (lv_at hl 4 rfl) ?_
      refine lv_aload_n hx hb dX11_bestPart_12 rfl (lv_at hl 0 rfl) ?_
      refine g_HK_rings X hI has_HK.l (X.fl w_677) dX11_bestPart_13 ?_
      refine g_Ri_links X hI has_Ri.l.r.r.r.r.r (hI.fn (List.mem_of_getElem? (i := 29) rfl)) dX11_bestPart_16 ?_
      refine lv_icmp_ge (tgt := 94) hx hb dX11_bestPart_19 (by decide) (fun h_ => ?_) (fun h_ => ?_)
      · replace hf := if_t h_ hf
        refine lv_iload_n hx hb dX11_bestPart_94 rfl (lv_at hl 2 rfl) ?_
        cases hf
        exact end_i hQ hA X hI dX11_bestPart_95
      · replace hf := if_f h_ hf
        refine lv_aload_n hx hb dX11_bestPart_22 rfl (lv_at hl 0 rfl) ?_
        refine g_HK_tried X hI has_HK.l (X.fl w_679) dX11_bestPart_23 ?_
        refine lv_aload_n hx hb dX11_bestPart_26 rfl (lv_at hl 0 rfl) ?_
        refine g_HK_now X hI has_HK.l (X.fl w_678) dX11_bestPart_27 ?_
        obtain ⟨tr_2, hc_, hf⟩ := bd1_some hf
        refine call_Vv X hI (Cj.skip (Cj.skip (Cj.skip (Cj.keep (Cj.keep Cj.nil))))) (c_X4_become l g a_tr a_now tr now tr_2 hc_) ⟨rfl, rfl⟩ ⟨ht _ w_1271, w_1274, ht _ w_148, lk_X4_become⟩ w_1272 w_1273 rfl rfl rfl hl rfl rfl dX11_bestPart_30 rfl rfl rfl rfl (fun H locs hI => ?_)
        refine lv_aload_n hx hb dX11_bestPart_33 rfl (lv_at hl 0 rfl) ?_
        refine g_HK_tried X hI has_HK.l (X.fl w_679) dX11_bestPart_34 ?_
        refine lv_aload_n hx hb dX11_bestPart_37 rfl (lv_at hl 0 rfl) ?_
        refine g_HK_rings X hI has_HK.l (X.fl w_677) dX11_bestPart_38 ?_
        refine lv_iload hx hb dX11_bestPart_41 (lv_at hl 4 rfl) ?_
        obtain ⟨tr_3, hc_, hf⟩ := bd1_some hf
        refine call_Vv X hI (Cj.skip (Cj.skip (Cj.skip (Cj.keep (Cj.skip (Cj.keep Cj.id)))))) (c_X4_letGo l g a_tr a_ri tr_2 ri x4 tr_3 hc_) ⟨rfl, rfl⟩ ⟨ht _ w_1275, w_1278, ht _ w_148, lk_X4_letGo⟩ w_1276 w_1277 rfl rfl rfl hl rfl rfl dX11_bestPart_43 rfl rfl rfl rfl (fun H locs hI => ?_)
        refine lv_aload_n hx hb dX11_bestPart_46 rfl (lv_at hl 0 rfl) ?_
        refine g_HK_search X hI has_HK.l (X.fl w_682) dX11_bestPart_47 ?_
        refine lv_aload_n hx hb dX11_bestPart_50 rfl (lv_at hl 0 rfl) ?_
        refine g_HK_tried X hI has_HK.l (X.fl w_679) dX11_bestPart_51 ?_
        refine lv_iload_n hx hb dX11_bestPart_54 rfl (lv_at hl 1 rfl) ?_
        refine lv_iconst (v := 1) hx hb dX11_bestPart_55 (by decide) ?_
        obtain ⟨r_4, se_5, sb_6, hc_, hf⟩ := bd3_some hf
        refine call_Vi X hI (Cj.skip (Cj.keep (Cj.keep (Cj.keep (Cj.skip (Cj.keep Cj.id)))))) (c_X7_grow l g a_se a_sb a_tr a_ri se sb tr_3 ri x1 (1 : Int32) r_4 se_5 sb_6 hc_) ⟨rfl, rfl⟩ ⟨ht _ w_1141, w_1144, ht _ w_151, lk_X7_grow⟩ w_1142 w_1143 rfl rfl rfl hl rfl rfl dX11_bestPart_56 rfl rfl rfl rfl (fun H locs hI => ?_)
        refine lv_istore (lv' := [(5, .int r_4), (0, .ref (a_hk 0)), (1, .int x1), (2, .int x2), (3, .int x3), (4, .int x4)]) hx hb dX11_bestPart_59 hl (by decide) rfl (fun ls hl => ?_)
        refine lv_iload hx hb dX11_bestPart_61 (lv_at hl 0 rfl) ?_
        refine lv_bipush (v := (-3)) hx hb dX11_bestPart_63 (by decide) ?_
        refine lv_icmp_ne (tgt := 71) hx hb dX11_bestPart_65 (by decide) (fun h_ => ?_) (fun h_ => ?_)
        · replace hf := if_f h_ hf
          refine lv_iload hx hb dX11_bestPart_71 (lv_at hl 0 rfl) ?_
          refine lv_if_lt (tgt := 88) hx hb dX11_bestPart_73 (by decide) (fun h_ => ?_) (fun h_ => ?_)
          · replace hf := if_t h_ hf
            exact L_88 x1 x2 x3 x4 se_5 sb_6 tr_3 _ _ _ _ (lv_sub hl [1, 2, 3, 4, 5] rfl) hI hf (fun z_0 z_1 z_2 z_3 z_4 z_5 z_6 _ _ _ hl hI hf => ih z_0 z_1 z_2 z_3 z_4 z_5 z_6 _ _ _ hl hI hf)
          · replace hf := if_f h_ hf
            refine lv_iload hx hb dX11_bestPart_76 (lv_at hl 0 rfl) ?_
            refine lv_iload_n hx hb dX11_bestPart_78 rfl (lv_at hl 4 rfl) ?_
            refine lv_icmp_ge (tgt := 88) hx hb dX11_bestPart_79 (by decide) (fun h_ => ?_) (fun h_ => ?_)
            · replace hf := if_t h_ hf
              exact L_88 x1 x2 x3 x4 se_5 sb_6 tr_3 _ _ _ _ (lv_sub hl [1, 2, 3, 4, 5] rfl) hI hf (fun z_0 z_1 z_2 z_3 z_4 z_5 z_6 _ _ _ hl hI hf => ih z_0 z_1 z_2 z_3 z_4 z_5 z_6 _ _ _ hl hI hf)
            · replace hf := if_f h_ hf
              refine lv_iload hx hb dX11_bestPart_82 (lv_at hl 0 rfl) ?_
              refine lv_istore_n (lv' := [(3, .int r_4), (5, .int r_4), (0, .ref (a_hk 0)), (1, .int x1), (2, .int x2), (4, .int x4)]) hx hb dX11_bestPart_84 rfl hl (by decide) rfl (fun ls hl => ?_)
              refine lv_iload hx hb dX11_bestPart_85 (lv_at hl 5 rfl) ?_
              refine lv_istore_n (lv' := [(2, .int x4), (3, .int r_4), (5, .int r_4), (0, .ref (a_hk 0)), (1, .int x1), (4, .int x4)]) hx hb dX11_bestPart_87 rfl hl (by decide) rfl (fun ls hl => ?_)
              exact L_88 x1 x4 r_4 x4 se_5 sb_6 tr_3 _ _ _ _ (lv_sub hl [3, 4, 0, 1, 5] rfl) hI hf (fun z_0 z_1 z_2 z_3 z_4 z_5 z_6 _ _ _ hl hI hf => ih z_0 z_1 z_2 z_3 z_4 z_5 z_6 _ _ _ hl hI hf)
        · replace hf := if_t h_ hf
          refine lv_iload hx hb dX11_bestPart_68 (lv_at hl 0 rfl) ?_
          cases hf
          exact end_i hQ hA X hI dX11_bestPart_70
  unfold f_X11_bestPart at hf
  refine lv_bipush (v := (-2)) hx hb dX11_bestPart_0 (by decide) ?_
  refine lv_istore_n (lv' := [(2, .int (-2 : Int32)), (0, .ref (a_hk 0)), (1, .int p1)]) hx hb dX11_bestPart_2 rfl hl (by decide) rfl (fun ls hl => ?_)
  refine lv_iload_n hx hb dX11_bestPart_3 rfl (lv_at hl 2 rfl) ?_
  refine lv_iconst (v := 1) hx hb dX11_bestPart_4 (by decide) ?_
  refine lv_iadd hx hb dX11_bestPart_5 ?_
  refine lv_topi (fun v_1 e_ => ?_)
  replace hf := lt_to e_ hf
  clear e_
  refine lv_istore_n (lv' := [(3, .int v_1), (2, .int (-2 : Int32)), (0, .ref (a_hk 0)), (1, .int p1)]) hx hb dX11_bestPart_6 rfl hl (by decide) rfl (fun ls hl => ?_)
  refine lv_iconst (v := 0) hx hb dX11_bestPart_7 (by decide) ?_
  refine lv_istore (lv' := [(4, .int (0 : Int32)), (3, .int v_1), (2, .int (-2 : Int32)), (0, .ref (a_hk 0)), (1, .int p1)]) hx hb dX11_bestPart_8 hl (by decide) rfl (fun ls hl => ?_)
  exact L_10 FU p1 (-2 : Int32) v_1 (0 : Int32) se sb tr _ _ _ (lv_sub hl [3, 4, 2, 1, 0] rfl) hI hf
abbrev rm_X11_part : Room := { frames := 7, cells := 0, slots := 0, locals := 172 }
set_option maxRecDepth 20000 in
theorem c_X11_part (l : Launch) (g : GT) (a_hk : Nat → Nat) (a_se : Nat → Nat) (a_sb : Nat → Nat) (a_tr : Nat → Nat) (a_now : Nat → Nat) (a_ri : Nat → Nat) (q_hk_reader : Nat) (q_hk_history : Nat) (q_hk_board : Nat) (q_hk_within : Nat) (q_hk_colouring : Nat) (q_hk_chances : Nat) (hk : HKS) (se : SeS) (sb : BoS) (tr : MoS) (now : MoS) (ri : RiS) (p1 : Int32) (r_ : Int32) (o_hk : HKS) (o_se : SeS) (o_sb : BoS) (o_tr : MoS) (hf : f_X11_part hk se sb tr now ri p1 = some (r_, o_hk, o_se, o_sb, o_tr)) : CI l yX11_part cX11_part 3 (some .int) rm_X11_part g [.ref (a_hk 0), .int p1] (wHK g a_hk q_hk_reader (a_ri 0) (a_now 0) (a_tr 0) q_hk_history q_hk_board (a_se 0) q_hk_within q_hk_colouring q_hk_chances hk ++ (wSe g a_se (a_sb 0) se ++ (wBo g a_sb (a_ri 0) sb ++ (wMo g a_tr tr ++ (wMo g a_now now ++ (wRi g a_ri ri ++ [])))))) (wHK g a_hk q_hk_reader (a_ri 0) (a_now 0) (a_tr 0) q_hk_history q_hk_board (a_se 0) q_hk_within q_hk_colouring q_hk_chances o_hk ++ (wSe g a_se (a_sb 0) o_se ++ (wBo g a_sb (a_ri 0) o_sb ++ (wMo g a_tr o_tr ++ (wMo g a_now now ++ (wRi g a_ri ri ++ [])))))) r_ := by
  refine start2 (y := yX11_part) (cc := cX11_part) (n := 3) (av := [.ref (a_hk 0), .int p1]) (ws := (wHK g a_hk q_hk_reader (a_ri 0) (a_now 0) (a_tr 0) q_hk_history q_hk_board (a_se 0) q_hk_within q_hk_colouring q_hk_chances hk ++ (wSe g a_se (a_sb 0) se ++ (wBo g a_sb (a_ri 0) sb ++ (wMo g a_tr tr ++ (wMo g a_now now ++ (wRi g a_ri ri ++ []))))))) (Qc := fun sz => QI g (wHK g a_hk q_hk_reader (a_ri 0) (a_now 0) (a_tr 0) q_hk_history q_hk_board (a_se 0) q_hk_within q_hk_colouring q_hk_chances hk ++ (wSe g a_se (a_sb 0) se ++ (wBo g a_sb (a_ri 0) sb ++ (wMo g a_tr tr ++ (wMo g a_now now ++ (wRi g a_ri ri ++ [])))))) (wHK g a_hk q_hk_reader (a_ri 0) (a_now 0) (a_tr 0) q_hk_history q_hk_board (a_se 0) q_hk_within q_hk_colouring q_hk_chances o_hk ++ (wSe g a_se (a_sb 0) o_se ++ (wBo g a_sb (a_ri 0) o_sb ++ (wMo g a_tr o_tr ++ (wMo g a_now now ++ (wRi g a_ri ri ++ [])))))) r_ sz) (by decide) rfl ?_
  intro p e s m args below meth c ls Q A ha hQ hA X hl hI hin
  have X : Cx p s m args meth c cX11_part 3 RX11 (some .int) := X
  have hl : lv_has ls 3 [(0, .ref (a_hk 0)), (1, .int p1)] := hl
  obtain ⟨hx, hb, hml, hown, ht, hr, hlk⟩ := id X
  clear ha hin
  unfold f_X11_part at hf
  refine lv_aload_n hx hb dX11_part_0 rfl (lv_at hl 0 rfl) ?_
  refine g_HK_there X hI has_HK.l (X.fl w_686) dX11_part_1 ?_
  refine lv_if_ne (tgt := 13) hx hb dX11_part_4 (by decide) (fun h_ => ?_) (fun h_ => ?_)
  · replace hf := if_f h_ hf
    refine lv_iload_n hx hb dX11_part_13 rfl (lv_at hl 1 rfl) ?_
    obtain ⟨r_1, hc_, hf⟩ := bd1_some hf
    refine call_Si X hI Cj.nil (c_X11_isDepth l g p1 r_1 hc_) ⟨rfl, rfl⟩ ⟨ht _ w_1138, w_1140, ht _ w_139, lk_X11_isDepth⟩ w_1139 rfl hl rfl rfl dX11_part_14 rfl rfl rfl rfl (fun H locs hI => ?_)
    refine lv_if_ne (tgt := 26) hx hb dX11_part_17 (by decide) (fun h_ => ?_) (fun h_ => ?_)
    · replace hf := if_f h_ hf
      refine lv_aload_n hx hb dX11_part_26 rfl (lv_at hl 0 rfl) ?_
      refine g_HK_now X hI has_HK.l (X.fl w_678) dX11_part_27 ?_
      refine g_Mo_parted X hI has_Mo.l.r.r.r.r (hI.fn (List.mem_of_getElem? (i := 64) rfl)) dX11_part_30 ?_
      refine lv_bipush (v := (-2)) hx hb dX11_part_33 (by decide) ?_
      refine lv_icmp_eq (tgt := 44) hx hb dX11_part_35 (by decide) (fun h_ => ?_) (fun h_ => ?_)
      · replace hf := if_t h_ hf
        refine lv_aload_n hx hb dX11_part_44 rfl (lv_at hl 0 rfl) ?_
        refine lv_iload_n hx hb dX11_part_45 rfl (lv_at hl 1 rfl) ?_
        obtain ⟨r_2, se_3, sb_4, tr_5, hc_, hf⟩ := bd4_some hf
        refine call_Vi X hI (Cj.keep (Cj.keep (Cj.keep (Cj.keep (Cj.keep (Cj.keep Cj.id)))))) (c_X11_bestPart l g a_hk a_se a_sb a_tr a_now a_ri q_hk_reader q_hk_history q_hk_board q_hk_within q_hk_colouring q_hk_chances hk se sb tr now ri p1 r_2 se_3 sb_4 tr_5 hc_) ⟨rfl, rfl⟩ ⟨ht _ w_1267, w_1270, ht _ w_139, lk_X11_bestPart⟩ w_1269 w_58 rfl rfl rfl hl rfl rfl dX11_part_46 rfl rfl rfl rfl (fun H locs hI => ?_)
        refine lv_istore_n (lv' := [(2, .int r_2), (0, .ref (a_hk 0)), (1, .int p1)]) hx hb dX11_part_49 rfl hl (by decide) rfl (fun ls hl => ?_)
        refine lv_iload_n hx hb dX11_part_50 rfl (lv_at hl 0 rfl) ?_
        refine lv_bipush (v := (-3)) hx hb dX11_part_51 (by decide) ?_
        refine lv_icmp_ne (tgt := 64) hx hb dX11_part_53 (by decide) (fun h_ => ?_) (fun h_ => ?_)
        · replace hf := if_f h_ hf
          refine lv_aload_n hx hb dX11_part_64 rfl (lv_at hl 1 rfl) ?_
          refine lv_iload_n hx hb dX11_part_65 rfl (lv_at hl 0 rfl) ?_
          obtain ⟨r_6, hk_7, hc_, hf⟩ := bd2_some hf
          refine call_Vi X hI (Cj.keep Cj.nil) (c_X11_grant l g a_hk q_hk_reader (a_ri 0) (a_now 0) (a_tr 0) q_hk_history q_hk_board (a_se 0) q_hk_within q_hk_colouring q_hk_chances hk r_2 r_6 hk_7 hc_) ⟨rfl, rfl⟩ ⟨ht _ w_995, w_998, ht _ w_139, lk_X11_grant⟩ w_997 w_37 rfl rfl rfl hl rfl rfl dX11_part_66 rfl rfl rfl rfl (fun H locs hI => ?_)
          cases hf
          exact end_i hQ hA X hI dX11_part_69
        · replace hf := if_t h_ hf
          refine lv_aload_n hx hb dX11_part_56 rfl (lv_at hl 1 rfl) ?_
          refine lv_iconst (v := 3) hx hb dX11_part_57 (by decide) ?_
          obtain ⟨r_8, hk_9, hc_, hf⟩ := bd2_some hf
          refine call_Vi X hI (Cj.keep Cj.nil) (c_X11_refuse l g a_hk q_hk_reader (a_ri 0) (a_now 0) (a_tr 0) q_hk_history q_hk_board (a_se 0) q_hk_within q_hk_colouring q_hk_chances hk (3 : Int32) r_8 hk_9 hc_) ⟨rfl, rfl⟩ ⟨ht _ w_729, w_732, ht _ w_139, lk_X11_refuse⟩ w_731 w_0 rfl rfl rfl hl rfl rfl dX11_part_58 rfl rfl rfl rfl (fun H locs hI => ?_)
          refine lv_goto (tgt := 69) hx hb dX11_part_61 (by decide) ?_
          cases hf
          exact end_i hQ hA X hI dX11_part_69
      · replace hf := if_f h_ hf
        refine lv_aload_n hx hb dX11_part_38 rfl (lv_at hl 0 rfl) ?_
        refine lv_iconst (v := 5) hx hb dX11_part_39 (by decide) ?_
        obtain ⟨r_10, hk_11, hc_, hf⟩ := bd2_some hf
        refine call_Vi X hI (Cj.keep Cj.nil) (c_X11_refuse l g a_hk q_hk_reader (a_ri 0) (a_now 0) (a_tr 0) q_hk_history q_hk_board (a_se 0) q_hk_within q_hk_colouring q_hk_chances hk (5 : Int32) r_10 hk_11 hc_) ⟨rfl, rfl⟩ ⟨ht _ w_729, w_732, ht _ w_139, lk_X11_refuse⟩ w_731 w_0 rfl rfl rfl hl rfl rfl dX11_part_40 rfl rfl rfl rfl (fun H locs hI => ?_)
        cases hf
        exact end_i hQ hA X hI dX11_part_43
    · replace hf := if_t h_ hf
      refine lv_aload_n hx hb dX11_part_20 rfl (lv_at hl 0 rfl) ?_
      refine lv_iconst (v := 2) hx hb dX11_part_21 (by decide) ?_
      obtain ⟨r_12, hk_13, hc_, hf⟩ := bd2_some hf
      refine call_Vi X hI (Cj.keep Cj.nil) (c_X11_refuse l g a_hk q_hk_reader (a_ri 0) (a_now 0) (a_tr 0) q_hk_history q_hk_board (a_se 0) q_hk_within q_hk_colouring q_hk_chances hk (2 : Int32) r_12 hk_13 hc_) ⟨rfl, rfl⟩ ⟨ht _ w_729, w_732, ht _ w_139, lk_X11_refuse⟩ w_731 w_0 rfl rfl rfl hl rfl rfl dX11_part_22 rfl rfl rfl rfl (fun H locs hI => ?_)
      cases hf
      exact end_i hQ hA X hI dX11_part_25
  · replace hf := if_t h_ hf
    refine lv_aload_n hx hb dX11_part_7 rfl (lv_at hl 0 rfl) ?_
    refine lv_iconst (v := 1) hx hb dX11_part_8 (by decide) ?_
    obtain ⟨r_14, hk_15, hc_, hf⟩ := bd2_some hf
    refine call_Vi X hI (Cj.keep Cj.nil) (c_X11_refuse l g a_hk q_hk_reader (a_ri 0) (a_now 0) (a_tr 0) q_hk_history q_hk_board (a_se 0) q_hk_within q_hk_colouring q_hk_chances hk (1 : Int32) r_14 hk_15 hc_) ⟨rfl, rfl⟩ ⟨ht _ w_729, w_732, ht _ w_139, lk_X11_refuse⟩ w_731 w_0 rfl rfl rfl hl rfl rfl dX11_part_9 rfl rfl rfl rfl (fun H locs hI => ?_)
    cases hf
    exact end_i hQ hA X hI dX11_part_12
abbrev rm_X11_bestLift : Room := { frames := 6, cells := 0, slots := 0, locals := 147 }
set_option maxRecDepth 20000 in
theorem c_X11_bestLift (l : Launch) (g : GT) (a_hk : Nat → Nat) (a_se : Nat → Nat) (a_bo : Nat → Nat) (a_sb : Nat → Nat) (a_tr : Nat → Nat) (a_now : Nat → Nat) (a_ri : Nat → Nat) (q_hk_reader : Nat) (q_hk_history : Nat) (q_hk_within : Nat) (q_hk_colouring : Nat) (q_hk_chances : Nat) (hk : HKS) (se : SeS) (bo : BoS) (sb : BoS) (tr : MoS) (now : MoS) (ri : RiS) (p1 : Int32) (r_ : Int32) (o_se : SeS) (o_sb : BoS) (o_tr : MoS) (hf : f_X11_bestLift se bo sb tr now ri p1 = some (r_, o_se, o_sb, o_tr)) : CI l yX11_bestLift cX11_bestLift 6 (some .int) rm_X11_bestLift g [.ref (a_hk 0), .int p1] (wHK g a_hk q_hk_reader (a_ri 0) (a_now 0) (a_tr 0) q_hk_history (a_bo 0) (a_se 0) q_hk_within q_hk_colouring q_hk_chances hk ++ (wSe g a_se (a_sb 0) se ++ (wBo g a_bo (a_ri 0) bo ++ (wBo g a_sb (a_ri 0) sb ++ (wMo g a_tr tr ++ (wMo g a_now now ++ (wRi g a_ri ri ++ []))))))) (wHK g a_hk q_hk_reader (a_ri 0) (a_now 0) (a_tr 0) q_hk_history (a_bo 0) (a_se 0) q_hk_within q_hk_colouring q_hk_chances hk ++ (wSe g a_se (a_sb 0) o_se ++ (wBo g a_bo (a_ri 0) bo ++ (wBo g a_sb (a_ri 0) o_sb ++ (wMo g a_tr o_tr ++ (wMo g a_now now ++ (wRi g a_ri ri ++ []))))))) r_ := by
  refine start2 (y := yX11_bestLift) (cc := cX11_bestLift) (n := 6) (av := [.ref (a_hk 0), .int p1]) (ws := (wHK g a_hk q_hk_reader (a_ri 0) (a_now 0) (a_tr 0) q_hk_history (a_bo 0) (a_se 0) q_hk_within q_hk_colouring q_hk_chances hk ++ (wSe g a_se (a_sb 0) se ++ (wBo g a_bo (a_ri 0) bo ++ (wBo g a_sb (a_ri 0) sb ++ (wMo g a_tr tr ++ (wMo g a_now now ++ (wRi g a_ri ri ++ [])))))))) (Qc := fun sz => QI g (wHK g a_hk q_hk_reader (a_ri 0) (a_now 0) (a_tr 0) q_hk_history (a_bo 0) (a_se 0) q_hk_within q_hk_colouring q_hk_chances hk ++ (wSe g a_se (a_sb 0) se ++ (wBo g a_bo (a_ri 0) bo ++ (wBo g a_sb (a_ri 0) sb ++ (wMo g a_tr tr ++ (wMo g a_now now ++ (wRi g a_ri ri ++ []))))))) (wHK g a_hk q_hk_reader (a_ri 0) (a_now 0) (a_tr 0) q_hk_history (a_bo 0) (a_se 0) q_hk_within q_hk_colouring q_hk_chances hk ++ (wSe g a_se (a_sb 0) o_se ++ (wBo g a_bo (a_ri 0) bo ++ (wBo g a_sb (a_ri 0) o_sb ++ (wMo g a_tr o_tr ++ (wMo g a_now now ++ (wRi g a_ri ri ++ []))))))) r_ sz) (by decide) rfl ?_
  intro p e s m args below meth c ls Q A ha hQ hA X hl hI hin
  have X : Cx p s m args meth c cX11_bestLift 6 RX11 (some .int) := X
  have hl : lv_has ls 6 [(0, .ref (a_hk 0)), (1, .int p1)] := hl
  obtain ⟨hx, hb, hml, hown, ht, hr, hlk⟩ := id X
  clear ha hin
  have L_99 : ∀ (x1 : Int32) (x2 : Int32) (x3 : Int32) (x4 : Int32) (se : SeS) (sb : BoS) (tr : MoS) (k10 : (Int32) → (Int32) → (Int32) → (Int32) → (SeS) → (BoS) → (MoS) → (BoS) → (MoS) → (RiS) → Option (Int32 × (SeS) × (BoS) × (MoS))) (H : Heap) (locs : List Loc) (ls : Array Slot), lv_has ls 6 [(0, .ref (a_hk 0)), (1, .int x1), (2, .int x2), (3, .int x3), (4, .int x4)] → In g A s.heap s (wHK g a_hk q_hk_reader (a_ri 0) (a_now 0) (a_tr 0) q_hk_history (a_bo 0) (a_se 0) q_hk_within q_hk_colouring q_hk_chances hk ++ (wSe g a_se (a_sb 0) se ++ (wBo g a_bo (a_ri 0) bo ++ (wBo g a_sb (a_ri 0) sb ++ (wMo g a_tr tr ++ (wMo g a_now now ++ (wRi g a_ri ri ++ []))))))) H locs → f_X11_bestLift_L99 x1 x2 x3 x4 se sb tr bo now ri k10 = some (r_, o_se, o_sb, o_tr) → (∀ (x1 : Int32) (x2 : Int32) (x3 : Int32) (x4 : Int32) (se : SeS) (sb : BoS) (tr : MoS) (H : Heap) (locs : List Loc) (ls : Array Slot), lv_has ls 6 [(0, .ref (a_hk 0)), (1, .int x1), (2, .int x2), (3, .int x3), (4, .int x4)] → In g A s.heap s (wHK g a_hk q_hk_reader (a_ri 0) (a_now 0) (a_tr 0) q_hk_history (a_bo 0) (a_se 0) q_hk_within q_hk_colouring q_hk_chances hk ++ (wSe g a_se (a_sb 0) se ++ (wBo g a_bo (a_ri 0) bo ++ (wBo g a_sb (a_ri 0) sb ++ (wMo g a_tr tr ++ (wMo g a_now now ++ (wRi g a_ri ri ++ []))))))) H locs → k10 x1 x2 x3 x4 se sb tr bo now ri = some (r_, o_se, o_sb, o_tr) → W p l e rm_X11_bestLift s m args below meth c H locs 0 0 Q (F0 m 10 ls [])) → W p l e rm_X11_bestLift s m args below meth c H locs 0 0 Q (F0 m 99 ls []) := by
    intro x1 x2 x3 x4 se sb tr k10 H locs ls hl hI hf hk10
    unfold f_X11_bestLift_L99 at hf
    obtain ⟨v_8, e_⟩ : ∃ y : Int32, y = (x4 + (1 : Int32)) := ⟨_, rfl⟩
    replace hf := lt_to e_ hf
    refine lv_iinc (v := v_8) (lv' := [(4, .int v_8), (0, .ref (a_hk 0)), (1, .int x1), (2, .int x2), (3, .int x3)]) hx hb dX11_bestLift_99 hl (k := 4) rfl (by rw [e_]; rfl) (by decide) rfl (fun ls hl => ?_)
    clear e_
    refine lv_goto (tgt := 10) hx hb dX11_bestLift_102 (by decide) ?_
    exact hk10 x1 x2 x3 v_8 se sb tr _ _ _ (lv_sub hl [1, 2, 3, 4, 0] rfl) hI hf
  have L_10 : ∀ (n_ : Nat) (x1 : Int32) (x2 : Int32) (x3 : Int32) (x4 : Int32) (se : SeS) (sb : BoS) (tr : MoS) (H : Heap) (locs : List Loc) (ls : Array Slot), lv_has ls 6 [(0, .ref (a_hk 0)), (1, .int x1), (2, .int x2), (3, .int x3), (4, .int x4)] → In g A s.heap s (wHK g a_hk q_hk_reader (a_ri 0) (a_now 0) (a_tr 0) q_hk_history (a_bo 0) (a_se 0) q_hk_within q_hk_colouring q_hk_chances hk ++ (wSe g a_se (a_sb 0) se ++ (wBo g a_bo (a_ri 0) bo ++ (wBo g a_sb (a_ri 0) sb ++ (wMo g a_tr tr ++ (wMo g a_now now ++ (wRi g a_ri ri ++ []))))))) H locs → f_X11_bestLift_L10 n_ x1 x2 x3 x4 se sb tr bo now ri = some (r_, o_se, o_sb, o_tr) → W p l e rm_X11_bestLift s m args below meth c H locs 0 0 Q (F0 m 10 ls []) := by
    intro n_
    induction n_ with
    | zero =>
      intro x1 x2 x3 x4 se sb tr H locs ls hl hI hf
      rw [f_X11_bestLift_L10] at hf
      cases hf
    | succ n_ ih =>
      intro x1 x2 x3 x4 se sb tr H locs ls hl hI hf
      rw [f_X11_bestLift_L10] at hf
      refine lv_iload hx hb dX11_bestLift_10 (lv_at hl 4 rfl) ?_
      refine lv_aload_n hx hb dX11_bestLift_12 rfl (lv_at hl 0 rfl) ?_
      refine g_HK_rings X hI has_HK.l (X.fl w_677) dX11_bestLift_13 ?_
      refine g_Ri_crossings X hI has_Ri.l.r.r.r.r.r.r (hI.fn (List.mem_of_getElem? (i := 32) rfl)) dX11_bestLift_16 ?_
      refine lv_icmp_ge (tgt := 105) hx hb dX11_bestLift_19 (by decide) (fun h_ => ?_) (fun h_ => ?_)
      · replace hf := if_t h_ hf
        refine lv_iload_n hx hb dX11_bestLift_105 rfl (lv_at hl 2 rfl) ?_
        cases hf
        exact end_i hQ hA X hI dX11_bestLift_106
      · replace hf := if_f h_ hf
        refine lv_aload_n hx hb dX11_bestLift_22 rfl (lv_at hl 0 rfl) ?_
        refine g_HK_board X hI has_HK.l (X.fl w_681) dX11_bestLift_23 ?_
        refine lv_iload hx hb dX11_bestLift_26 (lv_at hl 4 rfl) ?_
        obtain ⟨r_2, hc_, hf⟩ := bd1_some hf
        refine call_Vi X hI (Cj.skip (Cj.skip (Cj.keep Cj.nil))) (c_X0_isLeft l g a_bo (a_ri 0) bo x4 r_2 hc_) ⟨rfl, rfl⟩ ⟨ht _ w_1289, w_1072, ht _ w_150, lk_X0_isLeft⟩ w_1070 w_1071 rfl rfl rfl hl rfl rfl dX11_bestLift_28 rfl rfl rfl rfl (fun H locs hI => ?_)
        refine lv_if_ne (tgt := 37) hx hb dX11_bestLift_31 (by decide) (fun h_ => ?_) (fun h_ => ?_)
        · replace hf := if_f h_ hf
          refine lv_aload_n hx hb dX11_bestLift_37 rfl (lv_at hl 0 rfl) ?_
          refine g_HK_tried X hI has_HK.l (X.fl w_679) dX11_bestLift_38 ?_
          refine lv_aload_n hx hb dX11_bestLift_41 rfl (lv_at hl 0 rfl) ?_
          refine g_HK_now X hI has_HK.l (X.fl w_678) dX11_bestLift_42 ?_
          obtain ⟨tr_3, hc_, hf⟩ := bd1_some hf
          refine call_Vv X hI (Cj.skip (Cj.skip (Cj.skip (Cj.skip (Cj.keep (Cj.keep Cj.nil)))))) (c_X4_become l g a_tr a_now tr now tr_3 hc_) ⟨rfl, rfl⟩ ⟨ht _ w_1271, w_1274, ht _ w_148, lk_X4_become⟩ w_1272 w_1273 rfl rfl rfl hl rfl rfl dX11_bestLift_45 rfl rfl rfl rfl (fun H locs hI => ?_)
          refine lv_aload_n hx hb dX11_bestLift_48 rfl (lv_at hl 0 rfl) ?_
          refine g_HK_tried X hI has_HK.l (X.fl w_679) dX11_bestLift_49 ?_
          refine lv_iload hx hb dX11_bestLift_52 (lv_at hl 4 rfl) ?_
          obtain ⟨tr_4, hc_, hf⟩ := bd1_some hf
          refine call_Vv X hI (Cj.skip (Cj.skip (Cj.skip (Cj.skip (Cj.keep Cj.nil))))) (c_X4_turnOver l g a_tr tr_3 x4 tr_4 hc_) ⟨rfl, rfl⟩ ⟨ht _ w_1290, w_1293, ht _ w_148, lk_X4_turnOver⟩ w_1291 w_1292 rfl rfl rfl hl rfl rfl dX11_bestLift_54 rfl rfl rfl rfl (fun H locs hI => ?_)
          refine lv_aload_n hx hb dX11_bestLift_57 rfl (lv_at hl 0 rfl) ?_
          refine g_HK_search X hI has_HK.l (X.fl w_682) dX11_bestLift_58 ?_
          refine lv_aload_n hx hb dX11_bestLift_61 rfl (lv_at hl 0 rfl) ?_
          refine g_HK_tried X hI has_HK.l (X.fl w_679) dX11_bestLift_62 ?_
          refine lv_iload_n hx hb dX11_bestLift_65 rfl (lv_at hl 1 rfl) ?_
          refine lv_iconst (v := 1) hx hb dX11_bestLift_66 (by decide) ?_
          obtain ⟨r_5, se_6, sb_7, hc_, hf⟩ := bd3_some hf
          refine call_Vi X hI (Cj.skip (Cj.keep (Cj.skip (Cj.keep (Cj.keep (Cj.skip (Cj.keep Cj.id))))))) (c_X7_grow l g a_se a_sb a_tr a_ri se sb tr_4 ri x1 (1 : Int32) r_5 se_6 sb_7 hc_) ⟨rfl, rfl⟩ ⟨ht _ w_1141, w_1144, ht _ w_151, lk_X7_grow⟩ w_1142 w_1143 rfl rfl rfl hl rfl rfl dX11_bestLift_67 rfl rfl rfl rfl (fun H locs hI => ?_)
          refine lv_istore (lv' := [(5, .int r_5), (0, .ref (a_hk 0)), (1, .int x1), (2, .int x2), (3, .int x3), (4, .int x4)]) hx hb dX11_bestLift_70 hl (by decide) rfl (fun ls hl => ?_)
          refine lv_iload hx hb dX11_bestLift_72 (lv_at hl 0 rfl) ?_
          refine lv_bipush (v := (-3)) hx hb dX11_bestLift_74 (by decide) ?_
          refine lv_icmp_ne (tgt := 82) hx hb dX11_bestLift_76 (by decide) (fun h_ => ?_) (fun h_ => ?_)
          · replace hf := if_f h_ hf
            refine lv_iload hx hb dX11_bestLift_82 (lv_at hl 0 rfl) ?_
            refine lv_if_lt (tgt := 99) hx hb dX11_bestLift_84 (by decide) (fun h_ => ?_) (fun h_ => ?_)
            · replace hf := if_t h_ hf
              exact L_99 x1 x2 x3 x4 se_6 sb_7 tr_4 _ _ _ _ (lv_sub hl [1, 2, 3, 4, 5] rfl) hI hf (fun z_0 z_1 z_2 z_3 z_4 z_5 z_6 _ _ _ hl hI hf => ih z_0 z_1 z_2 z_3 z_4 z_5 z_6 _ _ _ hl hI hf)
            · replace hf := if_f h_ hf
              refine lv_iload hx hb dX11_bestLift_87 (lv_at hl 0 rfl) ?_
              refine lv_iload_n hx hb dX11_bestLift_89 rfl (lv_at hl 4 rfl) ?_
              refine lv_icmp_ge (tgt := 99) hx hb dX11_bestLift_90 (by decide) (fun h_ => ?_) (fun h_ => ?_)
              · replace hf := if_t h_ hf
                exact L_99 x1 x2 x3 x4 se_6 sb_7 tr_4 _ _ _ _ (lv_sub hl [1, 2, 3, 4, 5] rfl) hI hf (fun z_0 z_1 z_2 z_3 z_4 z_5 z_6 _ _ _ hl hI hf => ih z_0 z_1 z_2 z_3 z_4 z_5 z_6 _ _ _ hl hI hf)
              · replace hf := if_f h_ hf
                refine lv_iload hx hb dX11_bestLift_93 (lv_at hl 0 rfl) ?_
                refine lv_istore_n (lv' := [(3, .int r_5), (5, .int r_5), (0, .ref (a_hk 0)), (1, .int x1), (2, .int x2), (4, .int x4)]) hx hb dX11_bestLift_95 rfl hl (by decide) rfl (fun ls hl => ?_)
                refine lv_iload hx hb dX11_bestLift_96 (lv_at hl 5 rfl) ?_
                refine lv_istore_n (lv' := [(2, .int x4), (3, .int r_5), (5, .int r_5), (0, .ref (a_hk 0)), (1, .int x1), (4, .int x4)]) hx hb dX11_bestLift_98 rfl hl (by decide) rfl (fun ls hl => ?_)
                exact L_99 x1 x4 r_5 x4 se_6 sb_7 tr_4 _ _ _ _ (lv_sub hl [3, 4, 0, 1, 5] rfl) hI hf (fun z_0 z_1 z_2 z_3 z_4 z_5 z_6 _ _ _ hl hI hf => ih z_0 z_1 z_2 z_3 z_4 z_5 z_6 _ _ _ hl hI hf)
          · replace hf := if_t h_ hf
            refine lv_iload hx hb dX11_bestLift_79 (lv_at hl 0 rfl) ?_
            cases hf
            exact end_i hQ hA X hI dX11_bestLift_81
        · replace hf := if_t h_ hf
          refine lv_goto (tgt := 99) hx hb dX11_bestLift_34 (by decide) ?_
          exact L_99 x1 x2 x3 x4 se sb tr _ _ _ _ hl hI hf (fun z_0 z_1 z_2 z_3 z_4 z_5 z_6 _ _ _ hl hI hf => ih z_0 z_1 z_2 z_3 z_4 z_5 z_6 _ _ _ hl hI hf)
  unfold f_X11_bestLift at hf
  refine lv_bipush (v := (-2)) hx hb dX11_bestLift_0 (by decide) ?_
  refine lv_istore_n (lv' := [(2, .int (-2 : Int32)), (0, .ref (a_hk 0)), (1, .int p1)]) hx hb dX11_bestLift_2 rfl hl (by decide) rfl (fun ls hl => ?_)
  refine lv_iload_n hx hb dX11_bestLift_3 rfl (lv_at hl 2 rfl) ?_
  refine lv_iconst (v := 1) hx hb dX11_bestLift_4 (by decide) ?_
  refine lv_iadd hx hb dX11_bestLift_5 ?_
  refine lv_topi (fun v_1 e_ => ?_)
  replace hf := lt_to e_ hf
  clear e_
  refine lv_istore_n (lv' := [(3, .int v_1), (2, .int (-2 : Int32)), (0, .ref (a_hk 0)), (1, .int p1)]) hx hb dX11_bestLift_6 rfl hl (by decide) rfl (fun ls hl => ?_)
  refine lv_iconst (v := 0) hx hb dX11_bestLift_7 (by decide) ?_
  refine lv_istore (lv' := [(4, .int (0 : Int32)), (3, .int v_1), (2, .int (-2 : Int32)), (0, .ref (a_hk 0)), (1, .int p1)]) hx hb dX11_bestLift_8 hl (by decide) rfl (fun ls hl => ?_)
  exact L_10 FU p1 (-2 : Int32) v_1 (0 : Int32) se sb tr _ _ _ (lv_sub hl [3, 4, 2, 1, 0] rfl) hI hf
abbrev rm_X11_lift : Room := { frames := 7, cells := 0, slots := 0, locals := 172 }
set_option maxRecDepth 20000 in
theorem c_X11_lift (l : Launch) (g : GT) (a_hk : Nat → Nat) (a_se : Nat → Nat) (a_bo : Nat → Nat) (a_sb : Nat → Nat) (a_tr : Nat → Nat) (a_now : Nat → Nat) (a_ri : Nat → Nat) (q_hk_reader : Nat) (q_hk_history : Nat) (q_hk_within : Nat) (q_hk_colouring : Nat) (q_hk_chances : Nat) (hk : HKS) (se : SeS) (bo : BoS) (sb : BoS) (tr : MoS) (now : MoS) (ri : RiS) (p1 : Int32) (r_ : Int32) (o_hk : HKS) (o_se : SeS) (o_sb : BoS) (o_tr : MoS) (hf : f_X11_lift hk se bo sb tr now ri p1 = some (r_, o_hk, o_se, o_sb, o_tr)) : CI l yX11_lift cX11_lift 3 (some .int) rm_X11_lift g [.ref (a_hk 0), .int p1] (wHK g a_hk q_hk_reader (a_ri 0) (a_now 0) (a_tr 0) q_hk_history (a_bo 0) (a_se 0) q_hk_within q_hk_colouring q_hk_chances hk ++ (wSe g a_se (a_sb 0) se ++ (wBo g a_bo (a_ri 0) bo ++ (wBo g a_sb (a_ri 0) sb ++ (wMo g a_tr tr ++ (wMo g a_now now ++ (wRi g a_ri ri ++ []))))))) (wHK g a_hk q_hk_reader (a_ri 0) (a_now 0) (a_tr 0) q_hk_history (a_bo 0) (a_se 0) q_hk_within q_hk_colouring q_hk_chances o_hk ++ (wSe g a_se (a_sb 0) o_se ++ (wBo g a_bo (a_ri 0) bo ++ (wBo g a_sb (a_ri 0) o_sb ++ (wMo g a_tr o_tr ++ (wMo g a_now now ++ (wRi g a_ri ri ++ []))))))) r_ := by
  refine start2 (y := yX11_lift) (cc := cX11_lift) (n := 3) (av := [.ref (a_hk 0), .int p1]) (ws := (wHK g a_hk q_hk_reader (a_ri 0) (a_now 0) (a_tr 0) q_hk_history (a_bo 0) (a_se 0) q_hk_within q_hk_colouring q_hk_chances hk ++ (wSe g a_se (a_sb 0) se ++ (wBo g a_bo (a_ri 0) bo ++ (wBo g a_sb (a_ri 0) sb ++ (wMo g a_tr tr ++ (wMo g a_now now ++ (wRi g a_ri ri ++ [])))))))) (Qc := fun sz => QI g (wHK g a_hk q_hk_reader (a_ri 0) (a_now 0) (a_tr 0) q_hk_history (a_bo 0) (a_se 0) q_hk_within q_hk_colouring q_hk_chances hk ++ (wSe g a_se (a_sb 0) se ++ (wBo g a_bo (a_ri 0) bo ++ (wBo g a_sb (a_ri 0) sb ++ (wMo g a_tr tr ++ (wMo g a_now now ++ (wRi g a_ri ri ++ []))))))) (wHK g a_hk q_hk_reader (a_ri 0) (a_now 0) (a_tr 0) q_hk_history (a_bo 0) (a_se 0) q_hk_within q_hk_colouring q_hk_chances o_hk ++ (wSe g a_se (a_sb 0) o_se ++ (wBo g a_bo (a_ri 0) bo ++ (wBo g a_sb (a_ri 0) o_sb ++ (wMo g a_tr o_tr ++ (wMo g a_now now ++ (wRi g a_ri ri ++ []))))))) r_ sz) (by decide) rfl ?_
  intro p e s m args below meth c ls Q A ha hQ hA X hl hI hin
  have X : Cx p s m args meth c cX11_lift 3 RX11 (some .int) := X
  have hl : lv_has ls 3 [(0, .ref (a_hk 0)), (1, .int p1)] := hl
  obtain ⟨hx, hb, hml, hown, ht, hr, hlk⟩ := id X
  clear ha hin
  unfold f_X11_lift at hf
  refine lv_aload_n hx hb dX11_lift_0 rfl (lv_at hl 0 rfl) ?_
  refine g_HK_there X hI has_HK.l (X.fl w_686) dX11_lift_1 ?_
  refine lv_if_ne (tgt := 13) hx hb dX11_lift_4 (by decide) (fun h_ => ?_) (fun h_ => ?_)
  · replace hf := if_f h_ hf
    refine lv_iload_n hx hb dX11_lift_13 rfl (lv_at hl 1 rfl) ?_
    obtain ⟨r_1, hc_, hf⟩ := bd1_some hf
    refine call_Si X hI Cj.nil (c_X11_isDepth l g p1 r_1 hc_) ⟨rfl, rfl⟩ ⟨ht _ w_1138, w_1140, ht _ w_139, lk_X11_isDepth⟩ w_1139 rfl hl rfl rfl dX11_lift_14 rfl rfl rfl rfl (fun H locs hI => ?_)
    refine lv_if_ne (tgt := 26) hx hb dX11_lift_17 (by decide) (fun h_ => ?_) (fun h_ => ?_)
    · replace hf := if_f h_ hf
      refine lv_aload_n hx hb dX11_lift_26 rfl (lv_at hl 0 rfl) ?_
      refine lv_iload_n hx hb dX11_lift_27 rfl (lv_at hl 1 rfl) ?_
      obtain ⟨r_2, se_3, sb_4, tr_5, hc_, hf⟩ := bd4_some hf
      refine call_Vi X hI (Cj.keep (Cj.keep (Cj.keep (Cj.keep (Cj.keep (Cj.keep (Cj.keep Cj.id))))))) (c_X11_bestLift l g a_hk a_se a_bo a_sb a_tr a_now a_ri q_hk_reader q_hk_history q_hk_within q_hk_colouring q_hk_chances hk se bo sb tr now ri p1 r_2 se_3 sb_4 tr_5 hc_) ⟨rfl, rfl⟩ ⟨ht _ w_1285, w_1288, ht _ w_139, lk_X11_bestLift⟩ w_1287 w_59 rfl rfl rfl hl rfl rfl dX11_lift_28 rfl rfl rfl rfl (fun H locs hI => ?_)
      refine lv_istore_n (lv' := [(2, .int r_2), (0, .ref (a_hk 0)), (1, .int p1)]) hx hb dX11_lift_31 rfl hl (by decide) rfl (fun ls hl => ?_)
      refine lv_iload_n hx hb dX11_lift_32 rfl (lv_at hl 0 rfl) ?_
      refine lv_bipush (v := (-3)) hx hb dX11_lift_33 (by decide) ?_
      refine lv_icmp_ne (tgt := 46) hx hb dX11_lift_35 (by decide) (fun h_ => ?_) (fun h_ => ?_)
      · replace hf := if_f h_ hf
        refine lv_aload_n hx hb dX11_lift_46 rfl (lv_at hl 1 rfl) ?_
        refine lv_iload_n hx hb dX11_lift_47 rfl (lv_at hl 0 rfl) ?_
        obtain ⟨r_6, hk_7, hc_, hf⟩ := bd2_some hf
        refine call_Vi X hI (Cj.keep Cj.nil) (c_X11_grant l g a_hk q_hk_reader (a_ri 0) (a_now 0) (a_tr 0) q_hk_history (a_bo 0) (a_se 0) q_hk_within q_hk_colouring q_hk_chances hk r_2 r_6 hk_7 hc_) ⟨rfl, rfl⟩ ⟨ht _ w_995, w_998, ht _ w_139, lk_X11_grant⟩ w_997 w_37 rfl rfl rfl hl rfl rfl dX11_lift_48 rfl rfl rfl rfl (fun H locs hI => ?_)
        cases hf
        exact end_i hQ hA X hI dX11_lift_51
      · replace hf := if_t h_ hf
        refine lv_aload_n hx hb dX11_lift_38 rfl (lv_at hl 1 rfl) ?_
        refine lv_iconst (v := 3) hx hb dX11_lift_39 (by decide) ?_
        obtain ⟨r_8, hk_9, hc_, hf⟩ := bd2_some hf
        refine call_Vi X hI (Cj.keep Cj.nil) (c_X11_refuse l g a_hk q_hk_reader (a_ri 0) (a_now 0) (a_tr 0) q_hk_history (a_bo 0) (a_se 0) q_hk_within q_hk_colouring q_hk_chances hk (3 : Int32) r_8 hk_9 hc_) ⟨rfl, rfl⟩ ⟨ht _ w_729, w_732, ht _ w_139, lk_X11_refuse⟩ w_731 w_0 rfl rfl rfl hl rfl rfl dX11_lift_40 rfl rfl rfl rfl (fun H locs hI => ?_)
        refine lv_goto (tgt := 51) hx hb dX11_lift_43 (by decide) ?_
        cases hf
        exact end_i hQ hA X hI dX11_lift_51
    · replace hf := if_t h_ hf
      refine lv_aload_n hx hb dX11_lift_20 rfl (lv_at hl 0 rfl) ?_
      refine lv_iconst (v := 2) hx hb dX11_lift_21 (by decide) ?_
      obtain ⟨r_10, hk_11, hc_, hf⟩ := bd2_some hf
      refine call_Vi X hI (Cj.keep Cj.nil) (c_X11_refuse l g a_hk q_hk_reader (a_ri 0) (a_now 0) (a_tr 0) q_hk_history (a_bo 0) (a_se 0) q_hk_within q_hk_colouring q_hk_chances hk (2 : Int32) r_10 hk_11 hc_) ⟨rfl, rfl⟩ ⟨ht _ w_729, w_732, ht _ w_139, lk_X11_refuse⟩ w_731 w_0 rfl rfl rfl hl rfl rfl dX11_lift_22 rfl rfl rfl rfl (fun H locs hI => ?_)
      cases hf
      exact end_i hQ hA X hI dX11_lift_25
  · replace hf := if_t h_ hf
    refine lv_aload_n hx hb dX11_lift_7 rfl (lv_at hl 0 rfl) ?_
    refine lv_iconst (v := 1) hx hb dX11_lift_8 (by decide) ?_
    obtain ⟨r_12, hk_13, hc_, hf⟩ := bd2_some hf
    refine call_Vi X hI (Cj.keep Cj.nil) (c_X11_refuse l g a_hk q_hk_reader (a_ri 0) (a_now 0) (a_tr 0) q_hk_history (a_bo 0) (a_se 0) q_hk_within q_hk_colouring q_hk_chances hk (1 : Int32) r_12 hk_13 hc_) ⟨rfl, rfl⟩ ⟨ht _ w_729, w_732, ht _ w_139, lk_X11_refuse⟩ w_731 w_0 rfl rfl rfl hl rfl rfl dX11_lift_9 rfl rfl rfl rfl (fun H locs hI => ?_)
    cases hf
    exact end_i hQ hA X hI dX11_lift_12
abbrev rm_X11_twist : Room := { frames := 3, cells := 0, slots := 0, locals := 68 }
set_option maxRecDepth 20000 in
theorem c_X11_twist (l : Launch) (g : GT) (a_hk : Nat → Nat) (a_bo : Nat → Nat) (a_ri : Nat → Nat) (q_hk_reader : Nat) (q_hk_now : Nat) (q_hk_tried : Nat) (q_hk_history : Nat) (q_hk_search : Nat) (q_hk_within : Nat) (q_hk_colouring : Nat) (q_hk_chances : Nat) (hk : HKS) (bo : BoS) (ri : RiS) (p1 : Int32) (r_ : Int32) (o_hk : HKS) (hf : f_X11_twist hk bo ri p1 = some (r_, o_hk)) : CI l yX11_twist cX11_twist 2 (some .int) rm_X11_twist g [.ref (a_hk 0), .int p1] (wHK g a_hk q_hk_reader (a_ri 0) q_hk_now q_hk_tried q_hk_history (a_bo 0) q_hk_search q_hk_within q_hk_colouring q_hk_chances hk ++ (wBo g a_bo (a_ri 0) bo ++ (wRi g a_ri ri ++ []))) (wHK g a_hk q_hk_reader (a_ri 0) q_hk_now q_hk_tried q_hk_history (a_bo 0) q_hk_search q_hk_within q_hk_colouring q_hk_chances o_hk ++ (wBo g a_bo (a_ri 0) bo ++ (wRi g a_ri ri ++ []))) r_ := by
  refine start2 (y := yX11_twist) (cc := cX11_twist) (n := 2) (av := [.ref (a_hk 0), .int p1]) (ws := (wHK g a_hk q_hk_reader (a_ri 0) q_hk_now q_hk_tried q_hk_history (a_bo 0) q_hk_search q_hk_within q_hk_colouring q_hk_chances hk ++ (wBo g a_bo (a_ri 0) bo ++ (wRi g a_ri ri ++ [])))) (Qc := fun sz => QI g (wHK g a_hk q_hk_reader (a_ri 0) q_hk_now q_hk_tried q_hk_history (a_bo 0) q_hk_search q_hk_within q_hk_colouring q_hk_chances hk ++ (wBo g a_bo (a_ri 0) bo ++ (wRi g a_ri ri ++ []))) (wHK g a_hk q_hk_reader (a_ri 0) q_hk_now q_hk_tried q_hk_history (a_bo 0) q_hk_search q_hk_within q_hk_colouring q_hk_chances o_hk ++ (wBo g a_bo (a_ri 0) bo ++ (wRi g a_ri ri ++ []))) r_ sz) (by decide) rfl ?_
  intro p e s m args below meth c ls Q A ha hQ hA X hl hI hin
  have X : Cx p s m args meth c cX11_twist 2 RX11 (some .int) := X
  have hl : lv_has ls 2 [(0, .ref (a_hk 0)), (1, .int p1)] := hl
  obtain ⟨hx, hb, hml, hown, ht, hr, hlk⟩ := id X
  clear ha hin
  unfold f_X11_twist at hf
  refine lv_aload_n hx hb dX11_twist_0 rfl (lv_at hl 0 rfl) ?_
  refine lv_iload_n hx hb dX11_twist_1 rfl (lv_at hl 1 rfl) ?_
  obtain ⟨r_1, hc_, hf⟩ := bd1_some hf
  refine call_Vi X hI (Cj.keep (Cj.skip (Cj.keep Cj.id))) (c_X11_isRing l g a_hk a_ri q_hk_reader q_hk_now q_hk_tried q_hk_history (a_bo 0) q_hk_search q_hk_within q_hk_colouring q_hk_chances hk ri p1 r_1 hc_) ⟨rfl, rfl⟩ ⟨ht _ w_1020, w_1023, ht _ w_139, lk_X11_isRing⟩ w_1022 w_39 rfl rfl rfl hl rfl rfl dX11_twist_2 rfl rfl rfl rfl (fun H locs hI => ?_)
  refine lv_if_ne (tgt := 14) hx hb dX11_twist_5 (by decide) (fun h_ => ?_) (fun h_ => ?_)
  · replace hf := if_f h_ hf
    refine lv_aload_n hx hb dX11_twist_14 rfl (lv_at hl 0 rfl) ?_
    refine lv_aload_n hx hb dX11_twist_15 rfl (lv_at hl 0 rfl) ?_
    refine g_HK_board X hI has_HK.l (X.fl w_681) dX11_twist_16 ?_
    refine lv_iload_n hx hb dX11_twist_19 rfl (lv_at hl 1 rfl) ?_
    refine lv_iload_n hx hb dX11_twist_20 rfl (lv_at hl 1 rfl) ?_
    obtain ⟨r_2, hc_, hf⟩ := bd1_some hf
    refine call_Vi X hI (Cj.skip (Cj.keep (Cj.keep Cj.id))) (c_X0_signsBetween l g a_bo a_ri bo ri p1 p1 r_2 hc_) ⟨rfl, rfl⟩ ⟨ht _ w_1208, w_1211, ht _ w_150, lk_X0_signsBetween⟩ w_1209 w_1210 rfl rfl rfl hl rfl rfl dX11_twist_21 rfl rfl rfl rfl (fun H locs hI => ?_)
    obtain ⟨r_3, hk_4, hc_, hf⟩ := bd2_some hf
    refine call_Vi X hI (Cj.keep Cj.nil) (c_X11_grant l g a_hk q_hk_reader (a_ri 0) q_hk_now q_hk_tried q_hk_history (a_bo 0) q_hk_search q_hk_within q_hk_colouring q_hk_chances hk r_2 r_3 hk_4 hc_) ⟨rfl, rfl⟩ ⟨ht _ w_995, w_998, ht _ w_139, lk_X11_grant⟩ w_997 w_37 rfl rfl rfl hl rfl rfl dX11_twist_24 rfl rfl rfl rfl (fun H locs hI => ?_)
    cases hf
    exact end_i hQ hA X hI dX11_twist_27
  · replace hf := if_t h_ hf
    refine lv_aload_n hx hb dX11_twist_8 rfl (lv_at hl 0 rfl) ?_
    refine lv_iconst (v := 1) hx hb dX11_twist_9 (by decide) ?_
    obtain ⟨r_5, hk_6, hc_, hf⟩ := bd2_some hf
    refine call_Vi X hI (Cj.keep Cj.nil) (c_X11_refuseSigned l g a_hk q_hk_reader (a_ri 0) q_hk_now q_hk_tried q_hk_history (a_bo 0) q_hk_search q_hk_within q_hk_colouring q_hk_chances hk (1 : Int32) r_5 hk_6 hc_) ⟨rfl, rfl⟩ ⟨ht _ w_1073, w_1076, ht _ w_139, lk_X11_refuseSigned⟩ w_1075 w_43 rfl rfl rfl hl rfl rfl dX11_twist_10 rfl rfl rfl rfl (fun H locs hI => ?_)
    cases hf
    exact end_i hQ hA X hI dX11_twist_13
abbrev rm_X11_arcs : Room := { frames := 3, cells := 0, slots := 0, locals := 74 }
set_option maxRecDepth 20000 in
theorem c_X11_arcs (l : Launch) (g : GT) (a_hk : Nat → Nat) (a_co : Nat → Nat) (a_bo : Nat → Nat) (a_ri : Nat → Nat) (q_hk_reader : Nat) (q_hk_now : Nat) (q_hk_tried : Nat) (q_hk_history : Nat) (q_hk_search : Nat) (q_hk_within : Nat) (q_hk_chances : Nat) (hk : HKS) (co : CoS) (bo : BoS) (ri : RiS) (r_ : Int32) (o_hk : HKS) (o_co : CoS) (hf : f_X11_arcs hk co bo ri = some (r_, o_hk, o_co)) : CI l yX11_arcs cX11_arcs 1 (some .int) rm_X11_arcs g [.ref (a_hk 0)] (wHK g a_hk q_hk_reader (a_ri 0) q_hk_now q_hk_tried q_hk_history (a_bo 0) q_hk_search q_hk_within (a_co 0) q_hk_chances hk ++ (wCo g a_co co ++ (wBo g a_bo (a_ri 0) bo ++ (wRi g a_ri ri ++ [])))) (wHK g a_hk q_hk_reader (a_ri 0) q_hk_now q_hk_tried q_hk_history (a_bo 0) q_hk_search q_hk_within (a_co 0) q_hk_chances o_hk ++ (wCo g a_co o_co ++ (wBo g a_bo (a_ri 0) bo ++ (wRi g a_ri ri ++ [])))) r_ := by
  refine start2 (y := yX11_arcs) (cc := cX11_arcs) (n := 1) (av := [.ref (a_hk 0)]) (ws := (wHK g a_hk q_hk_reader (a_ri 0) q_hk_now q_hk_tried q_hk_history (a_bo 0) q_hk_search q_hk_within (a_co 0) q_hk_chances hk ++ (wCo g a_co co ++ (wBo g a_bo (a_ri 0) bo ++ (wRi g a_ri ri ++ []))))) (Qc := fun sz => QI g (wHK g a_hk q_hk_reader (a_ri 0) q_hk_now q_hk_tried q_hk_history (a_bo 0) q_hk_search q_hk_within (a_co 0) q_hk_chances hk ++ (wCo g a_co co ++ (wBo g a_bo (a_ri 0) bo ++ (wRi g a_ri ri ++ [])))) (wHK g a_hk q_hk_reader (a_ri 0) q_hk_now q_hk_tried q_hk_history (a_bo 0) q_hk_search q_hk_within (a_co 0) q_hk_chances o_hk ++ (wCo g a_co o_co ++ (wBo g a_bo (a_ri 0) bo ++ (wRi g a_ri ri ++ [])))) r_ sz) (by decide) rfl ?_
  intro p e s m args below meth c ls Q A ha hQ hA X hl hI hin
  have X : Cx p s m args meth c cX11_arcs 1 RX11 (some .int) := X
  have hl : lv_has ls 1 [(0, .ref (a_hk 0))] := hl
  obtain ⟨hx, hb, hml, hown, ht, hr, hlk⟩ := id X
  clear ha hin
  unfold f_X11_arcs at hf
  refine lv_aload_n hx hb dX11_arcs_0 rfl (lv_at hl 0 rfl) ?_
  refine g_HK_there X hI has_HK.l (X.fl w_686) dX11_arcs_1 ?_
  refine lv_if_eq (tgt := 32) hx hb dX11_arcs_4 (by decide) (fun h_ => ?_) (fun h_ => ?_)
  · replace hf := if_t h_ hf
    refine lv_aload_n hx hb dX11_arcs_32 rfl (lv_at hl 0 rfl) ?_
    refine lv_iconst (v := 1) hx hb dX11_arcs_33 (by decide) ?_
    obtain ⟨r_1, hk_2, hc_, hf⟩ := bd2_some hf
    refine call_Vi X hI (Cj.keep Cj.nil) (c_X11_refuse l g a_hk q_hk_reader (a_ri 0) q_hk_now q_hk_tried q_hk_history (a_bo 0) q_hk_search q_hk_within (a_co 0) q_hk_chances hk (1 : Int32) r_1 hk_2 hc_) ⟨rfl, rfl⟩ ⟨ht _ w_729, w_732, ht _ w_139, lk_X11_refuse⟩ w_731 w_0 rfl rfl rfl hl rfl rfl dX11_arcs_34 rfl rfl rfl rfl (fun H locs hI => ?_)
    cases hf
    exact end_i hQ hA X hI dX11_arcs_37
  · replace hf := if_f h_ hf
    refine lv_aload_n hx hb dX11_arcs_7 rfl (lv_at hl 0 rfl) ?_
    refine lv_aload_n hx hb dX11_arcs_8 rfl (lv_at hl 0 rfl) ?_
    refine g_HK_colouring X hI has_HK.l (X.fl w_684) dX11_arcs_9 ?_
    refine lv_aload_n hx hb dX11_arcs_12 rfl (lv_at hl 0 rfl) ?_
    refine g_HK_board X hI has_HK.l (X.fl w_681) dX11_arcs_13 ?_
    refine lv_aload_n hx hb dX11_arcs_16 rfl (lv_at hl 0 rfl) ?_
    refine g_HK_rings X hI has_HK.l (X.fl w_677) dX11_arcs_17 ?_
    refine g_Ri_count X hI has_Ri.l.r.r.r (hI.fn (List.mem_of_getElem? (i := 35) rfl)) dX11_arcs_20 ?_
    obtain ⟨r_3, co_4, hc_, hf⟩ := bd2_some hf
    refine call_Vi X hI (Cj.skip (Cj.keep (Cj.keep (Cj.keep Cj.id)))) (c_X2_countArcs l g a_co a_bo a_ri co bo ri (Ri_count ri) r_3 co_4 hc_) ⟨rfl, rfl⟩ ⟨ht _ w_1302, w_1228, ht _ w_153, lk_X2_countArcs⟩ w_1226 w_1227 rfl rfl rfl hl rfl rfl dX11_arcs_23 rfl rfl rfl rfl (fun H locs hI => ?_)
    obtain ⟨r_5, hk_6, hc_, hf⟩ := bd2_some hf
    refine call_Vi X hI (Cj.keep Cj.nil) (c_X11_grant l g a_hk q_hk_reader (a_ri 0) q_hk_now q_hk_tried q_hk_history (a_bo 0) q_hk_search q_hk_within (a_co 0) q_hk_chances hk r_3 r_5 hk_6 hc_) ⟨rfl, rfl⟩ ⟨ht _ w_995, w_998, ht _ w_139, lk_X11_grant⟩ w_997 w_37 rfl rfl rfl hl rfl rfl dX11_arcs_26 rfl rfl rfl rfl (fun H locs hI => ?_)
    refine lv_goto (tgt := 37) hx hb dX11_arcs_29 (by decide) ?_
    cases hf
    exact end_i hQ hA X hI dX11_arcs_37
abbrev rm_X11_reached : Room := { frames := 7, cells := 0, slots := 0, locals := 169 }
set_option maxRecDepth 20000 in
theorem c_X11_reached (l : Launch) (g : GT) (a_hk : Nat → Nat) (a_se : Nat → Nat) (a_sb : Nat → Nat) (a_now : Nat → Nat) (a_ri : Nat → Nat) (q_hk_reader : Nat) (q_hk_tried : Nat) (q_hk_history : Nat) (q_hk_board : Nat) (q_hk_within : Nat) (q_hk_colouring : Nat) (q_hk_chances : Nat) (hk : HKS) (se : SeS) (sb : BoS) (now : MoS) (ri : RiS) (p1 : Int32) (r_ : Int32) (o_hk : HKS) (o_se : SeS) (o_sb : BoS) (hf : f_X11_reached hk se sb now ri p1 = some (r_, o_hk, o_se, o_sb)) : CI l yX11_reached cX11_reached 3 (some .int) rm_X11_reached g [.ref (a_hk 0), .int p1] (wHK g a_hk q_hk_reader (a_ri 0) (a_now 0) q_hk_tried q_hk_history q_hk_board (a_se 0) q_hk_within q_hk_colouring q_hk_chances hk ++ (wSe g a_se (a_sb 0) se ++ (wBo g a_sb (a_ri 0) sb ++ (wMo g a_now now ++ (wRi g a_ri ri ++ []))))) (wHK g a_hk q_hk_reader (a_ri 0) (a_now 0) q_hk_tried q_hk_history q_hk_board (a_se 0) q_hk_within q_hk_colouring q_hk_chances o_hk ++ (wSe g a_se (a_sb 0) o_se ++ (wBo g a_sb (a_ri 0) o_sb ++ (wMo g a_now now ++ (wRi g a_ri ri ++ []))))) r_ := by
  refine start2 (y := yX11_reached) (cc := cX11_reached) (n := 3) (av := [.ref (a_hk 0), .int p1]) (ws := (wHK g a_hk q_hk_reader (a_ri 0) (a_now 0) q_hk_tried q_hk_history q_hk_board (a_se 0) q_hk_within q_hk_colouring q_hk_chances hk ++ (wSe g a_se (a_sb 0) se ++ (wBo g a_sb (a_ri 0) sb ++ (wMo g a_now now ++ (wRi g a_ri ri ++ [])))))) (Qc := fun sz => QI g (wHK g a_hk q_hk_reader (a_ri 0) (a_now 0) q_hk_tried q_hk_history q_hk_board (a_se 0) q_hk_within q_hk_colouring q_hk_chances hk ++ (wSe g a_se (a_sb 0) se ++ (wBo g a_sb (a_ri 0) sb ++ (wMo g a_now now ++ (wRi g a_ri ri ++ []))))) (wHK g a_hk q_hk_reader (a_ri 0) (a_now 0) q_hk_tried q_hk_history q_hk_board (a_se 0) q_hk_within q_hk_colouring q_hk_chances o_hk ++ (wSe g a_se (a_sb 0) o_se ++ (wBo g a_sb (a_ri 0) o_sb ++ (wMo g a_now now ++ (wRi g a_ri ri ++ []))))) r_ sz) (by decide) rfl ?_
  intro p e s m args below meth c ls Q A ha hQ hA X hl hI hin
  have X : Cx p s m args meth c cX11_reached 3 RX11 (some .int) := X
  have hl : lv_has ls 3 [(0, .ref (a_hk 0)), (1, .int p1)] := hl
  obtain ⟨hx, hb, hml, hown, ht, hr, hlk⟩ := id X
  clear ha hin
  unfold f_X11_reached at hf
  refine lv_aload_n hx hb dX11_reached_0 rfl (lv_at hl 0 rfl) ?_
  refine g_HK_there X hI has_HK.l (X.fl w_686) dX11_reached_1 ?_
  refine lv_if_ne (tgt := 13) hx hb dX11_reached_4 (by decide) (fun h_ => ?_) (fun h_ => ?_)
  · replace hf := if_f h_ hf
    refine lv_iload_n hx hb dX11_reached_13 rfl (lv_at hl 1 rfl) ?_
    obtain ⟨r_1, hc_, hf⟩ := bd1_some hf
    refine call_Si X hI Cj.nil (c_X11_isDepth l g p1 r_1 hc_) ⟨rfl, rfl⟩ ⟨ht _ w_1138, w_1140, ht _ w_139, lk_X11_isDepth⟩ w_1139 rfl hl rfl rfl dX11_reached_14 rfl rfl rfl rfl (fun H locs hI => ?_)
    refine lv_if_ne (tgt := 26) hx hb dX11_reached_17 (by decide) (fun h_ => ?_) (fun h_ => ?_)
    · replace hf := if_f h_ hf
      refine lv_aload_n hx hb dX11_reached_26 rfl (lv_at hl 0 rfl) ?_
      refine g_HK_search X hI has_HK.l (X.fl w_682) dX11_reached_27 ?_
      refine lv_aload_n hx hb dX11_reached_30 rfl (lv_at hl 0 rfl) ?_
      refine g_HK_now X hI has_HK.l (X.fl w_678) dX11_reached_31 ?_
      refine lv_iload_n hx hb dX11_reached_34 rfl (lv_at hl 1 rfl) ?_
      obtain ⟨r_2, se_3, sb_4, hc_, hf⟩ := bd3_some hf
      refine call_Vi X hI (Cj.skip (Cj.keep (Cj.keep (Cj.keep (Cj.keep Cj.id))))) (c_X7_countReached l g a_se a_sb a_now a_ri se sb now ri p1 r_2 se_3 sb_4 hc_) ⟨rfl, rfl⟩ ⟨ht _ w_1307, w_1310, ht _ w_151, lk_X7_countReached⟩ w_1308 w_1309 rfl rfl rfl hl rfl rfl dX11_reached_35 rfl rfl rfl rfl (fun H locs hI => ?_)
      refine lv_istore_n (lv' := [(2, .int r_2), (0, .ref (a_hk 0)), (1, .int p1)]) hx hb dX11_reached_38 rfl hl (by decide) rfl (fun ls hl => ?_)
      refine lv_iload_n hx hb dX11_reached_39 rfl (lv_at hl 0 rfl) ?_
      refine lv_bipush (v := (-3)) hx hb dX11_reached_40 (by decide) ?_
      refine lv_icmp_ne (tgt := 53) hx hb dX11_reached_42 (by decide) (fun h_ => ?_) (fun h_ => ?_)
      · replace hf := if_f h_ hf
        refine lv_aload_n hx hb dX11_reached_53 rfl (lv_at hl 1 rfl) ?_
        refine lv_iload_n hx hb dX11_reached_54 rfl (lv_at hl 0 rfl) ?_
        obtain ⟨r_5, hk_6, hc_, hf⟩ := bd2_some hf
        refine call_Vi X hI (Cj.keep Cj.nil) (c_X11_grant l g a_hk q_hk_reader (a_ri 0) (a_now 0) q_hk_tried q_hk_history q_hk_board (a_se 0) q_hk_within q_hk_colouring q_hk_chances hk r_2 r_5 hk_6 hc_) ⟨rfl, rfl⟩ ⟨ht _ w_995, w_998, ht _ w_139, lk_X11_grant⟩ w_997 w_37 rfl rfl rfl hl rfl rfl dX11_reached_55 rfl rfl rfl rfl (fun H locs hI => ?_)
        cases hf
        exact end_i hQ hA X hI dX11_reached_58
      · replace hf := if_t h_ hf
        refine lv_aload_n hx hb dX11_reached_45 rfl (lv_at hl 1 rfl) ?_
        refine lv_iconst (v := 3) hx hb dX11_reached_46 (by decide) ?_
        obtain ⟨r_7, hk_8, hc_, hf⟩ := bd2_some hf
        refine call_Vi X hI (Cj.keep Cj.nil) (c_X11_refuse l g a_hk q_hk_reader (a_ri 0) (a_now 0) q_hk_tried q_hk_history q_hk_board (a_se 0) q_hk_within q_hk_colouring q_hk_chances hk (3 : Int32) r_7 hk_8 hc_) ⟨rfl, rfl⟩ ⟨ht _ w_729, w_732, ht _ w_139, lk_X11_refuse⟩ w_731 w_0 rfl rfl rfl hl rfl rfl dX11_reached_47 rfl rfl rfl rfl (fun H locs hI => ?_)
        refine lv_goto (tgt := 58) hx hb dX11_reached_50 (by decide) ?_
        cases hf
        exact end_i hQ hA X hI dX11_reached_58
    · replace hf := if_t h_ hf
      refine lv_aload_n hx hb dX11_reached_20 rfl (lv_at hl 0 rfl) ?_
      refine lv_iconst (v := 2) hx hb dX11_reached_21 (by decide) ?_
      obtain ⟨r_9, hk_10, hc_, hf⟩ := bd2_some hf
      refine call_Vi X hI (Cj.keep Cj.nil) (c_X11_refuse l g a_hk q_hk_reader (a_ri 0) (a_now 0) q_hk_tried q_hk_history q_hk_board (a_se 0) q_hk_within q_hk_colouring q_hk_chances hk (2 : Int32) r_9 hk_10 hc_) ⟨rfl, rfl⟩ ⟨ht _ w_729, w_732, ht _ w_139, lk_X11_refuse⟩ w_731 w_0 rfl rfl rfl hl rfl rfl dX11_reached_22 rfl rfl rfl rfl (fun H locs hI => ?_)
      cases hf
      exact end_i hQ hA X hI dX11_reached_25
  · replace hf := if_t h_ hf
    refine lv_aload_n hx hb dX11_reached_7 rfl (lv_at hl 0 rfl) ?_
    refine lv_iconst (v := 1) hx hb dX11_reached_8 (by decide) ?_
    obtain ⟨r_11, hk_12, hc_, hf⟩ := bd2_some hf
    refine call_Vi X hI (Cj.keep Cj.nil) (c_X11_refuse l g a_hk q_hk_reader (a_ri 0) (a_now 0) q_hk_tried q_hk_history q_hk_board (a_se 0) q_hk_within q_hk_colouring q_hk_chances hk (1 : Int32) r_11 hk_12 hc_) ⟨rfl, rfl⟩ ⟨ht _ w_729, w_732, ht _ w_139, lk_X11_refuse⟩ w_731 w_0 rfl rfl rfl hl rfl rfl dX11_reached_9 rfl rfl rfl rfl (fun H locs hI => ?_)
    cases hf
    exact end_i hQ hA X hI dX11_reached_12
abbrev rm_X11_few : Room := { frames := 7, cells := 0, slots := 0, locals := 171 }
set_option maxRecDepth 20000 in
theorem c_X11_few (l : Launch) (g : GT) (a_hk : Nat → Nat) (a_se : Nat → Nat) (a_sb : Nat → Nat) (a_now : Nat → Nat) (a_ri : Nat → Nat) (q_hk_reader : Nat) (q_hk_tried : Nat) (q_hk_history : Nat) (q_hk_board : Nat) (q_hk_within : Nat) (q_hk_colouring : Nat) (q_hk_chances : Nat) (hk : HKS) (se : SeS) (sb : BoS) (now : MoS) (ri : RiS) (p1 : Int32) (r_ : Int32) (o_hk : HKS) (o_se : SeS) (o_sb : BoS) (hf : f_X11_few hk se sb now ri p1 = some (r_, o_hk, o_se, o_sb)) : CI l yX11_few cX11_few 3 (some .int) rm_X11_few g [.ref (a_hk 0), .int p1] (wHK g a_hk q_hk_reader (a_ri 0) (a_now 0) q_hk_tried q_hk_history q_hk_board (a_se 0) q_hk_within q_hk_colouring q_hk_chances hk ++ (wSe g a_se (a_sb 0) se ++ (wBo g a_sb (a_ri 0) sb ++ (wMo g a_now now ++ (wRi g a_ri ri ++ []))))) (wHK g a_hk q_hk_reader (a_ri 0) (a_now 0) q_hk_tried q_hk_history q_hk_board (a_se 0) q_hk_within q_hk_colouring q_hk_chances o_hk ++ (wSe g a_se (a_sb 0) o_se ++ (wBo g a_sb (a_ri 0) o_sb ++ (wMo g a_now now ++ (wRi g a_ri ri ++ []))))) r_ := by
  refine start2 (y := yX11_few) (cc := cX11_few) (n := 3) (av := [.ref (a_hk 0), .int p1]) (ws := (wHK g a_hk q_hk_reader (a_ri 0) (a_now 0) q_hk_tried q_hk_history q_hk_board (a_se 0) q_hk_within q_hk_colouring q_hk_chances hk ++ (wSe g a_se (a_sb 0) se ++ (wBo g a_sb (a_ri 0) sb ++ (wMo g a_now now ++ (wRi g a_ri ri ++ [])))))) (Qc := fun sz => QI g (wHK g a_hk q_hk_reader (a_ri 0) (a_now 0) q_hk_tried q_hk_history q_hk_board (a_se 0) q_hk_within q_hk_colouring q_hk_chances hk ++ (wSe g a_se (a_sb 0) se ++ (wBo g a_sb (a_ri 0) sb ++ (wMo g a_now now ++ (wRi g a_ri ri ++ []))))) (wHK g a_hk q_hk_reader (a_ri 0) (a_now 0) q_hk_tried q_hk_history q_hk_board (a_se 0) q_hk_within q_hk_colouring q_hk_chances o_hk ++ (wSe g a_se (a_sb 0) o_se ++ (wBo g a_sb (a_ri 0) o_sb ++ (wMo g a_now now ++ (wRi g a_ri ri ++ []))))) r_ sz) (by decide) rfl ?_
  intro p e s m args below meth c ls Q A ha hQ hA X hl hI hin
  have X : Cx p s m args meth c cX11_few 3 RX11 (some .int) := X
  have hl : lv_has ls 3 [(0, .ref (a_hk 0)), (1, .int p1)] := hl
  obtain ⟨hx, hb, hml, hown, ht, hr, hlk⟩ := id X
  clear ha hin
  unfold f_X11_few at hf
  refine lv_aload_n hx hb dX11_few_0 rfl (lv_at hl 0 rfl) ?_
  refine g_HK_there X hI has_HK.l (X.fl w_686) dX11_few_1 ?_
  refine lv_if_ne (tgt := 13) hx hb dX11_few_4 (by decide) (fun h_ => ?_) (fun h_ => ?_)
  · replace hf := if_f h_ hf
    refine lv_iload_n hx hb dX11_few_13 rfl (lv_at hl 1 rfl) ?_
    obtain ⟨r_1, hc_, hf⟩ := bd1_some hf
    refine call_Si X hI Cj.nil (c_X11_isDepth l g p1 r_1 hc_) ⟨rfl, rfl⟩ ⟨ht _ w_1138, w_1140, ht _ w_139, lk_X11_isDepth⟩ w_1139 rfl hl rfl rfl dX11_few_14 rfl rfl rfl rfl (fun H locs hI => ?_)
    refine lv_if_ne (tgt := 26) hx hb dX11_few_17 (by decide) (fun h_ => ?_) (fun h_ => ?_)
    · replace hf := if_f h_ hf
      refine lv_aload_n hx hb dX11_few_26 rfl (lv_at hl 0 rfl) ?_
      refine g_HK_search X hI has_HK.l (X.fl w_682) dX11_few_27 ?_
      refine lv_aload_n hx hb dX11_few_30 rfl (lv_at hl 0 rfl) ?_
      refine g_HK_now X hI has_HK.l (X.fl w_678) dX11_few_31 ?_
      refine lv_iload_n hx hb dX11_few_34 rfl (lv_at hl 1 rfl) ?_
      obtain ⟨r_2, se_3, sb_4, hc_, hf⟩ := bd3_some hf
      refine call_Vi X hI (Cj.skip (Cj.keep (Cj.keep (Cj.keep (Cj.keep Cj.id))))) (c_X7_leastLeft l g a_se a_sb a_now a_ri se sb now ri p1 r_2 se_3 sb_4 hc_) ⟨rfl, rfl⟩ ⟨ht _ w_1315, w_1318, ht _ w_151, lk_X7_leastLeft⟩ w_1316 w_1317 rfl rfl rfl hl rfl rfl dX11_few_35 rfl rfl rfl rfl (fun H locs hI => ?_)
      refine lv_istore_n (lv' := [(2, .int r_2), (0, .ref (a_hk 0)), (1, .int p1)]) hx hb dX11_few_38 rfl hl (by decide) rfl (fun ls hl => ?_)
      refine lv_iload_n hx hb dX11_few_39 rfl (lv_at hl 0 rfl) ?_
      refine lv_bipush (v := (-3)) hx hb dX11_few_40 (by decide) ?_
      refine lv_icmp_ne (tgt := 53) hx hb dX11_few_42 (by decide) (fun h_ => ?_) (fun h_ => ?_)
      · replace hf := if_f h_ hf
        refine lv_aload_n hx hb dX11_few_53 rfl (lv_at hl 1 rfl) ?_
        refine lv_iload_n hx hb dX11_few_54 rfl (lv_at hl 0 rfl) ?_
        obtain ⟨r_5, hk_6, hc_, hf⟩ := bd2_some hf
        refine call_Vi X hI (Cj.keep Cj.nil) (c_X11_grant l g a_hk q_hk_reader (a_ri 0) (a_now 0) q_hk_tried q_hk_history q_hk_board (a_se 0) q_hk_within q_hk_colouring q_hk_chances hk r_2 r_5 hk_6 hc_) ⟨rfl, rfl⟩ ⟨ht _ w_995, w_998, ht _ w_139, lk_X11_grant⟩ w_997 w_37 rfl rfl rfl hl rfl rfl dX11_few_55 rfl rfl rfl rfl (fun H locs hI => ?_)
        cases hf
        exact end_i hQ hA X hI dX11_few_58
      · replace hf := if_t h_ hf
        refine lv_aload_n hx hb dX11_few_45 rfl (lv_at hl 1 rfl) ?_
        refine lv_iconst (v := 3) hx hb dX11_few_46 (by decide) ?_
        obtain ⟨r_7, hk_8, hc_, hf⟩ := bd2_some hf
        refine call_Vi X hI (Cj.keep Cj.nil) (c_X11_refuse l g a_hk q_hk_reader (a_ri 0) (a_now 0) q_hk_tried q_hk_history q_hk_board (a_se 0) q_hk_within q_hk_colouring q_hk_chances hk (3 : Int32) r_7 hk_8 hc_) ⟨rfl, rfl⟩ ⟨ht _ w_729, w_732, ht _ w_139, lk_X11_refuse⟩ w_731 w_0 rfl rfl rfl hl rfl rfl dX11_few_47 rfl rfl rfl rfl (fun H locs hI => ?_)
        refine lv_goto (tgt := 58) hx hb dX11_few_50 (by decide) ?_
        cases hf
        exact end_i hQ hA X hI dX11_few_58
    · replace hf := if_t h_ hf
      refine lv_aload_n hx hb dX11_few_20 rfl (lv_at hl 0 rfl) ?_
      refine lv_iconst (v := 2) hx hb dX11_few_21 (by decide) ?_
      obtain ⟨r_9, hk_10, hc_, hf⟩ := bd2_some hf
      refine call_Vi X hI (Cj.keep Cj.nil) (c_X11_refuse l g a_hk q_hk_reader (a_ri 0) (a_now 0) q_hk_tried q_hk_history q_hk_board (a_se 0) q_hk_within q_hk_colouring q_hk_chances hk (2 : Int32) r_9 hk_10 hc_) ⟨rfl, rfl⟩ ⟨ht _ w_729, w_732, ht _ w_139, lk_X11_refuse⟩ w_731 w_0 rfl rfl rfl hl rfl rfl dX11_few_22 rfl rfl rfl rfl (fun H locs hI => ?_)
      cases hf
      exact end_i hQ hA X hI dX11_few_25
  · replace hf := if_t h_ hf
    refine lv_aload_n hx hb dX11_few_7 rfl (lv_at hl 0 rfl) ?_
    refine lv_iconst (v := 1) hx hb dX11_few_8 (by decide) ?_
    obtain ⟨r_11, hk_12, hc_, hf⟩ := bd2_some hf
    refine call_Vi X hI (Cj.keep Cj.nil) (c_X11_refuse l g a_hk q_hk_reader (a_ri 0) (a_now 0) q_hk_tried q_hk_history q_hk_board (a_se 0) q_hk_within q_hk_colouring q_hk_chances hk (1 : Int32) r_11 hk_12 hc_) ⟨rfl, rfl⟩ ⟨ht _ w_729, w_732, ht _ w_139, lk_X11_refuse⟩ w_731 w_0 rfl rfl rfl hl rfl rfl dX11_few_9 rfl rfl rfl rfl (fun H locs hI => ?_)
    cases hf
    exact end_i hQ hA X hI dX11_few_12
abbrev rm_X11_sees : Room := { frames := 1, cells := 0, slots := 0, locals := 24 }
set_option maxRecDepth 20000 in
theorem c_X11_sees (l : Launch) (g : GT) (a_hk : Nat → Nat) (a_bo : Nat → Nat) (a_ri : Nat → Nat) (q_hk_reader : Nat) (q_hk_now : Nat) (q_hk_tried : Nat) (q_hk_history : Nat) (q_hk_search : Nat) (q_hk_within : Nat) (q_hk_colouring : Nat) (q_hk_chances : Nat) (hk : HKS) (bo : BoS) (ri : RiS) (p1 : Int32) (r_ : Int32) (o_hk : HKS) (hf : f_X11_sees hk bo ri p1 = some (r_, o_hk)) : CI l yX11_sees cX11_sees 2 (some .int) rm_X11_sees g [.ref (a_hk 0), .int p1] (wHK g a_hk q_hk_reader (a_ri 0) q_hk_now q_hk_tried q_hk_history (a_bo 0) q_hk_search q_hk_within q_hk_colouring q_hk_chances hk ++ (wBo g a_bo (a_ri 0) bo ++ (wRi g a_ri ri ++ []))) (wHK g a_hk q_hk_reader (a_ri 0) q_hk_now q_hk_tried q_hk_history (a_bo 0) q_hk_search q_hk_within q_hk_colouring q_hk_chances o_hk ++ (wBo g a_bo (a_ri 0) bo ++ (wRi g a_ri ri ++ []))) r_ := by
  refine start2 (y := yX11_sees) (cc := cX11_sees) (n := 2) (av := [.ref (a_hk 0), .int p1]) (ws := (wHK g a_hk q_hk_reader (a_ri 0) q_hk_now q_hk_tried q_hk_history (a_bo 0) q_hk_search q_hk_within q_hk_colouring q_hk_chances hk ++ (wBo g a_bo (a_ri 0) bo ++ (wRi g a_ri ri ++ [])))) (Qc := fun sz => QI g (wHK g a_hk q_hk_reader (a_ri 0) q_hk_now q_hk_tried q_hk_history (a_bo 0) q_hk_search q_hk_within q_hk_colouring q_hk_chances hk ++ (wBo g a_bo (a_ri 0) bo ++ (wRi g a_ri ri ++ []))) (wHK g a_hk q_hk_reader (a_ri 0) q_hk_now q_hk_tried q_hk_history (a_bo 0) q_hk_search q_hk_within q_hk_colouring q_hk_chances o_hk ++ (wBo g a_bo (a_ri 0) bo ++ (wRi g a_ri ri ++ []))) r_ sz) (by decide) rfl ?_
  intro p e s m args below meth c ls Q A ha hQ hA X hl hI hin
  have X : Cx p s m args meth c cX11_sees 2 RX11 (some .int) := X
  have hl : lv_has ls 2 [(0, .ref (a_hk 0)), (1, .int p1)] := hl
  obtain ⟨hx, hb, hml, hown, ht, hr, hlk⟩ := id X
  clear ha hin
  unfold f_X11_sees at hf
  refine lv_aload_n hx hb dX11_sees_0 rfl (lv_at hl 0 rfl) ?_
  refine lv_iload_n hx hb dX11_sees_1 rfl (lv_at hl 1 rfl) ?_
  obtain ⟨r_1, hc_, hf⟩ := bd1_some hf
  refine call_Vi X hI (Cj.keep (Cj.skip (Cj.keep Cj.id))) (c_X11_isPerson l g a_hk a_ri q_hk_reader q_hk_now q_hk_tried q_hk_history (a_bo 0) q_hk_search q_hk_within q_hk_colouring q_hk_chances hk ri p1 r_1 hc_) ⟨rfl, rfl⟩ ⟨ht _ w_1011, w_1014, ht _ w_139, lk_X11_isPerson⟩ w_1013 w_38 rfl rfl rfl hl rfl rfl dX11_sees_2 rfl rfl rfl rfl (fun H locs hI => ?_)
  refine lv_if_eq (tgt := 23) hx hb dX11_sees_5 (by decide) (fun h_ => ?_) (fun h_ => ?_)
  · replace hf := if_t h_ hf
    refine lv_aload_n hx hb dX11_sees_23 rfl (lv_at hl 0 rfl) ?_
    refine lv_iconst (v := 1) hx hb dX11_sees_24 (by decide) ?_
    obtain ⟨r_2, hk_3, hc_, hf⟩ := bd2_some hf
    refine call_Vi X hI (Cj.keep Cj.nil) (c_X11_refuse l g a_hk q_hk_reader (a_ri 0) q_hk_now q_hk_tried q_hk_history (a_bo 0) q_hk_search q_hk_within q_hk_colouring q_hk_chances hk (1 : Int32) r_2 hk_3 hc_) ⟨rfl, rfl⟩ ⟨ht _ w_729, w_732, ht _ w_139, lk_X11_refuse⟩ w_731 w_0 rfl rfl rfl hl rfl rfl dX11_sees_25 rfl rfl rfl rfl (fun H locs hI => ?_)
    cases hf
    exact end_i hQ hA X hI dX11_sees_28
  · replace hf := if_f h_ hf
    refine lv_aload_n hx hb dX11_sees_8 rfl (lv_at hl 0 rfl) ?_
    refine lv_aload_n hx hb dX11_sees_9 rfl (lv_at hl 0 rfl) ?_
    refine g_HK_board X hI has_HK.l (X.fl w_681) dX11_sees_10 ?_
    refine lv_iload_n hx hb dX11_sees_13 rfl (lv_at hl 1 rfl) ?_
    obtain ⟨r_4, hc_, hf⟩ := bd1_some hf
    refine call_Vi X hI (Cj.skip (Cj.keep (Cj.keep Cj.id))) (c_X0_seenBy l g a_bo a_ri bo ri p1 r_4 hc_) ⟨rfl, rfl⟩ ⟨ht _ w_1328, w_1331, ht _ w_150, lk_X0_seenBy⟩ w_1329 w_1330 rfl rfl rfl hl rfl rfl dX11_sees_14 rfl rfl rfl rfl (fun H locs hI => ?_)
    obtain ⟨r_5, hk_6, hc_, hf⟩ := bd2_some hf
    refine call_Vi X hI (Cj.keep Cj.nil) (c_X11_grant l g a_hk q_hk_reader (a_ri 0) q_hk_now q_hk_tried q_hk_history (a_bo 0) q_hk_search q_hk_within q_hk_colouring q_hk_chances hk r_4 r_5 hk_6 hc_) ⟨rfl, rfl⟩ ⟨ht _ w_995, w_998, ht _ w_139, lk_X11_grant⟩ w_997 w_37 rfl rfl rfl hl rfl rfl dX11_sees_17 rfl rfl rfl rfl (fun H locs hI => ?_)
    refine lv_goto (tgt := 28) hx hb dX11_sees_20 (by decide) ?_
    cases hf
    exact end_i hQ hA X hI dX11_sees_28
abbrev rm_X11_own : Room := { frames := 3, cells := 0, slots := 0, locals := 68 }
set_option maxRecDepth 20000 in
theorem c_X11_own (l : Launch) (g : GT) (a_hk : Nat → Nat) (a_bo : Nat → Nat) (a_ri : Nat → Nat) (q_hk_reader : Nat) (q_hk_now : Nat) (q_hk_tried : Nat) (q_hk_history : Nat) (q_hk_search : Nat) (q_hk_within : Nat) (q_hk_colouring : Nat) (q_hk_chances : Nat) (hk : HKS) (bo : BoS) (ri : RiS) (p1 : Int32) (r_ : Int32) (o_hk : HKS) (hf : f_X11_own hk bo ri p1 = some (r_, o_hk)) : CI l yX11_own cX11_own 2 (some .int) rm_X11_own g [.ref (a_hk 0), .int p1] (wHK g a_hk q_hk_reader (a_ri 0) q_hk_now q_hk_tried q_hk_history (a_bo 0) q_hk_search q_hk_within q_hk_colouring q_hk_chances hk ++ (wBo g a_bo (a_ri 0) bo ++ (wRi g a_ri ri ++ []))) (wHK g a_hk q_hk_reader (a_ri 0) q_hk_now q_hk_tried q_hk_history (a_bo 0) q_hk_search q_hk_within q_hk_colouring q_hk_chances o_hk ++ (wBo g a_bo (a_ri 0) bo ++ (wRi g a_ri ri ++ []))) r_ := by
  refine start2 (y := yX11_own) (cc := cX11_own) (n := 2) (av := [.ref (a_hk 0), .int p1]) (ws := (wHK g a_hk q_hk_reader (a_ri 0) q_hk_now q_hk_tried q_hk_history (a_bo 0) q_hk_search q_hk_within q_hk_colouring q_hk_chances hk ++ (wBo g a_bo (a_ri 0) bo ++ (wRi g a_ri ri ++ [])))) (Qc := fun sz => QI g (wHK g a_hk q_hk_reader (a_ri 0) q_hk_now q_hk_tried q_hk_history (a_bo 0) q_hk_search q_hk_within q_hk_colouring q_hk_chances hk ++ (wBo g a_bo (a_ri 0) bo ++ (wRi g a_ri ri ++ []))) (wHK g a_hk q_hk_reader (a_ri 0) q_hk_now q_hk_tried q_hk_history (a_bo 0) q_hk_search q_hk_within q_hk_colouring q_hk_chances o_hk ++ (wBo g a_bo (a_ri 0) bo ++ (wRi g a_ri ri ++ []))) r_ sz) (by decide) rfl ?_
  intro p e s m args below meth c ls Q A ha hQ hA X hl hI hin
  have X : Cx p s m args meth c cX11_own 2 RX11 (some .int) := X
  have hl : lv_has ls 2 [(0, .ref (a_hk 0)), (1, .int p1)] := hl
  obtain ⟨hx, hb, hml, hown, ht, hr, hlk⟩ := id X
  clear ha hin
  unfold f_X11_own at hf
  refine lv_aload_n hx hb dX11_own_0 rfl (lv_at hl 0 rfl) ?_
  refine lv_iload_n hx hb dX11_own_1 rfl (lv_at hl 1 rfl) ?_
  obtain ⟨r_1, hc_, hf⟩ := bd1_some hf
  refine call_Vi X hI (Cj.keep (Cj.skip (Cj.keep Cj.id))) (c_X11_isPerson l g a_hk a_ri q_hk_reader q_hk_now q_hk_tried q_hk_history (a_bo 0) q_hk_search q_hk_within q_hk_colouring q_hk_chances hk ri p1 r_1 hc_) ⟨rfl, rfl⟩ ⟨ht _ w_1011, w_1014, ht _ w_139, lk_X11_isPerson⟩ w_1013 w_38 rfl rfl rfl hl rfl rfl dX11_own_2 rfl rfl rfl rfl (fun H locs hI => ?_)
  refine lv_if_eq (tgt := 23) hx hb dX11_own_5 (by decide) (fun h_ => ?_) (fun h_ => ?_)
  · replace hf := if_t h_ hf
    refine lv_aload_n hx hb dX11_own_23 rfl (lv_at hl 0 rfl) ?_
    refine lv_iconst (v := 1) hx hb dX11_own_24 (by decide) ?_
    obtain ⟨r_2, hk_3, hc_, hf⟩ := bd2_some hf
    refine call_Vi X hI (Cj.keep Cj.nil) (c_X11_refuse l g a_hk q_hk_reader (a_ri 0) q_hk_now q_hk_tried q_hk_history (a_bo 0) q_hk_search q_hk_within q_hk_colouring q_hk_chances hk (1 : Int32) r_2 hk_3 hc_) ⟨rfl, rfl⟩ ⟨ht _ w_729, w_732, ht _ w_139, lk_X11_refuse⟩ w_731 w_0 rfl rfl rfl hl rfl rfl dX11_own_25 rfl rfl rfl rfl (fun H locs hI => ?_)
    cases hf
    exact end_i hQ hA X hI dX11_own_28
  · replace hf := if_f h_ hf
    refine lv_aload_n hx hb dX11_own_8 rfl (lv_at hl 0 rfl) ?_
    refine lv_aload_n hx hb dX11_own_9 rfl (lv_at hl 0 rfl) ?_
    refine g_HK_board X hI has_HK.l (X.fl w_681) dX11_own_10 ?_
    refine lv_iload_n hx hb dX11_own_13 rfl (lv_at hl 1 rfl) ?_
    obtain ⟨r_4, hc_, hf⟩ := bd1_some hf
    refine call_Si X hI (Cj.skip (Cj.keep (Cj.keep Cj.id))) (c_X10_bestOwn l g a_bo a_ri bo ri p1 r_4 hc_) ⟨rfl, rfl⟩ ⟨ht _ w_1336, w_1338, ht _ w_152, lk_X10_bestOwn⟩ w_1337 rfl hl rfl rfl dX11_own_14 rfl rfl rfl rfl (fun H locs hI => ?_)
    obtain ⟨r_5, hk_6, hc_, hf⟩ := bd2_some hf
    refine call_Vi X hI (Cj.keep Cj.nil) (c_X11_grant l g a_hk q_hk_reader (a_ri 0) q_hk_now q_hk_tried q_hk_history (a_bo 0) q_hk_search q_hk_within q_hk_colouring q_hk_chances hk r_4 r_5 hk_6 hc_) ⟨rfl, rfl⟩ ⟨ht _ w_995, w_998, ht _ w_139, lk_X11_grant⟩ w_997 w_37 rfl rfl rfl hl rfl rfl dX11_own_17 rfl rfl rfl rfl (fun H locs hI => ?_)
    refine lv_goto (tgt := 28) hx hb dX11_own_20 (by decide) ?_
    cases hf
    exact end_i hQ hA X hI dX11_own_28
abbrev rm_X11_rounds : Room := { frames := 6, cells := 0, slots := 0, locals := 142 }
set_option maxRecDepth 20000 in
theorem c_X11_rounds (l : Launch) (g : GT) (a_hk : Nat → Nat) (a_wi : Nat → Nat) (a_wb : Nat → Nat) (a_now : Nat → Nat) (a_ri : Nat → Nat) (q_hk_reader : Nat) (q_hk_tried : Nat) (q_hk_history : Nat) (q_hk_board : Nat) (q_hk_search : Nat) (q_hk_colouring : Nat) (q_hk_chances : Nat) (hk : HKS) (wb : BoS) (now : MoS) (ri : RiS) (p1 : Int32) (r_ : Int32) (o_hk : HKS) (o_wb : BoS) (hf : f_X11_rounds hk wb now ri p1 = some (r_, o_hk, o_wb)) : CI l yX11_rounds cX11_rounds 2 (some .int) rm_X11_rounds g [.ref (a_hk 0), .int p1] (wHK g a_hk q_hk_reader (a_ri 0) (a_now 0) q_hk_tried q_hk_history q_hk_board q_hk_search (a_wi 0) q_hk_colouring q_hk_chances hk ++ (wWi g a_wi (a_ri 0) (a_wb 0) ++ (wBo g a_wb (a_ri 0) wb ++ (wMo g a_now now ++ (wRi g a_ri ri ++ []))))) (wHK g a_hk q_hk_reader (a_ri 0) (a_now 0) q_hk_tried q_hk_history q_hk_board q_hk_search (a_wi 0) q_hk_colouring q_hk_chances o_hk ++ (wWi g a_wi (a_ri 0) (a_wb 0) ++ (wBo g a_wb (a_ri 0) o_wb ++ (wMo g a_now now ++ (wRi g a_ri ri ++ []))))) r_ := by
  refine start2 (y := yX11_rounds) (cc := cX11_rounds) (n := 2) (av := [.ref (a_hk 0), .int p1]) (ws := (wHK g a_hk q_hk_reader (a_ri 0) (a_now 0) q_hk_tried q_hk_history q_hk_board q_hk_search (a_wi 0) q_hk_colouring q_hk_chances hk ++ (wWi g a_wi (a_ri 0) (a_wb 0) ++ (wBo g a_wb (a_ri 0) wb ++ (wMo g a_now now ++ (wRi g a_ri ri ++ [])))))) (Qc := fun sz => QI g (wHK g a_hk q_hk_reader (a_ri 0) (a_now 0) q_hk_tried q_hk_history q_hk_board q_hk_search (a_wi 0) q_hk_colouring q_hk_chances hk ++ (wWi g a_wi (a_ri 0) (a_wb 0) ++ (wBo g a_wb (a_ri 0) wb ++ (wMo g a_now now ++ (wRi g a_ri ri ++ []))))) (wHK g a_hk q_hk_reader (a_ri 0) (a_now 0) q_hk_tried q_hk_history q_hk_board q_hk_search (a_wi 0) q_hk_colouring q_hk_chances o_hk ++ (wWi g a_wi (a_ri 0) (a_wb 0) ++ (wBo g a_wb (a_ri 0) o_wb ++ (wMo g a_now now ++ (wRi g a_ri ri ++ []))))) r_ sz) (by decide) rfl ?_
  intro p e s m args below meth c ls Q A ha hQ hA X hl hI hin
  have X : Cx p s m args meth c cX11_rounds 2 RX11 (some .int) := X
  have hl : lv_has ls 2 [(0, .ref (a_hk 0)), (1, .int p1)] := hl
  obtain ⟨hx, hb, hml, hown, ht, hr, hlk⟩ := id X
  clear ha hin
  have L_23 : ∀ (hk : HKS) (wb : BoS) (H : Heap) (locs : List Loc) (ls : Array Slot), lv_has ls 2 [(0, .ref (a_hk 0))] → In g A s.heap s (wHK g a_hk q_hk_reader (a_ri 0) (a_now 0) q_hk_tried q_hk_history q_hk_board q_hk_search (a_wi 0) q_hk_colouring q_hk_chances hk ++ (wWi g a_wi (a_ri 0) (a_wb 0) ++ (wBo g a_wb (a_ri 0) wb ++ (wMo g a_now now ++ (wRi g a_ri ri ++ []))))) H locs → f_X11_rounds_L23 hk wb = some (r_, o_hk, o_wb) → W p l e rm_X11_rounds s m args below meth c H locs 0 0 Q (F0 m 23 ls []) := by
    intro hk wb H locs ls hl hI hf
    unfold f_X11_rounds_L23 at hf
    refine lv_aload_n hx hb dX11_rounds_23 rfl (lv_at hl 0 rfl) ?_
    refine lv_iconst (v := 2) hx hb dX11_rounds_24 (by decide) ?_
    obtain ⟨r_7, hk_8, hc_, hf⟩ := bd2_some hf
    refine call_Vi X hI (Cj.keep Cj.nil) (c_X11_refuse l g a_hk q_hk_reader (a_ri 0) (a_now 0) q_hk_tried q_hk_history q_hk_board q_hk_search (a_wi 0) q_hk_colouring q_hk_chances hk (2 : Int32) r_7 hk_8 hc_) ⟨rfl, rfl⟩ ⟨ht _ w_729, w_732, ht _ w_139, lk_X11_refuse⟩ w_731 w_0 rfl rfl rfl hl rfl rfl dX11_rounds_25 rfl rfl rfl rfl (fun H locs hI => ?_)
    cases hf
    exact end_i hQ hA X hI dX11_rounds_28
  unfold f_X11_rounds at hf
  refine lv_aload_n hx hb dX11_rounds_0 rfl (lv_at hl 0 rfl) ?_
  refine g_HK_there X hI has_HK.l (X.fl w_686) dX11_rounds_1 ?_
  refine lv_if_ne (tgt := 13) hx hb dX11_rounds_4 (by decide) (fun h_ => ?_) (fun h_ => ?_)
  · replace hf := if_f h_ hf
    refine lv_iload_n hx hb dX11_rounds_13 rfl (lv_at hl 1 rfl) ?_
    refine lv_if_lt (tgt := 23) hx hb dX11_rounds_14 (by decide) (fun h_ => ?_) (fun h_ => ?_)
    · replace hf := if_t h_ hf
      exact L_23 hk wb _ _ _ (lv_sub hl [0] rfl) hI hf
    · replace hf := if_f h_ hf
      refine lv_iload_n hx hb dX11_rounds_17 rfl (lv_at hl 1 rfl) ?_
      refine lv_bipush (v := 9) hx hb dX11_rounds_18 (by decide) ?_
      refine lv_icmp_le (tgt := 29) hx hb dX11_rounds_20 (by decide) (fun h_ => ?_) (fun h_ => ?_)
      · replace hf := if_t h_ hf
        refine lv_aload_n hx hb dX11_rounds_29 rfl (lv_at hl 0 rfl) ?_
        refine lv_aload_n hx hb dX11_rounds_30 rfl (lv_at hl 0 rfl) ?_
        refine g_HK_within X hI has_HK.l (X.fl w_683) dX11_rounds_31 ?_
        refine lv_aload_n hx hb dX11_rounds_34 rfl (lv_at hl 0 rfl) ?_
        refine g_HK_now X hI has_HK.l (X.fl w_678) dX11_rounds_35 ?_
        refine lv_iload_n hx hb dX11_rounds_38 rfl (lv_at hl 1 rfl) ?_
        obtain ⟨r_1, wb_2, hc_, hf⟩ := bd2_some hf
        refine call_Vi X hI (Cj.skip (Cj.keep (Cj.keep (Cj.keep (Cj.keep Cj.id))))) (c_X10_leftBehindRounds l g a_wi a_wb a_now a_ri wb now ri p1 r_1 wb_2 hc_) ⟨rfl, rfl⟩ ⟨ht _ w_1347, w_1350, ht _ w_152, lk_X10_leftBehindRounds⟩ w_1348 w_1349 rfl rfl rfl hl rfl rfl dX11_rounds_39 rfl rfl rfl rfl (fun H locs hI => ?_)
        obtain ⟨r_3, hk_4, hc_, hf⟩ := bd2_some hf
        refine call_Vi X hI (Cj.keep Cj.nil) (c_X11_grant l g a_hk q_hk_reader (a_ri 0) (a_now 0) q_hk_tried q_hk_history q_hk_board q_hk_search (a_wi 0) q_hk_colouring q_hk_chances hk r_1 r_3 hk_4 hc_) ⟨rfl, rfl⟩ ⟨ht _ w_995, w_998, ht _ w_139, lk_X11_grant⟩ w_997 w_37 rfl rfl rfl hl rfl rfl dX11_rounds_42 rfl rfl rfl rfl (fun H locs hI => ?_)
        cases hf
        exact end_i hQ hA X hI dX11_rounds_45
      · replace hf := if_f h_ hf
        exact L_23 hk wb _ _ _ (lv_sub hl [0] rfl) hI hf
  · replace hf := if_t h_ hf
    refine lv_aload_n hx hb dX11_rounds_7 rfl (lv_at hl 0 rfl) ?_
    refine lv_iconst (v := 1) hx hb dX11_rounds_8 (by decide) ?_
    obtain ⟨r_5, hk_6, hc_, hf⟩ := bd2_some hf
    refine call_Vi X hI (Cj.keep Cj.nil) (c_X11_refuse l g a_hk q_hk_reader (a_ri 0) (a_now 0) q_hk_tried q_hk_history q_hk_board q_hk_search (a_wi 0) q_hk_colouring q_hk_chances hk (1 : Int32) r_5 hk_6 hc_) ⟨rfl, rfl⟩ ⟨ht _ w_729, w_732, ht _ w_139, lk_X11_refuse⟩ w_731 w_0 rfl rfl rfl hl rfl rfl dX11_rounds_9 rfl rfl rfl rfl (fun H locs hI => ?_)
    cases hf
    exact end_i hQ hA X hI dX11_rounds_12
abbrev rm_X11_tries : Room := { frames := 6, cells := 0, slots := 0, locals := 145 }
set_option maxRecDepth 20000 in
theorem c_X11_tries (l : Launch) (g : GT) (a_hk : Nat → Nat) (a_wi : Nat → Nat) (a_wb : Nat → Nat) (a_now : Nat → Nat) (a_ri : Nat → Nat) (q_hk_reader : Nat) (q_hk_tried : Nat) (q_hk_history : Nat) (q_hk_board : Nat) (q_hk_search : Nat) (q_hk_colouring : Nat) (q_hk_chances : Nat) (hk : HKS) (wb : BoS) (now : MoS) (ri : RiS) (p1 : Int32) (p2 : Int32) (p3 : Int32) (r_ : Int32) (o_hk : HKS) (o_wb : BoS) (hf : f_X11_tries hk wb now ri p1 p2 p3 = some (r_, o_hk, o_wb)) : CI l yX11_tries cX11_tries 4 (some .int) rm_X11_tries g [.ref (a_hk 0), .int p1, .int p2, .int p3] (wHK g a_hk q_hk_reader (a_ri 0) (a_now 0) q_hk_tried q_hk_history q_hk_board q_hk_search (a_wi 0) q_hk_colouring q_hk_chances hk ++ (wWi g a_wi (a_ri 0) (a_wb 0) ++ (wBo g a_wb (a_ri 0) wb ++ (wMo g a_now now ++ (wRi g a_ri ri ++ []))))) (wHK g a_hk q_hk_reader (a_ri 0) (a_now 0) q_hk_tried q_hk_history q_hk_board q_hk_search (a_wi 0) q_hk_colouring q_hk_chances o_hk ++ (wWi g a_wi (a_ri 0) (a_wb 0) ++ (wBo g a_wb (a_ri 0) o_wb ++ (wMo g a_now now ++ (wRi g a_ri ri ++ []))))) r_ := by
  refine start2 (y := yX11_tries) (cc := cX11_tries) (n := 4) (av := [.ref (a_hk 0), .int p1, .int p2, .int p3]) (ws := (wHK g a_hk q_hk_reader (a_ri 0) (a_now 0) q_hk_tried q_hk_history q_hk_board q_hk_search (a_wi 0) q_hk_colouring q_hk_chances hk ++ (wWi g a_wi (a_ri 0) (a_wb 0) ++ (wBo g a_wb (a_ri 0) wb ++ (wMo g a_now now ++ (wRi g a_ri ri ++ [])))))) (Qc := fun sz => QI g (wHK g a_hk q_hk_reader (a_ri 0) (a_now 0) q_hk_tried q_hk_history q_hk_board q_hk_search (a_wi 0) q_hk_colouring q_hk_chances hk ++ (wWi g a_wi (a_ri 0) (a_wb 0) ++ (wBo g a_wb (a_ri 0) wb ++ (wMo g a_now now ++ (wRi g a_ri ri ++ []))))) (wHK g a_hk q_hk_reader (a_ri 0) (a_now 0) q_hk_tried q_hk_history q_hk_board q_hk_search (a_wi 0) q_hk_colouring q_hk_chances o_hk ++ (wWi g a_wi (a_ri 0) (a_wb 0) ++ (wBo g a_wb (a_ri 0) o_wb ++ (wMo g a_now now ++ (wRi g a_ri ri ++ []))))) r_ sz) (by decide) rfl ?_
  intro p e s m args below meth c ls Q A ha hQ hA X hl hI hin
  have X : Cx p s m args meth c cX11_tries 4 RX11 (some .int) := X
  have hl : lv_has ls 4 [(0, .ref (a_hk 0)), (1, .int p1), (2, .int p2), (3, .int p3)] := hl
  obtain ⟨hx, hb, hml, hown, ht, hr, hlk⟩ := id X
  clear ha hin
  have L_41 : ∀ (hk : HKS) (wb : BoS) (H : Heap) (locs : List Loc) (ls : Array Slot), lv_has ls 4 [(0, .ref (a_hk 0))] → In g A s.heap s (wHK g a_hk q_hk_reader (a_ri 0) (a_now 0) q_hk_tried q_hk_history q_hk_board q_hk_search (a_wi 0) q_hk_colouring q_hk_chances hk ++ (wWi g a_wi (a_ri 0) (a_wb 0) ++ (wBo g a_wb (a_ri 0) wb ++ (wMo g a_now now ++ (wRi g a_ri ri ++ []))))) H locs → f_X11_tries_L41 hk wb = some (r_, o_hk, o_wb) → W p l e rm_X11_tries s m args below meth c H locs 0 0 Q (F0 m 41 ls []) := by
    intro hk wb H locs ls hl hI hf
    unfold f_X11_tries_L41 at hf
    refine lv_aload_n hx hb dX11_tries_41 rfl (lv_at hl 0 rfl) ?_
    refine lv_iconst (v := 2) hx hb dX11_tries_42 (by decide) ?_
    obtain ⟨r_8, hk_9, hc_, hf⟩ := bd2_some hf
    refine call_Vi X hI (Cj.keep Cj.nil) (c_X11_refuse l g a_hk q_hk_reader (a_ri 0) (a_now 0) q_hk_tried q_hk_history q_hk_board q_hk_search (a_wi 0) q_hk_colouring q_hk_chances hk (2 : Int32) r_8 hk_9 hc_) ⟨rfl, rfl⟩ ⟨ht _ w_729, w_732, ht _ w_139, lk_X11_refuse⟩ w_731 w_0 rfl rfl rfl hl rfl rfl dX11_tries_43 rfl rfl rfl rfl (fun H locs hI => ?_)
    cases hf
    exact end_i hQ hA X hI dX11_tries_46
  unfold f_X11_tries at hf
  refine lv_aload_n hx hb dX11_tries_0 rfl (lv_at hl 0 rfl) ?_
  refine g_HK_there X hI has_HK.l (X.fl w_686) dX11_tries_1 ?_
  refine lv_if_ne (tgt := 13) hx hb dX11_tries_4 (by decide) (fun h_ => ?_) (fun h_ => ?_)
  · replace hf := if_f h_ hf
    refine lv_iload_n hx hb dX11_tries_13 rfl (lv_at hl 1 rfl) ?_
    obtain ⟨r_1, hc_, hf⟩ := bd1_some hf
    refine call_Si X hI Cj.nil (c_X11_isSeed l g p1 r_1 hc_) ⟨rfl, rfl⟩ ⟨ht _ w_1362, w_1364, ht _ w_139, lk_X11_isSeed⟩ w_1363 rfl hl rfl rfl dX11_tries_14 rfl rfl rfl rfl (fun H locs hI => ?_)
    refine lv_if_eq (tgt := 41) hx hb dX11_tries_17 (by decide) (fun h_ => ?_) (fun h_ => ?_)
    · replace hf := if_t h_ hf
      exact L_41 hk wb _ _ _ (lv_sub hl [0] rfl) hI hf
    · replace hf := if_f h_ hf
      refine lv_iload_n hx hb dX11_tries_20 rfl (lv_at hl 2 rfl) ?_
      refine lv_iconst (v := 1) hx hb dX11_tries_21 (by decide) ?_
      refine lv_icmp_lt (tgt := 41) hx hb dX11_tries_22 (by decide) (fun h_ => ?_) (fun h_ => ?_)
      · replace hf := if_t h_ hf
        exact L_41 hk wb _ _ _ (lv_sub hl [0] rfl) hI hf
      · replace hf := if_f h_ hf
        refine lv_iload_n hx hb dX11_tries_25 rfl (lv_at hl 2 rfl) ?_
        refine lv_bipush (v := 20) hx hb dX11_tries_26 (by decide) ?_
        refine lv_icmp_gt (tgt := 41) hx hb dX11_tries_28 (by decide) (fun h_ => ?_) (fun h_ => ?_)
        · replace hf := if_t h_ hf
          exact L_41 hk wb _ _ _ (lv_sub hl [0] rfl) hI hf
        · replace hf := if_f h_ hf
          refine lv_iload_n hx hb dX11_tries_31 rfl (lv_at hl 3 rfl) ?_
          refine lv_if_lt (tgt := 41) hx hb dX11_tries_32 (by decide) (fun h_ => ?_) (fun h_ => ?_)
          · replace hf := if_t h_ hf
            exact L_41 hk wb _ _ _ (lv_sub hl [0] rfl) hI hf
          · replace hf := if_f h_ hf
            refine lv_iload_n hx hb dX11_tries_35 rfl (lv_at hl 3 rfl) ?_
            refine lv_bipush (v := 20) hx hb dX11_tries_36 (by decide) ?_
            refine lv_icmp_le (tgt := 47) hx hb dX11_tries_38 (by decide) (fun h_ => ?_) (fun h_ => ?_)
            · replace hf := if_t h_ hf
              refine lv_aload_n hx hb dX11_tries_47 rfl (lv_at hl 0 rfl) ?_
              refine lv_aload_n hx hb dX11_tries_48 rfl (lv_at hl 0 rfl) ?_
              refine g_HK_within X hI has_HK.l (X.fl w_683) dX11_tries_49 ?_
              refine lv_aload_n hx hb dX11_tries_52 rfl (lv_at hl 0 rfl) ?_
              refine g_HK_now X hI has_HK.l (X.fl w_678) dX11_tries_53 ?_
              refine lv_iload_n hx hb dX11_tries_56 rfl (lv_at hl 1 rfl) ?_
              refine lv_iload_n hx hb dX11_tries_57 rfl (lv_at hl 2 rfl) ?_
              refine lv_iload_n hx hb dX11_tries_58 rfl (lv_at hl 3 rfl) ?_
              obtain ⟨r_2, wb_3, hc_, hf⟩ := bd2_some hf
              refine call_Vi X hI (Cj.skip (Cj.keep (Cj.keep (Cj.keep (Cj.keep Cj.id))))) (c_X10_looseTries l g a_wi a_wb a_now a_ri wb now ri p1 p2 p3 r_2 wb_3 hc_) ⟨rfl, rfl⟩ ⟨ht _ w_1366, w_1369, ht _ w_152, lk_X10_looseTries⟩ w_1367 w_1368 rfl rfl rfl hl rfl rfl dX11_tries_59 rfl rfl rfl rfl (fun H locs hI => ?_)
              obtain ⟨r_4, hk_5, hc_, hf⟩ := bd2_some hf
              refine call_Vi X hI (Cj.keep Cj.nil) (c_X11_grant l g a_hk q_hk_reader (a_ri 0) (a_now 0) q_hk_tried q_hk_history q_hk_board q_hk_search (a_wi 0) q_hk_colouring q_hk_chances hk r_2 r_4 hk_5 hc_) ⟨rfl, rfl⟩ ⟨ht _ w_995, w_998, ht _ w_139, lk_X11_grant⟩ w_997 w_37 rfl rfl rfl hl rfl rfl dX11_tries_62 rfl rfl rfl rfl (fun H locs hI => ?_)
              cases hf
              exact end_i hQ hA X hI dX11_tries_65
            · replace hf := if_f h_ hf
              exact L_41 hk wb _ _ _ (lv_sub hl [0] rfl) hI hf
  · replace hf := if_t h_ hf
    refine lv_aload_n hx hb dX11_tries_7 rfl (lv_at hl 0 rfl) ?_
    refine lv_iconst (v := 1) hx hb dX11_tries_8 (by decide) ?_
    obtain ⟨r_6, hk_7, hc_, hf⟩ := bd2_some hf
    refine call_Vi X hI (Cj.keep Cj.nil) (c_X11_refuse l g a_hk q_hk_reader (a_ri 0) (a_now 0) q_hk_tried q_hk_history q_hk_board q_hk_search (a_wi 0) q_hk_colouring q_hk_chances hk (1 : Int32) r_6 hk_7 hc_) ⟨rfl, rfl⟩ ⟨ht _ w_729, w_732, ht _ w_139, lk_X11_refuse⟩ w_731 w_0 rfl rfl rfl hl rfl rfl dX11_tries_9 rfl rfl rfl rfl (fun H locs hI => ?_)
    cases hf
    exact end_i hQ hA X hI dX11_tries_12
abbrev rm_X11_ways : Room := { frames := 3, cells := 0, slots := 0, locals := 74 }
set_option maxRecDepth 20000 in
theorem c_X11_ways (l : Launch) (g : GT) (a_hk : Nat → Nat) (a_ch : Nat → Nat) (q_hk_reader : Nat) (q_hk_rings : Nat) (q_hk_now : Nat) (q_hk_tried : Nat) (q_hk_history : Nat) (q_hk_board : Nat) (q_hk_search : Nat) (q_hk_within : Nat) (q_hk_colouring : Nat) (hk : HKS) (ch : ChS) (p1 : Int32) (p2 : Int32) (p3 : Int32) (r_ : Int64) (o_hk : HKS) (o_ch : ChS) (hf : f_X11_ways hk ch p1 p2 p3 = some (r_, o_hk, o_ch)) : CL l yX11_ways cX11_ways 4 (some .long) rm_X11_ways g [.ref (a_hk 0), .int p1, .int p2, .int p3] (wHK g a_hk q_hk_reader q_hk_rings q_hk_now q_hk_tried q_hk_history q_hk_board q_hk_search q_hk_within q_hk_colouring (a_ch 0) hk ++ (wCh g a_ch ch ++ [])) (wHK g a_hk q_hk_reader q_hk_rings q_hk_now q_hk_tried q_hk_history q_hk_board q_hk_search q_hk_within q_hk_colouring (a_ch 0) o_hk ++ (wCh g a_ch o_ch ++ [])) r_ := by
  refine start2 (y := yX11_ways) (cc := cX11_ways) (n := 4) (av := [.ref (a_hk 0), .int p1, .int p2, .int p3]) (ws := (wHK g a_hk q_hk_reader q_hk_rings q_hk_now q_hk_tried q_hk_history q_hk_board q_hk_search q_hk_within q_hk_colouring (a_ch 0) hk ++ (wCh g a_ch ch ++ []))) (Qc := fun sz => QL g (wHK g a_hk q_hk_reader q_hk_rings q_hk_now q_hk_tried q_hk_history q_hk_board q_hk_search q_hk_within q_hk_colouring (a_ch 0) hk ++ (wCh g a_ch ch ++ [])) (wHK g a_hk q_hk_reader q_hk_rings q_hk_now q_hk_tried q_hk_history q_hk_board q_hk_search q_hk_within q_hk_colouring (a_ch 0) o_hk ++ (wCh g a_ch o_ch ++ [])) r_ sz) (by decide) rfl ?_
  intro p e s m args below meth c ls Q A ha hQ hA X hl hI hin
  have X : Cx p s m args meth c cX11_ways 4 RX11 (some .long) := X
  have hl : lv_has ls 4 [(0, .ref (a_hk 0)), (1, .int p1), (2, .int p2), (3, .int p3)] := hl
  obtain ⟨hx, hb, hml, hown, ht, hr, hlk⟩ := id X
  clear ha hin
  have L_14 : ∀ (hk : HKS) (ch : ChS) (H : Heap) (locs : List Loc) (ls : Array Slot), lv_has ls 4 [(0, .ref (a_hk 0))] → In g A s.heap s (wHK g a_hk q_hk_reader q_hk_rings q_hk_now q_hk_tried q_hk_history q_hk_board q_hk_search q_hk_within q_hk_colouring (a_ch 0) hk ++ (wCh g a_ch ch ++ [])) H locs → f_X11_ways_L14 hk ch = some (r_, o_hk, o_ch) → W p l e rm_X11_ways s m args below meth c H locs 0 0 Q (F0 m 14 ls []) := by
    intro hk ch H locs ls hl hI hf
    unfold f_X11_ways_L14 at hf
    refine lv_aload_n hx hb dX11_ways_14 rfl (lv_at hl 0 rfl) ?_
    refine lv_iconst (v := 2) hx hb dX11_ways_15 (by decide) ?_
    obtain ⟨r_6, hk_7, hc_, hf⟩ := bd2_some hf
    refine call_Vi X hI (Cj.keep Cj.nil) (c_X11_refuse l g a_hk q_hk_reader q_hk_rings q_hk_now q_hk_tried q_hk_history q_hk_board q_hk_search q_hk_within q_hk_colouring (a_ch 0) hk (2 : Int32) r_6 hk_7 hc_) ⟨rfl, rfl⟩ ⟨ht _ w_729, w_732, ht _ w_139, lk_X11_refuse⟩ w_731 w_0 rfl rfl rfl hl rfl rfl dX11_ways_16 rfl rfl rfl rfl (fun H locs hI => ?_)
    refine lv_i2l hx hb dX11_ways_19 rfl ?_
    cases hf
    exact end_l hQ hA X hI dX11_ways_20
  unfold f_X11_ways at hf
  refine lv_iload_n hx hb dX11_ways_0 rfl (lv_at hl 1 rfl) ?_
  obtain ⟨r_1, hc_, hf⟩ := bd1_some hf
  refine call_Si X hI Cj.nil (c_X1_isCrowd l g p1 r_1 hc_) ⟨rfl, rfl⟩ ⟨ht _ w_1382, w_1384, ht _ w_154, lk_X1_isCrowd⟩ w_1383 rfl hl rfl rfl dX11_ways_1 rfl rfl rfl rfl (fun H locs hI => ?_)
  refine lv_if_eq (tgt := 14) hx hb dX11_ways_4 (by decide) (fun h_ => ?_) (fun h_ => ?_)
  · replace hf := if_t h_ hf
    exact L_14 hk ch _ _ _ (lv_sub hl [0] rfl) hI hf
  · replace hf := if_f h_ hf
    refine lv_iload_n hx hb dX11_ways_7 rfl (lv_at hl 2 rfl) ?_
    obtain ⟨r_2, hc_, hf⟩ := bd1_some hf
    refine call_Si X hI Cj.nil (c_X1_isRingCount l g p2 r_2 hc_) ⟨rfl, rfl⟩ ⟨ht _ w_1385, w_1387, ht _ w_154, lk_X1_isRingCount⟩ w_1386 rfl hl rfl rfl dX11_ways_8 rfl rfl rfl rfl (fun H locs hI => ?_)
    refine lv_if_ne (tgt := 21) hx hb dX11_ways_11 (by decide) (fun h_ => ?_) (fun h_ => ?_)
    · replace hf := if_f h_ hf
      refine lv_aload_n hx hb dX11_ways_21 rfl (lv_at hl 0 rfl) ?_
      refine lv_iconst (v := 0) hx hb dX11_ways_22 (by decide) ?_
      refine p_HK_trouble X hI up_HK_trouble.l (X.fl w_687) dX11_ways_23 (fun H locs hI => ?_)
      generalize hz_ : (HK_trouble' hk (0 : Int32)) = hk_3 at hI hf
      clear hz_
      replace hf := lt_e hf
      refine lv_aload_n hx hb dX11_ways_26 rfl (lv_at hl 0 rfl) ?_
      refine g_HK_chances X hI has_HK.l (X.fl w_685) dX11_ways_27 ?_
      refine lv_iload_n hx hb dX11_ways_30 rfl (lv_at hl 1 rfl) ?_
      refine lv_iload_n hx hb dX11_ways_31 rfl (lv_at hl 2 rfl) ?_
      refine lv_iload_n hx hb dX11_ways_32 rfl (lv_at hl 3 rfl) ?_
      obtain ⟨r_4, ch_5, hc_, hf⟩ := bd2_some hf
      refine call_Vl X hI (Cj.skip (Cj.keep Cj.id)) (c_X1_waysInto l g a_ch ch p1 p2 p3 r_4 ch_5 hc_) ⟨rfl, rfl⟩ ⟨ht _ w_1388, w_1391, ht _ w_154, lk_X1_waysInto⟩ w_1389 w_1390 rfl rfl rfl hl rfl rfl dX11_ways_33 rfl rfl rfl rfl (fun H locs hI => ?_)
      cases hf
      exact end_l hQ hA X hI dX11_ways_36
    · replace hf := if_t h_ hf
      exact L_14 hk ch _ _ _ (lv_sub hl [0] rfl) hI hf
abbrev rm_X11_odds : Room := { frames := 4, cells := 0, slots := 0, locals := 99 }
set_option maxRecDepth 20000 in
theorem c_X11_odds (l : Launch) (g : GT) (a_hk : Nat → Nat) (a_ch : Nat → Nat) (q_hk_reader : Nat) (q_hk_rings : Nat) (q_hk_now : Nat) (q_hk_tried : Nat) (q_hk_history : Nat) (q_hk_board : Nat) (q_hk_search : Nat) (q_hk_within : Nat) (q_hk_colouring : Nat) (hk : HKS) (ch : ChS) (p1 : Int32) (p2 : Int32) (p3 : Int32) (p4 : Int32) (r_ : Int64) (o_hk : HKS) (o_ch : ChS) (hf : f_X11_odds hk ch p1 p2 p3 p4 = some (r_, o_hk, o_ch)) : CL l yX11_odds cX11_odds 7 (some .long) rm_X11_odds g [.ref (a_hk 0), .int p1, .int p2, .int p3, .int p4] (wHK g a_hk q_hk_reader q_hk_rings q_hk_now q_hk_tried q_hk_history q_hk_board q_hk_search q_hk_within q_hk_colouring (a_ch 0) hk ++ (wCh g a_ch ch ++ [])) (wHK g a_hk q_hk_reader q_hk_rings q_hk_now q_hk_tried q_hk_history q_hk_board q_hk_search q_hk_within q_hk_colouring (a_ch 0) o_hk ++ (wCh g a_ch o_ch ++ [])) r_ := by
  refine start2 (y := yX11_odds) (cc := cX11_odds) (n := 7) (av := [.ref (a_hk 0), .int p1, .int p2, .int p3, .int p4]) (ws := (wHK g a_hk q_hk_reader q_hk_rings q_hk_now q_hk_tried q_hk_history q_hk_board q_hk_search q_hk_within q_hk_colouring (a_ch 0) hk ++ (wCh g a_ch ch ++ []))) (Qc := fun sz => QL g (wHK g a_hk q_hk_reader q_hk_rings q_hk_now q_hk_tried q_hk_history q_hk_board q_hk_search q_hk_within q_hk_colouring (a_ch 0) hk ++ (wCh g a_ch ch ++ [])) (wHK g a_hk q_hk_reader q_hk_rings q_hk_now q_hk_tried q_hk_history q_hk_board q_hk_search q_hk_within q_hk_colouring (a_ch 0) o_hk ++ (wCh g a_ch o_ch ++ [])) r_ sz) (by decide) rfl ?_
  intro p e s m args below meth c ls Q A ha hQ hA X hl hI hin
  have X : Cx p s m args meth c cX11_odds 7 RX11 (some .long) := X
  have hl : lv_has ls 7 [(0, .ref (a_hk 0)), (1, .int p1), (2, .int p2), (3, .int p3), (4, .int p4)] := hl
  obtain ⟨hx, hb, hml, hown, ht, hr, hlk⟩ := id X
  clear ha hin
  have L_14 : ∀ (hk : HKS) (ch : ChS) (H : Heap) (locs : List Loc) (ls : Array Slot), lv_has ls 7 [(0, .ref (a_hk 0))] → In g A s.heap s (wHK g a_hk q_hk_reader q_hk_rings q_hk_now q_hk_tried q_hk_history q_hk_board q_hk_search q_hk_within q_hk_colouring (a_ch 0) hk ++ (wCh g a_ch ch ++ [])) H locs → f_X11_odds_L14 hk ch = some (r_, o_hk, o_ch) → W p l e rm_X11_odds s m args below meth c H locs 0 0 Q (F0 m 14 ls []) := by
    intro hk ch H locs ls hl hI hf
    unfold f_X11_odds_L14 at hf
    refine lv_aload_n hx hb dX11_odds_14 rfl (lv_at hl 0 rfl) ?_
    refine lv_iconst (v := 2) hx hb dX11_odds_15 (by decide) ?_
    obtain ⟨r_11, hk_12, hc_, hf⟩ := bd2_some hf
    refine call_Vi X hI (Cj.keep Cj.nil) (c_X11_refuse l g a_hk q_hk_reader q_hk_rings q_hk_now q_hk_tried q_hk_history q_hk_board q_hk_search q_hk_within q_hk_colouring (a_ch 0) hk (2 : Int32) r_11 hk_12 hc_) ⟨rfl, rfl⟩ ⟨ht _ w_729, w_732, ht _ w_139, lk_X11_refuse⟩ w_731 w_0 rfl rfl rfl hl rfl rfl dX11_odds_16 rfl rfl rfl rfl (fun H locs hI => ?_)
    refine lv_i2l hx hb dX11_odds_19 rfl ?_
    cases hf
    exact end_l hQ hA X hI dX11_odds_20
  unfold f_X11_odds at hf
  refine lv_iload_n hx hb dX11_odds_0 rfl (lv_at hl 1 rfl) ?_
  obtain ⟨r_1, hc_, hf⟩ := bd1_some hf
  refine call_Si X hI Cj.nil (c_X1_isCrowd l g p1 r_1 hc_) ⟨rfl, rfl⟩ ⟨ht _ w_1382, w_1384, ht _ w_154, lk_X1_isCrowd⟩ w_1383 rfl hl rfl rfl dX11_odds_1 rfl rfl rfl rfl (fun H locs hI => ?_)
  refine lv_if_eq (tgt := 14) hx hb dX11_odds_4 (by decide) (fun h_ => ?_) (fun h_ => ?_)
  · replace hf := if_t h_ hf
    exact L_14 hk ch _ _ _ (lv_sub hl [0] rfl) hI hf
  · replace hf := if_f h_ hf
    refine lv_iload_n hx hb dX11_odds_7 rfl (lv_at hl 2 rfl) ?_
    obtain ⟨r_2, hc_, hf⟩ := bd1_some hf
    refine call_Si X hI Cj.nil (c_X1_isRingCount l g p2 r_2 hc_) ⟨rfl, rfl⟩ ⟨ht _ w_1385, w_1387, ht _ w_154, lk_X1_isRingCount⟩ w_1386 rfl hl rfl rfl dX11_odds_8 rfl rfl rfl rfl (fun H locs hI => ?_)
    refine lv_if_ne (tgt := 21) hx hb dX11_odds_11 (by decide) (fun h_ => ?_) (fun h_ => ?_)
    · replace hf := if_f h_ hf
      refine lv_aload_n hx hb dX11_odds_21 rfl (lv_at hl 0 rfl) ?_
      refine g_HK_chances X hI has_HK.l (X.fl w_685) dX11_odds_22 ?_
      refine lv_iload_n hx hb dX11_odds_25 rfl (lv_at hl 1 rfl) ?_
      refine lv_iload_n hx hb dX11_odds_26 rfl (lv_at hl 3 rfl) ?_
      obtain ⟨r_3, ch_4, hc_, hf⟩ := bd2_some hf
      refine call_Vl X hI (Cj.skip (Cj.keep Cj.id)) (c_X1_allWays l g a_ch ch p1 p3 r_3 ch_4 hc_) ⟨rfl, rfl⟩ ⟨ht _ w_1404, w_1407, ht _ w_154, lk_X1_allWays⟩ w_1405 w_1406 rfl rfl rfl hl rfl rfl dX11_odds_27 rfl rfl rfl rfl (fun H locs hI => ?_)
      refine lv_lstore (lv' := [(5, .long r_3), (0, .ref (a_hk 0)), (1, .int p1), (2, .int p2), (3, .int p3), (4, .int p4)]) hx hb dX11_odds_30 hl (by decide) rfl (fun ls hl => ?_)
      refine lv_lload hx hb dX11_odds_32 (lv_at hl 0 rfl) ?_
      refine lv_lconst (v := 0) hx hb dX11_odds_34 (by decide) ?_
      refine W.lcmp hx hb dX11_odds_35 ?_
      refine lv_if_ne (tgt := 47) hx hb dX11_odds_36 (by decide) (fun h_ => ?_) (fun h_ => ?_)
      · replace hf := if_f h_ hf
        refine lv_aload_n hx hb dX11_odds_47 rfl (lv_at hl 1 rfl) ?_
        refine lv_iconst (v := 0) hx hb dX11_odds_48 (by decide) ?_
        refine p_HK_trouble X hI up_HK_trouble.l (X.fl w_687) dX11_odds_49 (fun H locs hI => ?_)
        generalize hz_ : (HK_trouble' hk (0 : Int32)) = hk_5 at hI hf
        clear hz_
        replace hf := lt_e hf
        refine lv_aload_n hx hb dX11_odds_52 rfl (lv_at hl 1 rfl) ?_
        refine g_HK_chances X hI has_HK.l (X.fl w_685) dX11_odds_53 ?_
        refine lv_iload_n hx hb dX11_odds_56 rfl (lv_at hl 2 rfl) ?_
        refine lv_iload_n hx hb dX11_odds_57 rfl (lv_at hl 3 rfl) ?_
        refine lv_iload_n hx hb dX11_odds_58 rfl (lv_at hl 4 rfl) ?_
        obtain ⟨r_6, ch_7, hc_, hf⟩ := bd2_some hf
        refine call_Vl X hI (Cj.skip (Cj.keep Cj.id)) (c_X1_waysInto l g a_ch ch_4 p1 p2 p3 r_6 ch_7 hc_) ⟨rfl, rfl⟩ ⟨ht _ w_1388, w_1391, ht _ w_154, lk_X1_waysInto⟩ w_1389 w_1390 rfl rfl rfl hl rfl rfl dX11_odds_59 rfl rfl rfl rfl (fun H locs hI => ?_)
        refine lv_lload hx hb dX11_odds_62 (lv_at hl 0 rfl) ?_
        refine lv_iload hx hb dX11_odds_64 (lv_at hl 5 rfl) ?_
        obtain ⟨r_8, hc_, hf⟩ := bd1_some hf
        refine call_Sl X hI Cj.nil (c_X1_inLowestTerms l g r_6 r_3 p4 r_8 hc_) ⟨rfl, rfl⟩ ⟨ht _ w_1409, w_1411, ht _ w_154, lk_X1_inLowestTerms⟩ w_1410 rfl hl rfl rfl dX11_odds_66 rfl rfl rfl rfl (fun H locs hI => ?_)
        cases hf
        exact end_l hQ hA X hI dX11_odds_69
      · replace hf := if_t h_ hf
        refine lv_aload_n hx hb dX11_odds_39 rfl (lv_at hl 1 rfl) ?_
        refine lv_bipush (v := 6) hx hb dX11_odds_40 (by decide) ?_
        obtain ⟨r_9, hk_10, hc_, hf⟩ := bd2_some hf
        refine call_Vi X hI (Cj.keep Cj.nil) (c_X11_refuse l g a_hk q_hk_reader q_hk_rings q_hk_now q_hk_tried q_hk_history q_hk_board q_hk_search q_hk_within q_hk_colouring (a_ch 0) hk (6 : Int32) r_9 hk_10 hc_) ⟨rfl, rfl⟩ ⟨ht _ w_729, w_732, ht _ w_139, lk_X11_refuse⟩ w_731 w_0 rfl rfl rfl hl rfl rfl dX11_odds_42 rfl rfl rfl rfl (fun H locs hI => ?_)
        refine lv_i2l hx hb dX11_odds_45 rfl ?_
        cases hf
        exact end_l hQ hA X hI dX11_odds_46
    · replace hf := if_t h_ hf
      exact L_14 hk ch _ _ _ (lv_sub hl [0] rfl) hI hf
