abbrev rm_X11_mean : Room := { frames := 4, cells := 0, slots := 0, locals := 99 }
set_option maxRecDepth 20000 in
theorem c_X11_mean (l : Launch) (g : GT) (a_hk : Nat → Nat) (a_ch : Nat → Nat) (q_hk_reader : Nat) (q_hk_rings : Nat) (q_hk_now : Nat) (q_hk_tried : Nat) (q_hk_history : Nat) (q_hk_board : Nat) (q_hk_search : Nat) (q_hk_within : Nat) (q_hk_colouring : Nat) (hk : HKS) (ch : ChS) (p1 : Int32) (p2 : Int32) (p3 : Int32) (r_ : Int64) (o_hk : HKS) (o_ch : ChS) (hf : f_X11_mean hk ch p1 p2 p3 = some (r_, o_hk, o_ch)) : CL l yX11_mean cX11_mean 6 (some .long) rm_X11_mean g [.ref (a_hk 0), .int p1, .int p2, .int p3] (wHK g a_hk q_hk_reader q_hk_rings q_hk_now q_hk_tried q_hk_history q_hk_board q_hk_search q_hk_within q_hk_colouring (a_ch 0) hk ++ (wCh g a_ch ch ++ [])) (wHK g a_hk q_hk_reader q_hk_rings q_hk_now q_hk_tried q_hk_history q_hk_board q_hk_search q_hk_within q_hk_colouring (a_ch 0) o_hk ++ (wCh g a_ch o_ch ++ [])) r_ := by
  refine start2 (y := yX11_mean) (cc := cX11_mean) (n := 6) (av := [.ref (a_hk 0), .int p1, .int p2, .int p3]) (ws := (wHK g a_hk q_hk_reader q_hk_rings q_hk_now q_hk_tried q_hk_history q_hk_board q_hk_search q_hk_within q_hk_colouring (a_ch 0) hk ++ (wCh g a_ch ch ++ []))) (Qc := fun sz => QL g (wHK g a_hk q_hk_reader q_hk_rings q_hk_now q_hk_tried q_hk_history q_hk_board q_hk_search q_hk_within q_hk_colouring (a_ch 0) hk ++ (wCh g a_ch ch ++ [])) (wHK g a_hk q_hk_reader q_hk_rings q_hk_now q_hk_tried q_hk_history q_hk_board q_hk_search q_hk_within q_hk_colouring (a_ch 0) o_hk ++ (wCh g a_ch o_ch ++ [])) r_ sz) (by decide) rfl ?_
  intro p e s m args below meth c ls Q A ha hQ hA X hl hI hin
  have X : Cx p s m args meth c cX11_mean 6 RX11 (some .long) := X
  have hl : lv_has ls 6 [(0, .ref (a_hk 0)), (1, .int p1), (2, .int p2), (3, .int p3)] := hl
  obtain ⟨hx, hb, hml, hown, ht, hr, hlk⟩ := id X
  clear ha hin
  unfold f_X11_mean at hf
  refine lv_iload_n hx hb dX11_mean_0 rfl (lv_at hl 1 rfl) ?_
  obtain ⟨r_1, hc_, hf⟩ := bd1_some hf
  refine call_Si X hI Cj.nil (c_X1_isCrowd l g p1 r_1 hc_) ⟨rfl, rfl⟩ ⟨ht _ w_1382, w_1384, ht _ w_154, lk_X1_isCrowd⟩ w_1383 rfl hl rfl rfl dX11_mean_1 rfl rfl rfl rfl (fun H locs hI => ?_)
  refine lv_if_ne (tgt := 14) hx hb dX11_mean_4 (by decide) (fun h_ => ?_) (fun h_ => ?_)
  · replace hf := if_f h_ hf
    refine lv_aload_n hx hb dX11_mean_14 rfl (lv_at hl 0 rfl) ?_
    refine g_HK_chances X hI has_HK.l (X.fl w_685) dX11_mean_15 ?_
    refine lv_iload_n hx hb dX11_mean_18 rfl (lv_at hl 1 rfl) ?_
    refine lv_iload_n hx hb dX11_mean_19 rfl (lv_at hl 2 rfl) ?_
    obtain ⟨r_2, ch_3, hc_, hf⟩ := bd2_some hf
    refine call_Vl X hI (Cj.skip (Cj.keep Cj.id)) (c_X1_allWays l g a_ch ch p1 p2 r_2 ch_3 hc_) ⟨rfl, rfl⟩ ⟨ht _ w_1404, w_1407, ht _ w_154, lk_X1_allWays⟩ w_1405 w_1406 rfl rfl rfl hl rfl rfl dX11_mean_20 rfl rfl rfl rfl (fun H locs hI => ?_)
    refine lv_lstore (lv' := [(4, .long r_2), (0, .ref (a_hk 0)), (1, .int p1), (2, .int p2), (3, .int p3)]) hx hb dX11_mean_23 hl (by decide) rfl (fun ls hl => ?_)
    refine lv_lload hx hb dX11_mean_25 (lv_at hl 0 rfl) ?_
    refine lv_lconst (v := 0) hx hb dX11_mean_27 (by decide) ?_
    refine W.lcmp hx hb dX11_mean_28 ?_
    refine lv_if_ne (tgt := 40) hx hb dX11_mean_29 (by decide) (fun h_ => ?_) (fun h_ => ?_)
    · replace hf := if_f h_ hf
      refine lv_aload_n hx hb dX11_mean_40 rfl (lv_at hl 1 rfl) ?_
      refine lv_iconst (v := 0) hx hb dX11_mean_41 (by decide) ?_
      refine p_HK_trouble X hI up_HK_trouble.l (X.fl w_687) dX11_mean_42 (fun H locs hI => ?_)
      generalize hz_ : (HK_trouble' hk (0 : Int32)) = hk_4 at hI hf
      clear hz_
      replace hf := lt_e hf
      refine lv_aload_n hx hb dX11_mean_45 rfl (lv_at hl 1 rfl) ?_
      refine g_HK_chances X hI has_HK.l (X.fl w_685) dX11_mean_46 ?_
      refine lv_iload_n hx hb dX11_mean_49 rfl (lv_at hl 2 rfl) ?_
      refine lv_iload_n hx hb dX11_mean_50 rfl (lv_at hl 3 rfl) ?_
      obtain ⟨r_5, ch_6, hc_, hf⟩ := bd2_some hf
      refine call_Vl X hI (Cj.skip (Cj.keep Cj.id)) (c_X1_allRings l g a_ch ch_3 p1 p2 r_5 ch_6 hc_) ⟨rfl, rfl⟩ ⟨ht _ w_1419, w_1422, ht _ w_154, lk_X1_allRings⟩ w_1420 w_1421 rfl rfl rfl hl rfl rfl dX11_mean_51 rfl rfl rfl rfl (fun H locs hI => ?_)
      refine lv_lload hx hb dX11_mean_54 (lv_at hl 0 rfl) ?_
      refine lv_iload_n hx hb dX11_mean_56 rfl (lv_at hl 4 rfl) ?_
      obtain ⟨r_7, hc_, hf⟩ := bd1_some hf
      refine call_Sl X hI Cj.nil (c_X1_inLowestTerms l g r_5 r_2 p3 r_7 hc_) ⟨rfl, rfl⟩ ⟨ht _ w_1409, w_1411, ht _ w_154, lk_X1_inLowestTerms⟩ w_1410 rfl hl rfl rfl dX11_mean_57 rfl rfl rfl rfl (fun H locs hI => ?_)
      cases hf
      exact end_l hQ hA X hI dX11_mean_60
    · replace hf := if_t h_ hf
      refine lv_aload_n hx hb dX11_mean_32 rfl (lv_at hl 1 rfl) ?_
      refine lv_bipush (v := 6) hx hb dX11_mean_33 (by decide) ?_
      obtain ⟨r_8, hk_9, hc_, hf⟩ := bd2_some hf
      refine call_Vi X hI (Cj.keep Cj.nil) (c_X11_refuse l g a_hk q_hk_reader q_hk_rings q_hk_now q_hk_tried q_hk_history q_hk_board q_hk_search q_hk_within q_hk_colouring (a_ch 0) hk (6 : Int32) r_8 hk_9 hc_) ⟨rfl, rfl⟩ ⟨ht _ w_729, w_732, ht _ w_139, lk_X11_refuse⟩ w_731 w_0 rfl rfl rfl hl rfl rfl dX11_mean_35 rfl rfl rfl rfl (fun H locs hI => ?_)
      refine lv_i2l hx hb dX11_mean_38 rfl ?_
      cases hf
      exact end_l hQ hA X hI dX11_mean_39
  · replace hf := if_t h_ hf
    refine lv_aload_n hx hb dX11_mean_7 rfl (lv_at hl 0 rfl) ?_
    refine lv_iconst (v := 2) hx hb dX11_mean_8 (by decide) ?_
    obtain ⟨r_10, hk_11, hc_, hf⟩ := bd2_some hf
    refine call_Vi X hI (Cj.keep Cj.nil) (c_X11_refuse l g a_hk q_hk_reader q_hk_rings q_hk_now q_hk_tried q_hk_history q_hk_board q_hk_search q_hk_within q_hk_colouring (a_ch 0) hk (2 : Int32) r_10 hk_11 hc_) ⟨rfl, rfl⟩ ⟨ht _ w_729, w_732, ht _ w_139, lk_X11_refuse⟩ w_731 w_0 rfl rfl rfl hl rfl rfl dX11_mean_9 rfl rfl rfl rfl (fun H locs hI => ?_)
    refine lv_i2l hx hb dX11_mean_12 rfl ?_
    cases hf
    exact end_l hQ hA X hI dX11_mean_13
abbrev rm_X11_makeMove : Room := { frames := 5, cells := 0, slots := 0, locals := 117 }
set_option maxRecDepth 20000 in
theorem c_X11_makeMove (l : Launch) (g : GT) (a_hk : Nat → Nat) (a_bo : Nat → Nat) (a_now : Nat → Nat) (a_ri : Nat → Nat) (q_hk_reader : Nat) (q_hk_tried : Nat) (q_hk_history : Nat) (q_hk_search : Nat) (q_hk_within : Nat) (q_hk_colouring : Nat) (q_hk_chances : Nat) (hk : HKS) (bo : BoS) (now : MoS) (ri : RiS) (p1 : Int32) (o_bo : BoS) (o_now : MoS) (hf : f_X11_makeMove bo now ri p1 = some (o_bo, o_now)) : CV l yX11_makeMove cX11_makeMove 2 none rm_X11_makeMove g [.ref (a_hk 0), .int p1] (wHK g a_hk q_hk_reader (a_ri 0) (a_now 0) q_hk_tried q_hk_history (a_bo 0) q_hk_search q_hk_within q_hk_colouring q_hk_chances hk ++ (wBo g a_bo (a_ri 0) bo ++ (wMo g a_now now ++ (wRi g a_ri ri ++ [])))) (wHK g a_hk q_hk_reader (a_ri 0) (a_now 0) q_hk_tried q_hk_history (a_bo 0) q_hk_search q_hk_within q_hk_colouring q_hk_chances hk ++ (wBo g a_bo (a_ri 0) o_bo ++ (wMo g a_now o_now ++ (wRi g a_ri ri ++ [])))) := by
  refine start2 (y := yX11_makeMove) (cc := cX11_makeMove) (n := 2) (av := [.ref (a_hk 0), .int p1]) (ws := (wHK g a_hk q_hk_reader (a_ri 0) (a_now 0) q_hk_tried q_hk_history (a_bo 0) q_hk_search q_hk_within q_hk_colouring q_hk_chances hk ++ (wBo g a_bo (a_ri 0) bo ++ (wMo g a_now now ++ (wRi g a_ri ri ++ []))))) (Qc := fun sz => QV g (wHK g a_hk q_hk_reader (a_ri 0) (a_now 0) q_hk_tried q_hk_history (a_bo 0) q_hk_search q_hk_within q_hk_colouring q_hk_chances hk ++ (wBo g a_bo (a_ri 0) bo ++ (wMo g a_now now ++ (wRi g a_ri ri ++ [])))) (wHK g a_hk q_hk_reader (a_ri 0) (a_now 0) q_hk_tried q_hk_history (a_bo 0) q_hk_search q_hk_within q_hk_colouring q_hk_chances hk ++ (wBo g a_bo (a_ri 0) o_bo ++ (wMo g a_now o_now ++ (wRi g a_ri ri ++ [])))) sz) (by decide) rfl ?_
  intro p e s m args below meth c ls Q A ha hQ hA X hl hI hin
  have X : Cx p s m args meth c cX11_makeMove 2 RX11 none := X
  have hl : lv_has ls 2 [(0, .ref (a_hk 0)), (1, .int p1)] := hl
  obtain ⟨hx, hb, hml, hown, ht, hr, hlk⟩ := id X
  clear ha hin
  unfold f_X11_makeMove at hf
  refine lv_aload_n hx hb dX11_makeMove_0 rfl (lv_at hl 0 rfl) ?_
  refine g_HK_now X hI has_HK.l (X.fl w_678) dX11_makeMove_1 ?_
  refine lv_aload_n hx hb dX11_makeMove_4 rfl (lv_at hl 0 rfl) ?_
  refine g_HK_board X hI has_HK.l (X.fl w_681) dX11_makeMove_5 ?_
  refine lv_iload_n hx hb dX11_makeMove_8 rfl (lv_at hl 1 rfl) ?_
  obtain ⟨r_1, hc_, hf⟩ := bd1_some hf
  refine call_Vl X hI (Cj.skip (Cj.keep Cj.nil)) (c_X0_after l g a_bo (a_ri 0) bo p1 r_1 hc_) ⟨rfl, rfl⟩ ⟨ht _ w_1437, w_1166, ht _ w_150, lk_X0_after⟩ w_1164 w_1165 rfl rfl rfl hl rfl rfl dX11_makeMove_9 rfl rfl rfl rfl (fun H locs hI => ?_)
  refine p_Mo_key X hI up_Mo_key.l.r.r (hI.fn (List.mem_of_getElem? (i := 57) rfl)) dX11_makeMove_12 (fun H locs hI => ?_)
  generalize hz_ : (Mo_key' now r_1) = now_2 at hI hf
  clear hz_
  replace hf := lt_e hf
  refine lv_aload_n hx hb dX11_makeMove_15 rfl (lv_at hl 0 rfl) ?_
  refine g_HK_board X hI has_HK.l (X.fl w_681) dX11_makeMove_16 ?_
  refine lv_aload_n hx hb dX11_makeMove_19 rfl (lv_at hl 0 rfl) ?_
  refine g_HK_now X hI has_HK.l (X.fl w_678) dX11_makeMove_20 ?_
  obtain ⟨bo_3, hc_, hf⟩ := bd1_some hf
  refine call_Vv X hI (Cj.skip (Cj.keep (Cj.keep (Cj.keep Cj.id)))) (c_X0_lay l g a_bo a_now a_ri bo now_2 ri bo_3 hc_) ⟨rfl, rfl⟩ ⟨ht _ w_936, w_939, ht _ w_150, lk_X0_lay⟩ w_937 w_938 rfl rfl rfl hl rfl rfl dX11_makeMove_23 rfl rfl rfl rfl (fun H locs hI => ?_)
  cases hf
  exact end_v hQ hA X hI dX11_makeMove_26
abbrev rm_X11_move : Room := { frames := 6, cells := 0, slots := 0, locals := 138 }
set_option maxRecDepth 20000 in
theorem c_X11_move (l : Launch) (g : GT) (a_hk : Nat → Nat) (a_bo : Nat → Nat) (a_hi : Nat → Nat) (a_now : Nat → Nat) (a_ri : Nat → Nat) (q_hk_reader : Nat) (q_hk_tried : Nat) (q_hk_search : Nat) (q_hk_within : Nat) (q_hk_colouring : Nat) (q_hk_chances : Nat) (hk : HKS) (bo : BoS) (hi : HiS) (now : MoS) (ri : RiS) (p1 : Int32) (r_ : Int32) (o_hk : HKS) (o_bo : BoS) (o_hi : HiS) (o_now : MoS) (hf : f_X11_move hk bo hi now ri p1 = some (r_, o_hk, o_bo, o_hi, o_now)) : CI l yX11_move cX11_move 2 (some .int) rm_X11_move g [.ref (a_hk 0), .int p1] (wHK g a_hk q_hk_reader (a_ri 0) (a_now 0) q_hk_tried (a_hi 0) (a_bo 0) q_hk_search q_hk_within q_hk_colouring q_hk_chances hk ++ (wBo g a_bo (a_ri 0) bo ++ (wHi g a_hi hi ++ (wMo g a_now now ++ (wRi g a_ri ri ++ []))))) (wHK g a_hk q_hk_reader (a_ri 0) (a_now 0) q_hk_tried (a_hi 0) (a_bo 0) q_hk_search q_hk_within q_hk_colouring q_hk_chances o_hk ++ (wBo g a_bo (a_ri 0) o_bo ++ (wHi g a_hi o_hi ++ (wMo g a_now o_now ++ (wRi g a_ri ri ++ []))))) r_ := by
  refine start2 (y := yX11_move) (cc := cX11_move) (n := 2) (av := [.ref (a_hk 0), .int p1]) (ws := (wHK g a_hk q_hk_reader (a_ri 0) (a_now 0) q_hk_tried (a_hi 0) (a_bo 0) q_hk_search q_hk_within q_hk_colouring q_hk_chances hk ++ (wBo g a_bo (a_ri 0) bo ++ (wHi g a_hi hi ++ (wMo g a_now now ++ (wRi g a_ri ri ++ [])))))) (Qc := fun sz => QI g (wHK g a_hk q_hk_reader (a_ri 0) (a_now 0) q_hk_tried (a_hi 0) (a_bo 0) q_hk_search q_hk_within q_hk_colouring q_hk_chances hk ++ (wBo g a_bo (a_ri 0) bo ++ (wHi g a_hi hi ++ (wMo g a_now now ++ (wRi g a_ri ri ++ []))))) (wHK g a_hk q_hk_reader (a_ri 0) (a_now 0) q_hk_tried (a_hi 0) (a_bo 0) q_hk_search q_hk_within q_hk_colouring q_hk_chances o_hk ++ (wBo g a_bo (a_ri 0) o_bo ++ (wHi g a_hi o_hi ++ (wMo g a_now o_now ++ (wRi g a_ri ri ++ []))))) r_ sz) (by decide) rfl ?_
  intro p e s m args below meth c ls Q A ha hQ hA X hl hI hin
  have X : Cx p s m args meth c cX11_move 2 RX11 (some .int) := X
  have hl : lv_has ls 2 [(0, .ref (a_hk 0)), (1, .int p1)] := hl
  obtain ⟨hx, hb, hml, hown, ht, hr, hlk⟩ := id X
  clear ha hin
  unfold f_X11_move at hf
  refine lv_aload_n hx hb dX11_move_0 rfl (lv_at hl 0 rfl) ?_
  refine lv_iload_n hx hb dX11_move_1 rfl (lv_at hl 1 rfl) ?_
  obtain ⟨r_1, hc_, hf⟩ := bd1_some hf
  refine call_Vi X hI (Cj.keep (Cj.skip (Cj.skip (Cj.skip (Cj.keep Cj.id))))) (c_X11_isMove l g a_hk a_ri q_hk_reader (a_now 0) q_hk_tried (a_hi 0) (a_bo 0) q_hk_search q_hk_within q_hk_colouring q_hk_chances hk ri p1 r_1 hc_) ⟨rfl, rfl⟩ ⟨ht _ w_1089, w_1092, ht _ w_139, lk_X11_isMove⟩ w_1091 w_44 rfl rfl rfl hl rfl rfl dX11_move_2 rfl rfl rfl rfl (fun H locs hI => ?_)
  refine lv_if_ne (tgt := 14) hx hb dX11_move_5 (by decide) (fun h_ => ?_) (fun h_ => ?_)
  · replace hf := if_f h_ hf
    refine lv_aload_n hx hb dX11_move_14 rfl (lv_at hl 0 rfl) ?_
    refine g_HK_board X hI has_HK.l (X.fl w_681) dX11_move_15 ?_
    refine lv_iload_n hx hb dX11_move_18 rfl (lv_at hl 1 rfl) ?_
    obtain ⟨r_2, hc_, hf⟩ := bd1_some hf
    refine call_Vi X hI (Cj.skip (Cj.keep (Cj.skip (Cj.skip (Cj.keep Cj.id))))) (c_X0_allows l g a_bo a_ri bo ri p1 r_2 hc_) ⟨rfl, rfl⟩ ⟨ht _ w_1105, w_1108, ht _ w_150, lk_X0_allows⟩ w_1106 w_1107 rfl rfl rfl hl rfl rfl dX11_move_19 rfl rfl rfl rfl (fun H locs hI => ?_)
    refine lv_if_ne (tgt := 31) hx hb dX11_move_22 (by decide) (fun h_ => ?_) (fun h_ => ?_)
    · replace hf := if_f h_ hf
      refine lv_aload_n hx hb dX11_move_31 rfl (lv_at hl 0 rfl) ?_
      refine g_HK_history X hI has_HK.l (X.fl w_680) dX11_move_32 ?_
      refine lv_aload_n hx hb dX11_move_35 rfl (lv_at hl 0 rfl) ?_
      refine g_HK_now X hI has_HK.l (X.fl w_678) dX11_move_36 ?_
      obtain ⟨hi_3, hc_, hf⟩ := bd1_some hf
      refine call_Vv X hI (Cj.skip (Cj.skip (Cj.keep (Cj.keep Cj.nil)))) (c_X3_keep l g a_hi a_now hi now hi_3 hc_) ⟨rfl, rfl⟩ ⟨ht _ w_1427, w_1430, ht _ w_149, lk_X3_keep⟩ w_1428 w_1429 rfl rfl rfl hl rfl rfl dX11_move_39 rfl rfl rfl rfl (fun H locs hI => ?_)
      refine lv_aload_n hx hb dX11_move_42 rfl (lv_at hl 0 rfl) ?_
      refine lv_iload_n hx hb dX11_move_43 rfl (lv_at hl 1 rfl) ?_
      obtain ⟨bo_4, now_5, hc_, hf⟩ := bd2_some hf
      refine call_Vv X hI (Cj.keep (Cj.keep (Cj.skip (Cj.keep (Cj.keep Cj.id))))) (c_X11_makeMove l g a_hk a_bo a_now a_ri q_hk_reader q_hk_tried (a_hi 0) q_hk_search q_hk_within q_hk_colouring q_hk_chances hk bo now ri p1 bo_4 now_5 hc_) ⟨rfl, rfl⟩ ⟨ht _ w_1433, w_1436, ht _ w_139, lk_X11_makeMove⟩ w_1435 w_60 rfl rfl rfl hl rfl rfl dX11_move_44 rfl rfl rfl rfl (fun H locs hI => ?_)
      refine lv_aload_n hx hb dX11_move_47 rfl (lv_at hl 0 rfl) ?_
      refine lv_aload_n hx hb dX11_move_48 rfl (lv_at hl 0 rfl) ?_
      refine g_HK_board X hI has_HK.l (X.fl w_681) dX11_move_49 ?_
      refine g_Bo_left X hI has_Bo.l.r (hI.fn (List.mem_of_getElem? (i := 70) rfl)) dX11_move_52 ?_
      obtain ⟨r_6, hk_7, hc_, hf⟩ := bd2_some hf
      refine call_Vi X hI (Cj.keep Cj.nil) (c_X11_grant l g a_hk q_hk_reader (a_ri 0) (a_now 0) q_hk_tried (a_hi 0) (a_bo 0) q_hk_search q_hk_within q_hk_colouring q_hk_chances hk (Bo_left bo_4) r_6 hk_7 hc_) ⟨rfl, rfl⟩ ⟨ht _ w_995, w_998, ht _ w_139, lk_X11_grant⟩ w_997 w_37 rfl rfl rfl hl rfl rfl dX11_move_55 rfl rfl rfl rfl (fun H locs hI => ?_)
      cases hf
      exact end_i hQ hA X hI dX11_move_58
    · replace hf := if_t h_ hf
      refine lv_aload_n hx hb dX11_move_25 rfl (lv_at hl 0 rfl) ?_
      refine lv_iconst (v := 5) hx hb dX11_move_26 (by decide) ?_
      obtain ⟨r_8, hk_9, hc_, hf⟩ := bd2_some hf
      refine call_Vi X hI (Cj.keep Cj.nil) (c_X11_refuse l g a_hk q_hk_reader (a_ri 0) (a_now 0) q_hk_tried (a_hi 0) (a_bo 0) q_hk_search q_hk_within q_hk_colouring q_hk_chances hk (5 : Int32) r_8 hk_9 hc_) ⟨rfl, rfl⟩ ⟨ht _ w_729, w_732, ht _ w_139, lk_X11_refuse⟩ w_731 w_0 rfl rfl rfl hl rfl rfl dX11_move_27 rfl rfl rfl rfl (fun H locs hI => ?_)
      cases hf
      exact end_i hQ hA X hI dX11_move_30
  · replace hf := if_t h_ hf
    refine lv_aload_n hx hb dX11_move_8 rfl (lv_at hl 0 rfl) ?_
    refine lv_iconst (v := 1) hx hb dX11_move_9 (by decide) ?_
    obtain ⟨r_10, hk_11, hc_, hf⟩ := bd2_some hf
    refine call_Vi X hI (Cj.keep Cj.nil) (c_X11_refuse l g a_hk q_hk_reader (a_ri 0) (a_now 0) q_hk_tried (a_hi 0) (a_bo 0) q_hk_search q_hk_within q_hk_colouring q_hk_chances hk (1 : Int32) r_10 hk_11 hc_) ⟨rfl, rfl⟩ ⟨ht _ w_729, w_732, ht _ w_139, lk_X11_refuse⟩ w_731 w_0 rfl rfl rfl hl rfl rfl dX11_move_10 rfl rfl rfl rfl (fun H locs hI => ?_)
    cases hf
    exact end_i hQ hA X hI dX11_move_13
abbrev rm_X11_parts : Room := { frames := 5, cells := 0, slots := 0, locals := 117 }
set_option maxRecDepth 20000 in
theorem c_X11_parts (l : Launch) (g : GT) (a_hk : Nat → Nat) (a_bo : Nat → Nat) (a_hi : Nat → Nat) (a_now : Nat → Nat) (a_ri : Nat → Nat) (q_hk_reader : Nat) (q_hk_tried : Nat) (q_hk_search : Nat) (q_hk_within : Nat) (q_hk_colouring : Nat) (q_hk_chances : Nat) (hk : HKS) (bo : BoS) (hi : HiS) (now : MoS) (ri : RiS) (p1 : Int32) (r_ : Int32) (o_hk : HKS) (o_bo : BoS) (o_hi : HiS) (o_now : MoS) (hf : f_X11_parts hk bo hi now ri p1 = some (r_, o_hk, o_bo, o_hi, o_now)) : CI l yX11_parts cX11_parts 3 (some .int) rm_X11_parts g [.ref (a_hk 0), .int p1] (wHK g a_hk q_hk_reader (a_ri 0) (a_now 0) q_hk_tried (a_hi 0) (a_bo 0) q_hk_search q_hk_within q_hk_colouring q_hk_chances hk ++ (wBo g a_bo (a_ri 0) bo ++ (wHi g a_hi hi ++ (wMo g a_now now ++ (wRi g a_ri ri ++ []))))) (wHK g a_hk q_hk_reader (a_ri 0) (a_now 0) q_hk_tried (a_hi 0) (a_bo 0) q_hk_search q_hk_within q_hk_colouring q_hk_chances o_hk ++ (wBo g a_bo (a_ri 0) o_bo ++ (wHi g a_hi o_hi ++ (wMo g a_now o_now ++ (wRi g a_ri ri ++ []))))) r_ := by
  refine start2 (y := yX11_parts) (cc := cX11_parts) (n := 3) (av := [.ref (a_hk 0), .int p1]) (ws := (wHK g a_hk q_hk_reader (a_ri 0) (a_now 0) q_hk_tried (a_hi 0) (a_bo 0) q_hk_search q_hk_within q_hk_colouring q_hk_chances hk ++ (wBo g a_bo (a_ri 0) bo ++ (wHi g a_hi hi ++ (wMo g a_now now ++ (wRi g a_ri ri ++ [])))))) (Qc := fun sz => QI g (wHK g a_hk q_hk_reader (a_ri 0) (a_now 0) q_hk_tried (a_hi 0) (a_bo 0) q_hk_search q_hk_within q_hk_colouring q_hk_chances hk ++ (wBo g a_bo (a_ri 0) bo ++ (wHi g a_hi hi ++ (wMo g a_now now ++ (wRi g a_ri ri ++ []))))) (wHK g a_hk q_hk_reader (a_ri 0) (a_now 0) q_hk_tried (a_hi 0) (a_bo 0) q_hk_search q_hk_within q_hk_colouring q_hk_chances o_hk ++ (wBo g a_bo (a_ri 0) o_bo ++ (wHi g a_hi o_hi ++ (wMo g a_now o_now ++ (wRi g a_ri ri ++ []))))) r_ sz) (by decide) rfl ?_
  intro p e s m args below meth c ls Q A ha hQ hA X hl hI hin
  have X : Cx p s m args meth c cX11_parts 3 RX11 (some .int) := X
  have hl : lv_has ls 3 [(0, .ref (a_hk 0)), (1, .int p1)] := hl
  obtain ⟨hx, hb, hml, hown, ht, hr, hlk⟩ := id X
  clear ha hin
  unfold f_X11_parts at hf
  refine lv_aload_n hx hb dX11_parts_0 rfl (lv_at hl 0 rfl) ?_
  refine lv_iload_n hx hb dX11_parts_1 rfl (lv_at hl 1 rfl) ?_
  obtain ⟨r_1, hc_, hf⟩ := bd1_some hf
  refine call_Vi X hI (Cj.keep (Cj.skip (Cj.skip (Cj.skip (Cj.keep Cj.id))))) (c_X11_isLink l g a_hk a_ri q_hk_reader (a_now 0) q_hk_tried (a_hi 0) (a_bo 0) q_hk_search q_hk_within q_hk_colouring q_hk_chances hk ri p1 r_1 hc_) ⟨rfl, rfl⟩ ⟨ht _ w_1040, w_1043, ht _ w_139, lk_X11_isLink⟩ w_1042 w_40 rfl rfl rfl hl rfl rfl dX11_parts_2 rfl rfl rfl rfl (fun H locs hI => ?_)
  refine lv_if_ne (tgt := 14) hx hb dX11_parts_5 (by decide) (fun h_ => ?_) (fun h_ => ?_)
  · replace hf := if_f h_ hf
    refine lv_aload_n hx hb dX11_parts_14 rfl (lv_at hl 0 rfl) ?_
    refine g_HK_now X hI has_HK.l (X.fl w_678) dX11_parts_15 ?_
    refine g_Mo_parted X hI has_Mo.l.r.r.r (hI.fn (List.mem_of_getElem? (i := 64) rfl)) dX11_parts_18 ?_
    refine lv_bipush (v := (-2)) hx hb dX11_parts_21 (by decide) ?_
    refine lv_icmp_eq (tgt := 32) hx hb dX11_parts_23 (by decide) (fun h_ => ?_) (fun h_ => ?_)
    · replace hf := if_t h_ hf
      refine lv_aload_n hx hb dX11_parts_32 rfl (lv_at hl 0 rfl) ?_
      refine g_HK_history X hI has_HK.l (X.fl w_680) dX11_parts_33 ?_
      refine lv_aload_n hx hb dX11_parts_36 rfl (lv_at hl 0 rfl) ?_
      refine g_HK_now X hI has_HK.l (X.fl w_678) dX11_parts_37 ?_
      obtain ⟨hi_2, hc_, hf⟩ := bd1_some hf
      refine call_Vv X hI (Cj.skip (Cj.skip (Cj.keep (Cj.keep Cj.nil)))) (c_X3_keep l g a_hi a_now hi now hi_2 hc_) ⟨rfl, rfl⟩ ⟨ht _ w_1427, w_1430, ht _ w_149, lk_X3_keep⟩ w_1428 w_1429 rfl rfl rfl hl rfl rfl dX11_parts_40 rfl rfl rfl rfl (fun H locs hI => ?_)
      refine lv_aload_n hx hb dX11_parts_43 rfl (lv_at hl 0 rfl) ?_
      refine g_HK_board X hI has_HK.l (X.fl w_681) dX11_parts_44 ?_
      refine g_Bo_left X hI has_Bo.l.r (hI.fn (List.mem_of_getElem? (i := 70) rfl)) dX11_parts_47 ?_
      refine lv_topi (fun v_3 e_ => ?_)
      replace hf := lt_to e_ hf
      clear e_
      refine lv_istore_n (lv' := [(2, .int v_3), (0, .ref (a_hk 0)), (1, .int p1)]) hx hb dX11_parts_50 rfl hl (by decide) rfl (fun ls hl => ?_)
      refine lv_aload_n hx hb dX11_parts_51 rfl (lv_at hl 1 rfl) ?_
      refine g_HK_now X hI has_HK.l (X.fl w_678) dX11_parts_52 ?_
      refine lv_aload_n hx hb dX11_parts_55 rfl (lv_at hl 1 rfl) ?_
      refine g_HK_rings X hI has_HK.l (X.fl w_677) dX11_parts_56 ?_
      refine lv_iload_n hx hb dX11_parts_59 rfl (lv_at hl 2 rfl) ?_
      obtain ⟨now_4, hc_, hf⟩ := bd1_some hf
      refine call_Vv X hI (Cj.skip (Cj.skip (Cj.skip (Cj.keep (Cj.keep Cj.id))))) (c_X4_letGo l g a_now a_ri now ri p1 now_4 hc_) ⟨rfl, rfl⟩ ⟨ht _ w_1275, w_1278, ht _ w_148, lk_X4_letGo⟩ w_1276 w_1277 rfl rfl rfl hl rfl rfl dX11_parts_60 rfl rfl rfl rfl (fun H locs hI => ?_)
      refine lv_aload_n hx hb dX11_parts_63 rfl (lv_at hl 1 rfl) ?_
      refine g_HK_board X hI has_HK.l (X.fl w_681) dX11_parts_64 ?_
      refine lv_aload_n hx hb dX11_parts_67 rfl (lv_at hl 1 rfl) ?_
      refine g_HK_now X hI has_HK.l (X.fl w_678) dX11_parts_68 ?_
      obtain ⟨bo_5, hc_, hf⟩ := bd1_some hf
      refine call_Vv X hI (Cj.skip (Cj.keep (Cj.skip (Cj.keep (Cj.keep Cj.id))))) (c_X0_lay l g a_bo a_now a_ri bo now_4 ri bo_5 hc_) ⟨rfl, rfl⟩ ⟨ht _ w_936, w_939, ht _ w_150, lk_X0_lay⟩ w_937 w_938 rfl rfl rfl hl rfl rfl dX11_parts_71 rfl rfl rfl rfl (fun H locs hI => ?_)
      refine lv_aload_n hx hb dX11_parts_74 rfl (lv_at hl 1 rfl) ?_
      refine lv_iload_n hx hb dX11_parts_75 rfl (lv_at hl 0 rfl) ?_
      refine lv_aload_n hx hb dX11_parts_76 rfl (lv_at hl 1 rfl) ?_
      refine g_HK_board X hI has_HK.l (X.fl w_681) dX11_parts_77 ?_
      refine g_Bo_left X hI has_Bo.l.r (hI.fn (List.mem_of_getElem? (i := 70) rfl)) dX11_parts_80 ?_
      refine lv_isub hx hb dX11_parts_83 ?_
      obtain ⟨r_6, hk_7, hc_, hf⟩ := bd2_some hf
      refine call_Vi X hI (Cj.keep Cj.nil) (c_X11_grant l g a_hk q_hk_reader (a_ri 0) (a_now 0) q_hk_tried (a_hi 0) (a_bo 0) q_hk_search q_hk_within q_hk_colouring q_hk_chances hk (v_3 - (Bo_left bo_5)) r_6 hk_7 hc_) ⟨rfl, rfl⟩ ⟨ht _ w_995, w_998, ht _ w_139, lk_X11_grant⟩ w_997 w_37 rfl rfl rfl hl rfl rfl dX11_parts_84 rfl rfl rfl rfl (fun H locs hI => ?_)
      cases hf
      exact end_i hQ hA X hI dX11_parts_87
    · replace hf := if_f h_ hf
      refine lv_aload_n hx hb dX11_parts_26 rfl (lv_at hl 0 rfl) ?_
      refine lv_iconst (v := 5) hx hb dX11_parts_27 (by decide) ?_
      obtain ⟨r_8, hk_9, hc_, hf⟩ := bd2_some hf
      refine call_Vi X hI (Cj.keep Cj.nil) (c_X11_refuse l g a_hk q_hk_reader (a_ri 0) (a_now 0) q_hk_tried (a_hi 0) (a_bo 0) q_hk_search q_hk_within q_hk_colouring q_hk_chances hk (5 : Int32) r_8 hk_9 hc_) ⟨rfl, rfl⟩ ⟨ht _ w_729, w_732, ht _ w_139, lk_X11_refuse⟩ w_731 w_0 rfl rfl rfl hl rfl rfl dX11_parts_28 rfl rfl rfl rfl (fun H locs hI => ?_)
      cases hf
      exact end_i hQ hA X hI dX11_parts_31
  · replace hf := if_t h_ hf
    refine lv_aload_n hx hb dX11_parts_8 rfl (lv_at hl 0 rfl) ?_
    refine lv_iconst (v := 1) hx hb dX11_parts_9 (by decide) ?_
    obtain ⟨r_10, hk_11, hc_, hf⟩ := bd2_some hf
    refine call_Vi X hI (Cj.keep Cj.nil) (c_X11_refuse l g a_hk q_hk_reader (a_ri 0) (a_now 0) q_hk_tried (a_hi 0) (a_bo 0) q_hk_search q_hk_within q_hk_colouring q_hk_chances hk (1 : Int32) r_10 hk_11 hc_) ⟨rfl, rfl⟩ ⟨ht _ w_729, w_732, ht _ w_139, lk_X11_refuse⟩ w_731 w_0 rfl rfl rfl hl rfl rfl dX11_parts_10 rfl rfl rfl rfl (fun H locs hI => ?_)
    cases hf
    exact end_i hQ hA X hI dX11_parts_13
abbrev rm_X11_lifts : Room := { frames := 5, cells := 0, slots := 0, locals := 117 }
set_option maxRecDepth 20000 in
theorem c_X11_lifts (l : Launch) (g : GT) (a_hk : Nat → Nat) (a_bo : Nat → Nat) (a_hi : Nat → Nat) (a_now : Nat → Nat) (a_ri : Nat → Nat) (q_hk_reader : Nat) (q_hk_tried : Nat) (q_hk_search : Nat) (q_hk_within : Nat) (q_hk_colouring : Nat) (q_hk_chances : Nat) (hk : HKS) (bo : BoS) (hi : HiS) (now : MoS) (ri : RiS) (p1 : Int32) (r_ : Int32) (o_hk : HKS) (o_bo : BoS) (o_hi : HiS) (o_now : MoS) (hf : f_X11_lifts hk bo hi now ri p1 = some (r_, o_hk, o_bo, o_hi, o_now)) : CI l yX11_lifts cX11_lifts 2 (some .int) rm_X11_lifts g [.ref (a_hk 0), .int p1] (wHK g a_hk q_hk_reader (a_ri 0) (a_now 0) q_hk_tried (a_hi 0) (a_bo 0) q_hk_search q_hk_within q_hk_colouring q_hk_chances hk ++ (wBo g a_bo (a_ri 0) bo ++ (wHi g a_hi hi ++ (wMo g a_now now ++ (wRi g a_ri ri ++ []))))) (wHK g a_hk q_hk_reader (a_ri 0) (a_now 0) q_hk_tried (a_hi 0) (a_bo 0) q_hk_search q_hk_within q_hk_colouring q_hk_chances o_hk ++ (wBo g a_bo (a_ri 0) o_bo ++ (wHi g a_hi o_hi ++ (wMo g a_now o_now ++ (wRi g a_ri ri ++ []))))) r_ := by
  refine start2 (y := yX11_lifts) (cc := cX11_lifts) (n := 2) (av := [.ref (a_hk 0), .int p1]) (ws := (wHK g a_hk q_hk_reader (a_ri 0) (a_now 0) q_hk_tried (a_hi 0) (a_bo 0) q_hk_search q_hk_within q_hk_colouring q_hk_chances hk ++ (wBo g a_bo (a_ri 0) bo ++ (wHi g a_hi hi ++ (wMo g a_now now ++ (wRi g a_ri ri ++ [])))))) (Qc := fun sz => QI g (wHK g a_hk q_hk_reader (a_ri 0) (a_now 0) q_hk_tried (a_hi 0) (a_bo 0) q_hk_search q_hk_within q_hk_colouring q_hk_chances hk ++ (wBo g a_bo (a_ri 0) bo ++ (wHi g a_hi hi ++ (wMo g a_now now ++ (wRi g a_ri ri ++ []))))) (wHK g a_hk q_hk_reader (a_ri 0) (a_now 0) q_hk_tried (a_hi 0) (a_bo 0) q_hk_search q_hk_within q_hk_colouring q_hk_chances o_hk ++ (wBo g a_bo (a_ri 0) o_bo ++ (wHi g a_hi o_hi ++ (wMo g a_now o_now ++ (wRi g a_ri ri ++ []))))) r_ sz) (by decide) rfl ?_
  intro p e s m args below meth c ls Q A ha hQ hA X hl hI hin
  have X : Cx p s m args meth c cX11_lifts 2 RX11 (some .int) := X
  have hl : lv_has ls 2 [(0, .ref (a_hk 0)), (1, .int p1)] := hl
  obtain ⟨hx, hb, hml, hown, ht, hr, hlk⟩ := id X
  clear ha hin
  unfold f_X11_lifts at hf
  refine lv_aload_n hx hb dX11_lifts_0 rfl (lv_at hl 0 rfl) ?_
  refine lv_iload_n hx hb dX11_lifts_1 rfl (lv_at hl 1 rfl) ?_
  obtain ⟨r_1, hc_, hf⟩ := bd1_some hf
  refine call_Vi X hI (Cj.keep (Cj.skip (Cj.skip (Cj.skip (Cj.keep Cj.id))))) (c_X11_isCrossing l g a_hk a_ri q_hk_reader (a_now 0) q_hk_tried (a_hi 0) (a_bo 0) q_hk_search q_hk_within q_hk_colouring q_hk_chances hk ri p1 r_1 hc_) ⟨rfl, rfl⟩ ⟨ht _ w_1061, w_1064, ht _ w_139, lk_X11_isCrossing⟩ w_1063 w_42 rfl rfl rfl hl rfl rfl dX11_lifts_2 rfl rfl rfl rfl (fun H locs hI => ?_)
  refine lv_if_ne (tgt := 14) hx hb dX11_lifts_5 (by decide) (fun h_ => ?_) (fun h_ => ?_)
  · replace hf := if_f h_ hf
    refine lv_aload_n hx hb dX11_lifts_14 rfl (lv_at hl 0 rfl) ?_
    refine g_HK_board X hI has_HK.l (X.fl w_681) dX11_lifts_15 ?_
    refine lv_iload_n hx hb dX11_lifts_18 rfl (lv_at hl 1 rfl) ?_
    obtain ⟨r_2, hc_, hf⟩ := bd1_some hf
    refine call_Vi X hI (Cj.skip (Cj.keep Cj.nil)) (c_X0_isLeft l g a_bo (a_ri 0) bo p1 r_2 hc_) ⟨rfl, rfl⟩ ⟨ht _ w_1289, w_1072, ht _ w_150, lk_X0_isLeft⟩ w_1070 w_1071 rfl rfl rfl hl rfl rfl dX11_lifts_19 rfl rfl rfl rfl (fun H locs hI => ?_)
    refine lv_if_ne (tgt := 31) hx hb dX11_lifts_22 (by decide) (fun h_ => ?_) (fun h_ => ?_)
    · replace hf := if_f h_ hf
      refine lv_aload_n hx hb dX11_lifts_31 rfl (lv_at hl 0 rfl) ?_
      refine g_HK_history X hI has_HK.l (X.fl w_680) dX11_lifts_32 ?_
      refine lv_aload_n hx hb dX11_lifts_35 rfl (lv_at hl 0 rfl) ?_
      refine g_HK_now X hI has_HK.l (X.fl w_678) dX11_lifts_36 ?_
      obtain ⟨hi_3, hc_, hf⟩ := bd1_some hf
      refine call_Vv X hI (Cj.skip (Cj.skip (Cj.keep (Cj.keep Cj.nil)))) (c_X3_keep l g a_hi a_now hi now hi_3 hc_) ⟨rfl, rfl⟩ ⟨ht _ w_1427, w_1430, ht _ w_149, lk_X3_keep⟩ w_1428 w_1429 rfl rfl rfl hl rfl rfl dX11_lifts_39 rfl rfl rfl rfl (fun H locs hI => ?_)
      refine lv_aload_n hx hb dX11_lifts_42 rfl (lv_at hl 0 rfl) ?_
      refine g_HK_now X hI has_HK.l (X.fl w_678) dX11_lifts_43 ?_
      refine lv_iload_n hx hb dX11_lifts_46 rfl (lv_at hl 1 rfl) ?_
      obtain ⟨now_4, hc_, hf⟩ := bd1_some hf
      refine call_Vv X hI (Cj.skip (Cj.skip (Cj.skip (Cj.keep Cj.nil)))) (c_X4_turnOver l g a_now now p1 now_4 hc_) ⟨rfl, rfl⟩ ⟨ht _ w_1290, w_1293, ht _ w_148, lk_X4_turnOver⟩ w_1291 w_1292 rfl rfl rfl hl rfl rfl dX11_lifts_47 rfl rfl rfl rfl (fun H locs hI => ?_)
      refine lv_aload_n hx hb dX11_lifts_50 rfl (lv_at hl 0 rfl) ?_
      refine g_HK_board X hI has_HK.l (X.fl w_681) dX11_lifts_51 ?_
      refine lv_aload_n hx hb dX11_lifts_54 rfl (lv_at hl 0 rfl) ?_
      refine g_HK_now X hI has_HK.l (X.fl w_678) dX11_lifts_55 ?_
      obtain ⟨bo_5, hc_, hf⟩ := bd1_some hf
      refine call_Vv X hI (Cj.skip (Cj.keep (Cj.skip (Cj.keep (Cj.keep Cj.id))))) (c_X0_lay l g a_bo a_now a_ri bo now_4 ri bo_5 hc_) ⟨rfl, rfl⟩ ⟨ht _ w_936, w_939, ht _ w_150, lk_X0_lay⟩ w_937 w_938 rfl rfl rfl hl rfl rfl dX11_lifts_58 rfl rfl rfl rfl (fun H locs hI => ?_)
      refine lv_aload_n hx hb dX11_lifts_61 rfl (lv_at hl 0 rfl) ?_
      refine lv_aload_n hx hb dX11_lifts_62 rfl (lv_at hl 0 rfl) ?_
      refine g_HK_board X hI has_HK.l (X.fl w_681) dX11_lifts_63 ?_
      refine lv_iload_n hx hb dX11_lifts_66 rfl (lv_at hl 1 rfl) ?_
      obtain ⟨r_6, hc_, hf⟩ := bd1_some hf
      refine call_Vi X hI (Cj.skip (Cj.keep Cj.nil)) (c_X0_signOf l g a_bo (a_ri 0) bo_5 p1 r_6 hc_) ⟨rfl, rfl⟩ ⟨ht _ w_1065, w_1068, ht _ w_150, lk_X0_signOf⟩ w_1066 w_1067 rfl rfl rfl hl rfl rfl dX11_lifts_67 rfl rfl rfl rfl (fun H locs hI => ?_)
      obtain ⟨r_7, hk_8, hc_, hf⟩ := bd2_some hf
      refine call_Vi X hI (Cj.keep Cj.nil) (c_X11_grant l g a_hk q_hk_reader (a_ri 0) (a_now 0) q_hk_tried (a_hi 0) (a_bo 0) q_hk_search q_hk_within q_hk_colouring q_hk_chances hk r_6 r_7 hk_8 hc_) ⟨rfl, rfl⟩ ⟨ht _ w_995, w_998, ht _ w_139, lk_X11_grant⟩ w_997 w_37 rfl rfl rfl hl rfl rfl dX11_lifts_70 rfl rfl rfl rfl (fun H locs hI => ?_)
      cases hf
      exact end_i hQ hA X hI dX11_lifts_73
    · replace hf := if_t h_ hf
      refine lv_aload_n hx hb dX11_lifts_25 rfl (lv_at hl 0 rfl) ?_
      refine lv_iconst (v := 5) hx hb dX11_lifts_26 (by decide) ?_
      obtain ⟨r_9, hk_10, hc_, hf⟩ := bd2_some hf
      refine call_Vi X hI (Cj.keep Cj.nil) (c_X11_refuseSigned l g a_hk q_hk_reader (a_ri 0) (a_now 0) q_hk_tried (a_hi 0) (a_bo 0) q_hk_search q_hk_within q_hk_colouring q_hk_chances hk (5 : Int32) r_9 hk_10 hc_) ⟨rfl, rfl⟩ ⟨ht _ w_1073, w_1076, ht _ w_139, lk_X11_refuseSigned⟩ w_1075 w_43 rfl rfl rfl hl rfl rfl dX11_lifts_27 rfl rfl rfl rfl (fun H locs hI => ?_)
      cases hf
      exact end_i hQ hA X hI dX11_lifts_30
  · replace hf := if_t h_ hf
    refine lv_aload_n hx hb dX11_lifts_8 rfl (lv_at hl 0 rfl) ?_
    refine lv_iconst (v := 1) hx hb dX11_lifts_9 (by decide) ?_
    obtain ⟨r_11, hk_12, hc_, hf⟩ := bd2_some hf
    refine call_Vi X hI (Cj.keep Cj.nil) (c_X11_refuseSigned l g a_hk q_hk_reader (a_ri 0) (a_now 0) q_hk_tried (a_hi 0) (a_bo 0) q_hk_search q_hk_within q_hk_colouring q_hk_chances hk (1 : Int32) r_11 hk_12 hc_) ⟨rfl, rfl⟩ ⟨ht _ w_1073, w_1076, ht _ w_139, lk_X11_refuseSigned⟩ w_1075 w_43 rfl rfl rfl hl rfl rfl dX11_lifts_10 rfl rfl rfl rfl (fun H locs hI => ?_)
    cases hf
    exact end_i hQ hA X hI dX11_lifts_13
abbrev rm_X11_lot : Room := { frames := 6, cells := 0, slots := 0, locals := 138 }
set_option maxRecDepth 20000 in
theorem c_X11_lot (l : Launch) (g : GT) (a_hk : Nat → Nat) (a_bo : Nat → Nat) (a_hi : Nat → Nat) (a_now : Nat → Nat) (a_ri : Nat → Nat) (q_hk_reader : Nat) (q_hk_tried : Nat) (q_hk_search : Nat) (q_hk_within : Nat) (q_hk_colouring : Nat) (q_hk_chances : Nat) (hk : HKS) (bo : BoS) (hi : HiS) (now : MoS) (ri : RiS) (r_ : Int32) (o_hk : HKS) (o_bo : BoS) (o_hi : HiS) (o_now : MoS) (hf : f_X11_lot hk bo hi now ri = some (r_, o_hk, o_bo, o_hi, o_now)) : CI l yX11_lot cX11_lot 2 (some .int) rm_X11_lot g [.ref (a_hk 0)] (wHK g a_hk q_hk_reader (a_ri 0) (a_now 0) q_hk_tried (a_hi 0) (a_bo 0) q_hk_search q_hk_within q_hk_colouring q_hk_chances hk ++ (wBo g a_bo (a_ri 0) bo ++ (wHi g a_hi hi ++ (wMo g a_now now ++ (wRi g a_ri ri ++ []))))) (wHK g a_hk q_hk_reader (a_ri 0) (a_now 0) q_hk_tried (a_hi 0) (a_bo 0) q_hk_search q_hk_within q_hk_colouring q_hk_chances o_hk ++ (wBo g a_bo (a_ri 0) o_bo ++ (wHi g a_hi o_hi ++ (wMo g a_now o_now ++ (wRi g a_ri ri ++ []))))) r_ := by
  refine start2 (y := yX11_lot) (cc := cX11_lot) (n := 2) (av := [.ref (a_hk 0)]) (ws := (wHK g a_hk q_hk_reader (a_ri 0) (a_now 0) q_hk_tried (a_hi 0) (a_bo 0) q_hk_search q_hk_within q_hk_colouring q_hk_chances hk ++ (wBo g a_bo (a_ri 0) bo ++ (wHi g a_hi hi ++ (wMo g a_now now ++ (wRi g a_ri ri ++ [])))))) (Qc := fun sz => QI g (wHK g a_hk q_hk_reader (a_ri 0) (a_now 0) q_hk_tried (a_hi 0) (a_bo 0) q_hk_search q_hk_within q_hk_colouring q_hk_chances hk ++ (wBo g a_bo (a_ri 0) bo ++ (wHi g a_hi hi ++ (wMo g a_now now ++ (wRi g a_ri ri ++ []))))) (wHK g a_hk q_hk_reader (a_ri 0) (a_now 0) q_hk_tried (a_hi 0) (a_bo 0) q_hk_search q_hk_within q_hk_colouring q_hk_chances o_hk ++ (wBo g a_bo (a_ri 0) o_bo ++ (wHi g a_hi o_hi ++ (wMo g a_now o_now ++ (wRi g a_ri ri ++ []))))) r_ sz) (by decide) rfl ?_
  intro p e s m args below meth c ls Q A ha hQ hA X hl hI hin
  have X : Cx p s m args meth c cX11_lot 2 RX11 (some .int) := X
  have hl : lv_has ls 2 [(0, .ref (a_hk 0))] := hl
  obtain ⟨hx, hb, hml, hown, ht, hr, hlk⟩ := id X
  clear ha hin
  unfold f_X11_lot at hf
  refine lv_aload_n hx hb dX11_lot_0 rfl (lv_at hl 0 rfl) ?_
  refine g_HK_there X hI has_HK.l (X.fl w_686) dX11_lot_1 ?_
  refine lv_if_ne (tgt := 13) hx hb dX11_lot_4 (by decide) (fun h_ => ?_) (fun h_ => ?_)
  · replace hf := if_f h_ hf
    refine lv_aload_n hx hb dX11_lot_13 rfl (lv_at hl 0 rfl) ?_
    refine g_HK_board X hI has_HK.l (X.fl w_681) dX11_lot_14 ?_
    refine g_Bo_count X hI has_Bo.l.r (hI.fn (List.mem_of_getElem? (i := 78) rfl)) dX11_lot_17 ?_
    refine lv_if_ne (tgt := 30) hx hb dX11_lot_20 (by decide) (fun h_ => ?_) (fun h_ => ?_)
    · replace hf := if_f h_ hf
      refine lv_aload_n hx hb dX11_lot_30 rfl (lv_at hl 0 rfl) ?_
      refine g_HK_history X hI has_HK.l (X.fl w_680) dX11_lot_31 ?_
      refine lv_aload_n hx hb dX11_lot_34 rfl (lv_at hl 0 rfl) ?_
      refine g_HK_now X hI has_HK.l (X.fl w_678) dX11_lot_35 ?_
      obtain ⟨hi_1, hc_, hf⟩ := bd1_some hf
      refine call_Vv X hI (Cj.skip (Cj.skip (Cj.keep (Cj.keep Cj.nil)))) (c_X3_keep l g a_hi a_now hi now hi_1 hc_) ⟨rfl, rfl⟩ ⟨ht _ w_1427, w_1430, ht _ w_149, lk_X3_keep⟩ w_1428 w_1429 rfl rfl rfl hl rfl rfl dX11_lot_38 rfl rfl rfl rfl (fun H locs hI => ?_)
      refine lv_aload_n hx hb dX11_lot_41 rfl (lv_at hl 0 rfl) ?_
      refine g_HK_now X hI has_HK.l (X.fl w_678) dX11_lot_42 ?_
      refine lv_aload_n hx hb dX11_lot_45 rfl (lv_at hl 0 rfl) ?_
      refine g_HK_now X hI has_HK.l (X.fl w_678) dX11_lot_46 ?_
      refine g_Mo_seed X hI has_Mo.l.r.r.r (hI.fn (List.mem_of_getElem? (i := 65) rfl)) dX11_lot_49 ?_
      obtain ⟨r_2, hc_, hf⟩ := bd1_some hf
      refine call_Si X hI Cj.nil (c_X4_seedBehind l g (Mo_seed now) r_2 hc_) ⟨rfl, rfl⟩ ⟨ht _ w_1450, w_1372, ht _ w_148, lk_X4_seedBehind⟩ w_1371 rfl hl rfl rfl dX11_lot_52 rfl rfl rfl rfl (fun H locs hI => ?_)
      refine p_Mo_seed X hI up_Mo_seed.l.r.r.r (hI.fn (List.mem_of_getElem? (i := 65) rfl)) dX11_lot_55 (fun H locs hI => ?_)
      generalize hz_ : (Mo_seed' now r_2) = now_3 at hI hf
      clear hz_
      replace hf := lt_e hf
      refine lv_aload_n hx hb dX11_lot_58 rfl (lv_at hl 0 rfl) ?_
      refine g_HK_board X hI has_HK.l (X.fl w_681) dX11_lot_59 ?_
      refine lv_aload_n hx hb dX11_lot_62 rfl (lv_at hl 0 rfl) ?_
      refine g_HK_now X hI has_HK.l (X.fl w_678) dX11_lot_63 ?_
      refine g_Mo_seed X hI has_Mo.l.r.r.r (hI.fn (List.mem_of_getElem? (i := 65) rfl)) dX11_lot_66 ?_
      obtain ⟨r_4, hc_, hf⟩ := bd1_some hf
      refine call_Vi X hI (Cj.skip (Cj.keep Cj.nil)) (c_X0_drawn l g a_bo (a_ri 0) bo (Mo_seed now_3) r_4 hc_) ⟨rfl, rfl⟩ ⟨ht _ w_1451, w_1377, ht _ w_150, lk_X0_drawn⟩ w_1375 w_1376 rfl rfl rfl hl rfl rfl dX11_lot_69 rfl rfl rfl rfl (fun H locs hI => ?_)
      refine lv_istore_n (lv' := [(1, .int r_4), (0, .ref (a_hk 0))]) hx hb dX11_lot_72 rfl hl (by decide) rfl (fun ls hl => ?_)
      refine lv_aload_n hx hb dX11_lot_73 rfl (lv_at hl 1 rfl) ?_
      refine lv_iload_n hx hb dX11_lot_74 rfl (lv_at hl 0 rfl) ?_
      obtain ⟨bo_5, now_6, hc_, hf⟩ := bd2_some hf
      refine call_Vv X hI (Cj.keep (Cj.keep (Cj.skip (Cj.keep (Cj.keep Cj.id))))) (c_X11_makeMove l g a_hk a_bo a_now a_ri q_hk_reader q_hk_tried (a_hi 0) q_hk_search q_hk_within q_hk_colouring q_hk_chances hk bo now_3 ri r_4 bo_5 now_6 hc_) ⟨rfl, rfl⟩ ⟨ht _ w_1433, w_1436, ht _ w_139, lk_X11_makeMove⟩ w_1435 w_60 rfl rfl rfl hl rfl rfl dX11_lot_75 rfl rfl rfl rfl (fun H locs hI => ?_)
      refine lv_aload_n hx hb dX11_lot_78 rfl (lv_at hl 1 rfl) ?_
      refine lv_iload_n hx hb dX11_lot_79 rfl (lv_at hl 0 rfl) ?_
      obtain ⟨r_7, hk_8, hc_, hf⟩ := bd2_some hf
      refine call_Vi X hI (Cj.keep Cj.nil) (c_X11_grant l g a_hk q_hk_reader (a_ri 0) (a_now 0) q_hk_tried (a_hi 0) (a_bo 0) q_hk_search q_hk_within q_hk_colouring q_hk_chances hk r_4 r_7 hk_8 hc_) ⟨rfl, rfl⟩ ⟨ht _ w_995, w_998, ht _ w_139, lk_X11_grant⟩ w_997 w_37 rfl rfl rfl hl rfl rfl dX11_lot_80 rfl rfl rfl rfl (fun H locs hI => ?_)
      cases hf
      exact end_i hQ hA X hI dX11_lot_83
    · replace hf := if_t h_ hf
      refine lv_aload_n hx hb dX11_lot_23 rfl (lv_at hl 0 rfl) ?_
      refine lv_bipush (v := 6) hx hb dX11_lot_24 (by decide) ?_
      obtain ⟨r_9, hk_10, hc_, hf⟩ := bd2_some hf
      refine call_Vi X hI (Cj.keep Cj.nil) (c_X11_refuse l g a_hk q_hk_reader (a_ri 0) (a_now 0) q_hk_tried (a_hi 0) (a_bo 0) q_hk_search q_hk_within q_hk_colouring q_hk_chances hk (6 : Int32) r_9 hk_10 hc_) ⟨rfl, rfl⟩ ⟨ht _ w_729, w_732, ht _ w_139, lk_X11_refuse⟩ w_731 w_0 rfl rfl rfl hl rfl rfl dX11_lot_26 rfl rfl rfl rfl (fun H locs hI => ?_)
      cases hf
      exact end_i hQ hA X hI dX11_lot_29
  · replace hf := if_t h_ hf
    refine lv_aload_n hx hb dX11_lot_7 rfl (lv_at hl 0 rfl) ?_
    refine lv_iconst (v := 1) hx hb dX11_lot_8 (by decide) ?_
    obtain ⟨r_11, hk_12, hc_, hf⟩ := bd2_some hf
    refine call_Vi X hI (Cj.keep Cj.nil) (c_X11_refuse l g a_hk q_hk_reader (a_ri 0) (a_now 0) q_hk_tried (a_hi 0) (a_bo 0) q_hk_search q_hk_within q_hk_colouring q_hk_chances hk (1 : Int32) r_11 hk_12 hc_) ⟨rfl, rfl⟩ ⟨ht _ w_729, w_732, ht _ w_139, lk_X11_refuse⟩ w_731 w_0 rfl rfl rfl hl rfl rfl dX11_lot_9 rfl rfl rfl rfl (fun H locs hI => ?_)
    cases hf
    exact end_i hQ hA X hI dX11_lot_12
abbrev rm_X11_call : Room := { frames := 6, cells := 0, slots := 0, locals := 138 }
set_option maxRecDepth 20000 in
theorem c_X11_call (l : Launch) (g : GT) (a_hk : Nat → Nat) (a_wi : Nat → Nat) (a_bo : Nat → Nat) (a_wb : Nat → Nat) (a_hi : Nat → Nat) (a_now : Nat → Nat) (a_ri : Nat → Nat) (q_hk_reader : Nat) (q_hk_tried : Nat) (q_hk_search : Nat) (q_hk_colouring : Nat) (q_hk_chances : Nat) (hk : HKS) (bo : BoS) (wb : BoS) (hi : HiS) (now : MoS) (ri : RiS) (r_ : Int32) (o_hk : HKS) (o_bo : BoS) (o_wb : BoS) (o_hi : HiS) (o_now : MoS) (hf : f_X11_call hk bo wb hi now ri = some (r_, o_hk, o_bo, o_wb, o_hi, o_now)) : CI l yX11_call cX11_call 2 (some .int) rm_X11_call g [.ref (a_hk 0)] (wHK g a_hk q_hk_reader (a_ri 0) (a_now 0) q_hk_tried (a_hi 0) (a_bo 0) q_hk_search (a_wi 0) q_hk_colouring q_hk_chances hk ++ (wWi g a_wi (a_ri 0) (a_wb 0) ++ (wBo g a_bo (a_ri 0) bo ++ (wBo g a_wb (a_ri 0) wb ++ (wHi g a_hi hi ++ (wMo g a_now now ++ (wRi g a_ri ri ++ []))))))) (wHK g a_hk q_hk_reader (a_ri 0) (a_now 0) q_hk_tried (a_hi 0) (a_bo 0) q_hk_search (a_wi 0) q_hk_colouring q_hk_chances o_hk ++ (wWi g a_wi (a_ri 0) (a_wb 0) ++ (wBo g a_bo (a_ri 0) o_bo ++ (wBo g a_wb (a_ri 0) o_wb ++ (wHi g a_hi o_hi ++ (wMo g a_now o_now ++ (wRi g a_ri ri ++ []))))))) r_ := by
  refine start2 (y := yX11_call) (cc := cX11_call) (n := 2) (av := [.ref (a_hk 0)]) (ws := (wHK g a_hk q_hk_reader (a_ri 0) (a_now 0) q_hk_tried (a_hi 0) (a_bo 0) q_hk_search (a_wi 0) q_hk_colouring q_hk_chances hk ++ (wWi g a_wi (a_ri 0) (a_wb 0) ++ (wBo g a_bo (a_ri 0) bo ++ (wBo g a_wb (a_ri 0) wb ++ (wHi g a_hi hi ++ (wMo g a_now now ++ (wRi g a_ri ri ++ [])))))))) (Qc := fun sz => QI g (wHK g a_hk q_hk_reader (a_ri 0) (a_now 0) q_hk_tried (a_hi 0) (a_bo 0) q_hk_search (a_wi 0) q_hk_colouring q_hk_chances hk ++ (wWi g a_wi (a_ri 0) (a_wb 0) ++ (wBo g a_bo (a_ri 0) bo ++ (wBo g a_wb (a_ri 0) wb ++ (wHi g a_hi hi ++ (wMo g a_now now ++ (wRi g a_ri ri ++ []))))))) (wHK g a_hk q_hk_reader (a_ri 0) (a_now 0) q_hk_tried (a_hi 0) (a_bo 0) q_hk_search (a_wi 0) q_hk_colouring q_hk_chances o_hk ++ (wWi g a_wi (a_ri 0) (a_wb 0) ++ (wBo g a_bo (a_ri 0) o_bo ++ (wBo g a_wb (a_ri 0) o_wb ++ (wHi g a_hi o_hi ++ (wMo g a_now o_now ++ (wRi g a_ri ri ++ []))))))) r_ sz) (by decide) rfl ?_
  intro p e s m args below meth c ls Q A ha hQ hA X hl hI hin
  have X : Cx p s m args meth c cX11_call 2 RX11 (some .int) := X
  have hl : lv_has ls 2 [(0, .ref (a_hk 0))] := hl
  obtain ⟨hx, hb, hml, hown, ht, hr, hlk⟩ := id X
  clear ha hin
  unfold f_X11_call at hf
  refine lv_aload_n hx hb dX11_call_0 rfl (lv_at hl 0 rfl) ?_
  refine g_HK_there X hI has_HK.l (X.fl w_686) dX11_call_1 ?_
  refine lv_if_ne (tgt := 13) hx hb dX11_call_4 (by decide) (fun h_ => ?_) (fun h_ => ?_)
  · replace hf := if_f h_ hf
    refine lv_aload_n hx hb dX11_call_13 rfl (lv_at hl 0 rfl) ?_
    refine g_HK_within X hI has_HK.l (X.fl w_683) dX11_call_14 ?_
    refine lv_aload_n hx hb dX11_call_17 rfl (lv_at hl 0 rfl) ?_
    refine g_HK_board X hI has_HK.l (X.fl w_681) dX11_call_18 ?_
    refine lv_aload_n hx hb dX11_call_21 rfl (lv_at hl 0 rfl) ?_
    refine g_HK_now X hI has_HK.l (X.fl w_678) dX11_call_22 ?_
    obtain ⟨r_1, wb_2, hc_, hf⟩ := bd2_some hf
    refine call_Vi X hI (Cj.skip (Cj.keep (Cj.keep (Cj.keep (Cj.skip (Cj.keep (Cj.keep Cj.id))))))) (c_X10_bestCall l g a_wi a_bo a_wb a_now a_ri bo wb now ri r_1 wb_2 hc_) ⟨rfl, rfl⟩ ⟨ht _ w_1190, w_1193, ht _ w_152, lk_X10_bestCall⟩ w_1191 w_1192 rfl rfl rfl hl rfl rfl dX11_call_25 rfl rfl rfl rfl (fun H locs hI => ?_)
    refine lv_istore_n (lv' := [(1, .int r_1), (0, .ref (a_hk 0))]) hx hb dX11_call_28 rfl hl (by decide) rfl (fun ls hl => ?_)
    refine lv_iload_n hx hb dX11_call_29 rfl (lv_at hl 0 rfl) ?_
    refine lv_bipush (v := (-2)) hx hb dX11_call_30 (by decide) ?_
    refine lv_icmp_ne (tgt := 42) hx hb dX11_call_32 (by decide) (fun h_ => ?_) (fun h_ => ?_)
    · replace hf := if_f h_ hf
      refine lv_aload_n hx hb dX11_call_42 rfl (lv_at hl 1 rfl) ?_
      refine g_HK_history X hI has_HK.l (X.fl w_680) dX11_call_43 ?_
      refine lv_aload_n hx hb dX11_call_46 rfl (lv_at hl 1 rfl) ?_
      refine g_HK_now X hI has_HK.l (X.fl w_678) dX11_call_47 ?_
      obtain ⟨hi_3, hc_, hf⟩ := bd1_some hf
      refine call_Vv X hI (Cj.skip (Cj.skip (Cj.skip (Cj.skip (Cj.keep (Cj.keep Cj.nil)))))) (c_X3_keep l g a_hi a_now hi now hi_3 hc_) ⟨rfl, rfl⟩ ⟨ht _ w_1427, w_1430, ht _ w_149, lk_X3_keep⟩ w_1428 w_1429 rfl rfl rfl hl rfl rfl dX11_call_50 rfl rfl rfl rfl (fun H locs hI => ?_)
      refine lv_aload_n hx hb dX11_call_53 rfl (lv_at hl 1 rfl) ?_
      refine lv_iload_n hx hb dX11_call_54 rfl (lv_at hl 0 rfl) ?_
      obtain ⟨bo_4, now_5, hc_, hf⟩ := bd2_some hf
      refine call_Vv X hI (Cj.keep (Cj.skip (Cj.keep (Cj.skip (Cj.skip (Cj.keep (Cj.keep Cj.id))))))) (c_X11_makeMove l g a_hk a_bo a_now a_ri q_hk_reader q_hk_tried (a_hi 0) q_hk_search (a_wi 0) q_hk_colouring q_hk_chances hk bo now ri r_1 bo_4 now_5 hc_) ⟨rfl, rfl⟩ ⟨ht _ w_1433, w_1436, ht _ w_139, lk_X11_makeMove⟩ w_1435 w_60 rfl rfl rfl hl rfl rfl dX11_call_55 rfl rfl rfl rfl (fun H locs hI => ?_)
      refine lv_aload_n hx hb dX11_call_58 rfl (lv_at hl 1 rfl) ?_
      refine lv_iload_n hx hb dX11_call_59 rfl (lv_at hl 0 rfl) ?_
      obtain ⟨r_6, hk_7, hc_, hf⟩ := bd2_some hf
      refine call_Vi X hI (Cj.keep Cj.nil) (c_X11_grant l g a_hk q_hk_reader (a_ri 0) (a_now 0) q_hk_tried (a_hi 0) (a_bo 0) q_hk_search (a_wi 0) q_hk_colouring q_hk_chances hk r_1 r_6 hk_7 hc_) ⟨rfl, rfl⟩ ⟨ht _ w_995, w_998, ht _ w_139, lk_X11_grant⟩ w_997 w_37 rfl rfl rfl hl rfl rfl dX11_call_60 rfl rfl rfl rfl (fun H locs hI => ?_)
      cases hf
      exact end_i hQ hA X hI dX11_call_63
    · replace hf := if_t h_ hf
      refine lv_aload_n hx hb dX11_call_35 rfl (lv_at hl 1 rfl) ?_
      refine lv_bipush (v := 6) hx hb dX11_call_36 (by decide) ?_
      obtain ⟨r_8, hk_9, hc_, hf⟩ := bd2_some hf
      refine call_Vi X hI (Cj.keep Cj.nil) (c_X11_refuse l g a_hk q_hk_reader (a_ri 0) (a_now 0) q_hk_tried (a_hi 0) (a_bo 0) q_hk_search (a_wi 0) q_hk_colouring q_hk_chances hk (6 : Int32) r_8 hk_9 hc_) ⟨rfl, rfl⟩ ⟨ht _ w_729, w_732, ht _ w_139, lk_X11_refuse⟩ w_731 w_0 rfl rfl rfl hl rfl rfl dX11_call_38 rfl rfl rfl rfl (fun H locs hI => ?_)
      cases hf
      exact end_i hQ hA X hI dX11_call_41
  · replace hf := if_t h_ hf
    refine lv_aload_n hx hb dX11_call_7 rfl (lv_at hl 0 rfl) ?_
    refine lv_iconst (v := 1) hx hb dX11_call_8 (by decide) ?_
    obtain ⟨r_10, hk_11, hc_, hf⟩ := bd2_some hf
    refine call_Vi X hI (Cj.keep Cj.nil) (c_X11_refuse l g a_hk q_hk_reader (a_ri 0) (a_now 0) q_hk_tried (a_hi 0) (a_bo 0) q_hk_search (a_wi 0) q_hk_colouring q_hk_chances hk (1 : Int32) r_10 hk_11 hc_) ⟨rfl, rfl⟩ ⟨ht _ w_729, w_732, ht _ w_139, lk_X11_refuse⟩ w_731 w_0 rfl rfl rfl hl rfl rfl dX11_call_9 rfl rfl rfl rfl (fun H locs hI => ?_)
    cases hf
    exact end_i hQ hA X hI dX11_call_12
abbrev rm_X11_seed : Room := { frames := 1, cells := 0, slots := 0, locals := 21 }
set_option maxRecDepth 20000 in
theorem c_X11_seed (l : Launch) (g : GT) (a_hk : Nat → Nat) (a_now : Nat → Nat) (q_hk_reader : Nat) (q_hk_rings : Nat) (q_hk_tried : Nat) (q_hk_history : Nat) (q_hk_board : Nat) (q_hk_search : Nat) (q_hk_within : Nat) (q_hk_colouring : Nat) (q_hk_chances : Nat) (hk : HKS) (now : MoS) (p1 : Int32) (r_ : Int32) (o_hk : HKS) (o_now : MoS) (hf : f_X11_seed hk now p1 = some (r_, o_hk, o_now)) : CI l yX11_seed cX11_seed 2 (some .boolean) rm_X11_seed g [.ref (a_hk 0), .int p1] (wHK g a_hk q_hk_reader q_hk_rings (a_now 0) q_hk_tried q_hk_history q_hk_board q_hk_search q_hk_within q_hk_colouring q_hk_chances hk ++ (wMo g a_now now ++ [])) (wHK g a_hk q_hk_reader q_hk_rings (a_now 0) q_hk_tried q_hk_history q_hk_board q_hk_search q_hk_within q_hk_colouring q_hk_chances o_hk ++ (wMo g a_now o_now ++ [])) r_ := by
  refine start2 (y := yX11_seed) (cc := cX11_seed) (n := 2) (av := [.ref (a_hk 0), .int p1]) (ws := (wHK g a_hk q_hk_reader q_hk_rings (a_now 0) q_hk_tried q_hk_history q_hk_board q_hk_search q_hk_within q_hk_colouring q_hk_chances hk ++ (wMo g a_now now ++ []))) (Qc := fun sz => QI g (wHK g a_hk q_hk_reader q_hk_rings (a_now 0) q_hk_tried q_hk_history q_hk_board q_hk_search q_hk_within q_hk_colouring q_hk_chances hk ++ (wMo g a_now now ++ [])) (wHK g a_hk q_hk_reader q_hk_rings (a_now 0) q_hk_tried q_hk_history q_hk_board q_hk_search q_hk_within q_hk_colouring q_hk_chances o_hk ++ (wMo g a_now o_now ++ [])) r_ sz) (by decide) rfl ?_
  intro p e s m args below meth c ls Q A ha hQ hA X hl hI hin
  have X : Cx p s m args meth c cX11_seed 2 RX11 (some .boolean) := X
  have hl : lv_has ls 2 [(0, .ref (a_hk 0)), (1, .int p1)] := hl
  obtain ⟨hx, hb, hml, hown, ht, hr, hlk⟩ := id X
  clear ha hin
  unfold f_X11_seed at hf
  refine lv_aload_n hx hb dX11_seed_0 rfl (lv_at hl 0 rfl) ?_
  refine g_HK_there X hI has_HK.l (X.fl w_686) dX11_seed_1 ?_
  refine lv_if_ne (tgt := 13) hx hb dX11_seed_4 (by decide) (fun h_ => ?_) (fun h_ => ?_)
  · replace hf := if_f h_ hf
    refine lv_iload_n hx hb dX11_seed_13 rfl (lv_at hl 1 rfl) ?_
    obtain ⟨r_1, hc_, hf⟩ := bd1_some hf
    refine call_Si X hI Cj.nil (c_X11_isSeed l g p1 r_1 hc_) ⟨rfl, rfl⟩ ⟨ht _ w_1362, w_1364, ht _ w_139, lk_X11_isSeed⟩ w_1363 rfl hl rfl rfl dX11_seed_14 rfl rfl rfl rfl (fun H locs hI => ?_)
    refine lv_if_ne (tgt := 26) hx hb dX11_seed_17 (by decide) (fun h_ => ?_) (fun h_ => ?_)
    · replace hf := if_f h_ hf
      refine lv_aload_n hx hb dX11_seed_26 rfl (lv_at hl 0 rfl) ?_
      refine g_HK_now X hI has_HK.l (X.fl w_678) dX11_seed_27 ?_
      refine lv_iload_n hx hb dX11_seed_30 rfl (lv_at hl 1 rfl) ?_
      refine p_Mo_seed X hI up_Mo_seed.l.r (hI.fn (List.mem_of_getElem? (i := 65) rfl)) dX11_seed_31 (fun H locs hI => ?_)
      generalize hz_ : (Mo_seed' now p1) = now_2 at hI hf
      clear hz_
      replace hf := lt_e hf
      refine lv_aload_n hx hb dX11_seed_34 rfl (lv_at hl 0 rfl) ?_
      refine lv_iconst (v := 0) hx hb dX11_seed_35 (by decide) ?_
      refine p_HK_trouble X hI up_HK_trouble.l (X.fl w_687) dX11_seed_36 (fun H locs hI => ?_)
      generalize hz_ : (HK_trouble' hk (0 : Int32)) = hk_3 at hI hf
      clear hz_
      replace hf := lt_e hf
      refine lv_iconst (v := 1) hx hb dX11_seed_39 (by decide) ?_
      cases hf
      exact end_z hQ hA X hI rfl dX11_seed_40
    · replace hf := if_t h_ hf
      refine lv_aload_n hx hb dX11_seed_20 rfl (lv_at hl 0 rfl) ?_
      refine lv_iconst (v := 2) hx hb dX11_seed_21 (by decide) ?_
      obtain ⟨r_4, hk_5, hc_, hf⟩ := bd2_some hf
      refine call_Vi X hI (Cj.keep Cj.nil) (c_X11_refuseFlatly l g a_hk q_hk_reader q_hk_rings (a_now 0) q_hk_tried q_hk_history q_hk_board q_hk_search q_hk_within q_hk_colouring q_hk_chances hk (2 : Int32) r_4 hk_5 hc_) ⟨rfl, rfl⟩ ⟨ht _ w_1460, w_1463, ht _ w_139, lk_X11_refuseFlatly⟩ w_1462 w_61 rfl rfl rfl hl rfl rfl dX11_seed_22 rfl rfl rfl rfl (fun H locs hI => ?_)
      obtain ⟨hzb_, hf⟩ := zb_some hf
      cases hf
      exact end_z hQ hA X hI (zb_n hzb_) dX11_seed_25
  · replace hf := if_t h_ hf
    refine lv_aload_n hx hb dX11_seed_7 rfl (lv_at hl 0 rfl) ?_
    refine lv_iconst (v := 1) hx hb dX11_seed_8 (by decide) ?_
    obtain ⟨r_6, hk_7, hc_, hf⟩ := bd2_some hf
    refine call_Vi X hI (Cj.keep Cj.nil) (c_X11_refuseFlatly l g a_hk q_hk_reader q_hk_rings (a_now 0) q_hk_tried q_hk_history q_hk_board q_hk_search q_hk_within q_hk_colouring q_hk_chances hk (1 : Int32) r_6 hk_7 hc_) ⟨rfl, rfl⟩ ⟨ht _ w_1460, w_1463, ht _ w_139, lk_X11_refuseFlatly⟩ w_1462 w_61 rfl rfl rfl hl rfl rfl dX11_seed_9 rfl rfl rfl rfl (fun H locs hI => ?_)
    obtain ⟨hzb_, hf⟩ := zb_some hf
    cases hf
    exact end_z hQ hA X hI (zb_n hzb_) dX11_seed_12
abbrev rm_X11_undo : Room := { frames := 5, cells := 0, slots := 0, locals := 117 }
set_option maxRecDepth 20000 in
theorem c_X11_undo (l : Launch) (g : GT) (a_hk : Nat → Nat) (a_bo : Nat → Nat) (a_hi : Nat → Nat) (a_now : Nat → Nat) (a_ri : Nat → Nat) (q_hk_reader : Nat) (q_hk_tried : Nat) (q_hk_search : Nat) (q_hk_within : Nat) (q_hk_colouring : Nat) (q_hk_chances : Nat) (hk : HKS) (bo : BoS) (hi : HiS) (now : MoS) (ri : RiS) (r_ : Int32) (o_hk : HKS) (o_bo : BoS) (o_hi : HiS) (o_now : MoS) (hf : f_X11_undo hk bo hi now ri = some (r_, o_hk, o_bo, o_hi, o_now)) : CI l yX11_undo cX11_undo 1 (some .boolean) rm_X11_undo g [.ref (a_hk 0)] (wHK g a_hk q_hk_reader (a_ri 0) (a_now 0) q_hk_tried (a_hi 0) (a_bo 0) q_hk_search q_hk_within q_hk_colouring q_hk_chances hk ++ (wBo g a_bo (a_ri 0) bo ++ (wHi g a_hi hi ++ (wMo g a_now now ++ (wRi g a_ri ri ++ []))))) (wHK g a_hk q_hk_reader (a_ri 0) (a_now 0) q_hk_tried (a_hi 0) (a_bo 0) q_hk_search q_hk_within q_hk_colouring q_hk_chances o_hk ++ (wBo g a_bo (a_ri 0) o_bo ++ (wHi g a_hi o_hi ++ (wMo g a_now o_now ++ (wRi g a_ri ri ++ []))))) r_ := by
  refine start2 (y := yX11_undo) (cc := cX11_undo) (n := 1) (av := [.ref (a_hk 0)]) (ws := (wHK g a_hk q_hk_reader (a_ri 0) (a_now 0) q_hk_tried (a_hi 0) (a_bo 0) q_hk_search q_hk_within q_hk_colouring q_hk_chances hk ++ (wBo g a_bo (a_ri 0) bo ++ (wHi g a_hi hi ++ (wMo g a_now now ++ (wRi g a_ri ri ++ [])))))) (Qc := fun sz => QI g (wHK g a_hk q_hk_reader (a_ri 0) (a_now 0) q_hk_tried (a_hi 0) (a_bo 0) q_hk_search q_hk_within q_hk_colouring q_hk_chances hk ++ (wBo g a_bo (a_ri 0) bo ++ (wHi g a_hi hi ++ (wMo g a_now now ++ (wRi g a_ri ri ++ []))))) (wHK g a_hk q_hk_reader (a_ri 0) (a_now 0) q_hk_tried (a_hi 0) (a_bo 0) q_hk_search q_hk_within q_hk_colouring q_hk_chances o_hk ++ (wBo g a_bo (a_ri 0) o_bo ++ (wHi g a_hi o_hi ++ (wMo g a_now o_now ++ (wRi g a_ri ri ++ []))))) r_ sz) (by decide) rfl ?_
  intro p e s m args below meth c ls Q A ha hQ hA X hl hI hin
  have X : Cx p s m args meth c cX11_undo 1 RX11 (some .boolean) := X
  have hl : lv_has ls 1 [(0, .ref (a_hk 0))] := hl
  obtain ⟨hx, hb, hml, hown, ht, hr, hlk⟩ := id X
  clear ha hin
  unfold f_X11_undo at hf
  refine lv_aload_n hx hb dX11_undo_0 rfl (lv_at hl 0 rfl) ?_
  refine g_HK_history X hI has_HK.l (X.fl w_680) dX11_undo_1 ?_
  refine lv_aload_n hx hb dX11_undo_4 rfl (lv_at hl 0 rfl) ?_
  refine g_HK_now X hI has_HK.l (X.fl w_678) dX11_undo_5 ?_
  obtain ⟨r_1, hi_2, now_3, hc_, hf⟩ := bd3_some hf
  refine call_Vi X hI (Cj.skip (Cj.skip (Cj.keep (Cj.keep Cj.nil)))) (c_X3_giveLatest l g a_hi a_now hi now r_1 hi_2 now_3 hc_) ⟨rfl, rfl⟩ ⟨ht _ w_1468, w_1471, ht _ w_149, lk_X3_giveLatest⟩ w_1469 w_1470 rfl rfl rfl hl rfl rfl dX11_undo_8 rfl rfl rfl rfl (fun H locs hI => ?_)
  refine lv_if_ne (tgt := 21) hx hb dX11_undo_11 (by decide) (fun h_ => ?_) (fun h_ => ?_)
  · replace hf := if_f h_ hf
    refine lv_aload_n hx hb dX11_undo_21 rfl (lv_at hl 0 rfl) ?_
    refine g_HK_board X hI has_HK.l (X.fl w_681) dX11_undo_22 ?_
    refine lv_aload_n hx hb dX11_undo_25 rfl (lv_at hl 0 rfl) ?_
    refine g_HK_now X hI has_HK.l (X.fl w_678) dX11_undo_26 ?_
    obtain ⟨bo_4, hc_, hf⟩ := bd1_some hf
    refine call_Vv X hI (Cj.skip (Cj.keep (Cj.skip (Cj.keep (Cj.keep Cj.id))))) (c_X0_lay l g a_bo a_now a_ri bo now_3 ri bo_4 hc_) ⟨rfl, rfl⟩ ⟨ht _ w_936, w_939, ht _ w_150, lk_X0_lay⟩ w_937 w_938 rfl rfl rfl hl rfl rfl dX11_undo_29 rfl rfl rfl rfl (fun H locs hI => ?_)
    refine lv_aload_n hx hb dX11_undo_32 rfl (lv_at hl 0 rfl) ?_
    refine lv_iconst (v := 0) hx hb dX11_undo_33 (by decide) ?_
    refine p_HK_trouble X hI up_HK_trouble.l (X.fl w_687) dX11_undo_34 (fun H locs hI => ?_)
    generalize hz_ : (HK_trouble' hk (0 : Int32)) = hk_5 at hI hf
    clear hz_
    replace hf := lt_e hf
    refine lv_iconst (v := 1) hx hb dX11_undo_37 (by decide) ?_
    cases hf
    exact end_z hQ hA X hI rfl dX11_undo_38
  · replace hf := if_t h_ hf
    refine lv_aload_n hx hb dX11_undo_14 rfl (lv_at hl 0 rfl) ?_
    refine lv_bipush (v := 6) hx hb dX11_undo_15 (by decide) ?_
    obtain ⟨r_6, hk_7, hc_, hf⟩ := bd2_some hf
    refine call_Vi X hI (Cj.keep Cj.nil) (c_X11_refuseFlatly l g a_hk q_hk_reader (a_ri 0) (a_now 0) q_hk_tried (a_hi 0) (a_bo 0) q_hk_search q_hk_within q_hk_colouring q_hk_chances hk (6 : Int32) r_6 hk_7 hc_) ⟨rfl, rfl⟩ ⟨ht _ w_1460, w_1463, ht _ w_139, lk_X11_refuseFlatly⟩ w_1462 w_61 rfl rfl rfl hl rfl rfl dX11_undo_17 rfl rfl rfl rfl (fun H locs hI => ?_)
    obtain ⟨hzb_, hf⟩ := zb_some hf
    cases hf
    exact end_z hQ hA X hI (zb_n hzb_) dX11_undo_20
abbrev rm_X11_mark : Room := { frames := 2, cells := 0, slots := 0, locals := 42 }
set_option maxRecDepth 20000 in
theorem c_X11_mark (l : Launch) (g : GT) (a_hk : Nat → Nat) (a_hi : Nat → Nat) (a_now : Nat → Nat) (q_hk_reader : Nat) (q_hk_rings : Nat) (q_hk_tried : Nat) (q_hk_board : Nat) (q_hk_search : Nat) (q_hk_within : Nat) (q_hk_colouring : Nat) (q_hk_chances : Nat) (hk : HKS) (hi : HiS) (now : MoS) (r_ : Int32) (o_hk : HKS) (o_hi : HiS) (hf : f_X11_mark hk hi now = some (r_, o_hk, o_hi)) : CI l yX11_mark cX11_mark 2 (some .int) rm_X11_mark g [.ref (a_hk 0)] (wHK g a_hk q_hk_reader q_hk_rings (a_now 0) q_hk_tried (a_hi 0) q_hk_board q_hk_search q_hk_within q_hk_colouring q_hk_chances hk ++ (wHi g a_hi hi ++ (wMo g a_now now ++ []))) (wHK g a_hk q_hk_reader q_hk_rings (a_now 0) q_hk_tried (a_hi 0) q_hk_board q_hk_search q_hk_within q_hk_colouring q_hk_chances o_hk ++ (wHi g a_hi o_hi ++ (wMo g a_now now ++ []))) r_ := by
  refine start2 (y := yX11_mark) (cc := cX11_mark) (n := 2) (av := [.ref (a_hk 0)]) (ws := (wHK g a_hk q_hk_reader q_hk_rings (a_now 0) q_hk_tried (a_hi 0) q_hk_board q_hk_search q_hk_within q_hk_colouring q_hk_chances hk ++ (wHi g a_hi hi ++ (wMo g a_now now ++ [])))) (Qc := fun sz => QI g (wHK g a_hk q_hk_reader q_hk_rings (a_now 0) q_hk_tried (a_hi 0) q_hk_board q_hk_search q_hk_within q_hk_colouring q_hk_chances hk ++ (wHi g a_hi hi ++ (wMo g a_now now ++ []))) (wHK g a_hk q_hk_reader q_hk_rings (a_now 0) q_hk_tried (a_hi 0) q_hk_board q_hk_search q_hk_within q_hk_colouring q_hk_chances o_hk ++ (wHi g a_hi o_hi ++ (wMo g a_now now ++ []))) r_ sz) (by decide) rfl ?_
  intro p e s m args below meth c ls Q A ha hQ hA X hl hI hin
  have X : Cx p s m args meth c cX11_mark 2 RX11 (some .int) := X
  have hl : lv_has ls 2 [(0, .ref (a_hk 0))] := hl
  obtain ⟨hx, hb, hml, hown, ht, hr, hlk⟩ := id X
  clear ha hin
  unfold f_X11_mark at hf
  refine lv_aload_n hx hb dX11_mark_0 rfl (lv_at hl 0 rfl) ?_
  refine g_HK_there X hI has_HK.l (X.fl w_686) dX11_mark_1 ?_
  refine lv_if_ne (tgt := 13) hx hb dX11_mark_4 (by decide) (fun h_ => ?_) (fun h_ => ?_)
  · replace hf := if_f h_ hf
    refine lv_aload_n hx hb dX11_mark_13 rfl (lv_at hl 0 rfl) ?_
    refine g_HK_history X hI has_HK.l (X.fl w_680) dX11_mark_14 ?_
    refine lv_aload_n hx hb dX11_mark_17 rfl (lv_at hl 0 rfl) ?_
    refine g_HK_now X hI has_HK.l (X.fl w_678) dX11_mark_18 ?_
    obtain ⟨r_1, hi_2, hc_, hf⟩ := bd2_some hf
    refine call_Vi X hI (Cj.skip (Cj.keep (Cj.keep Cj.id))) (c_X3_setMark l g a_hi a_now hi now r_1 hi_2 hc_) ⟨rfl, rfl⟩ ⟨ht _ w_1476, w_1479, ht _ w_149, lk_X3_setMark⟩ w_1477 w_1478 rfl rfl rfl hl rfl rfl dX11_mark_21 rfl rfl rfl rfl (fun H locs hI => ?_)
    refine lv_istore_n (lv' := [(1, .int r_1), (0, .ref (a_hk 0))]) hx hb dX11_mark_24 rfl hl (by decide) rfl (fun ls hl => ?_)
    refine lv_iload_n hx hb dX11_mark_25 rfl (lv_at hl 0 rfl) ?_
    refine lv_iconst (v := (-1)) hx hb dX11_mark_26 (by decide) ?_
    refine lv_icmp_ne (tgt := 38) hx hb dX11_mark_27 (by decide) (fun h_ => ?_) (fun h_ => ?_)
    · replace hf := if_f h_ hf
      refine lv_aload_n hx hb dX11_mark_38 rfl (lv_at hl 1 rfl) ?_
      refine lv_iload_n hx hb dX11_mark_39 rfl (lv_at hl 0 rfl) ?_
      obtain ⟨r_3, hk_4, hc_, hf⟩ := bd2_some hf
      refine call_Vi X hI (Cj.keep Cj.nil) (c_X11_grant l g a_hk q_hk_reader q_hk_rings (a_now 0) q_hk_tried (a_hi 0) q_hk_board q_hk_search q_hk_within q_hk_colouring q_hk_chances hk r_1 r_3 hk_4 hc_) ⟨rfl, rfl⟩ ⟨ht _ w_995, w_998, ht _ w_139, lk_X11_grant⟩ w_997 w_37 rfl rfl rfl hl rfl rfl dX11_mark_40 rfl rfl rfl rfl (fun H locs hI => ?_)
      cases hf
      exact end_i hQ hA X hI dX11_mark_43
    · replace hf := if_t h_ hf
      refine lv_aload_n hx hb dX11_mark_30 rfl (lv_at hl 1 rfl) ?_
      refine lv_iconst (v := 3) hx hb dX11_mark_31 (by decide) ?_
      obtain ⟨r_5, hk_6, hc_, hf⟩ := bd2_some hf
      refine call_Vi X hI (Cj.keep Cj.nil) (c_X11_refuse l g a_hk q_hk_reader q_hk_rings (a_now 0) q_hk_tried (a_hi 0) q_hk_board q_hk_search q_hk_within q_hk_colouring q_hk_chances hk (3 : Int32) r_5 hk_6 hc_) ⟨rfl, rfl⟩ ⟨ht _ w_729, w_732, ht _ w_139, lk_X11_refuse⟩ w_731 w_0 rfl rfl rfl hl rfl rfl dX11_mark_32 rfl rfl rfl rfl (fun H locs hI => ?_)
      refine lv_goto (tgt := 43) hx hb dX11_mark_35 (by decide) ?_
      cases hf
      exact end_i hQ hA X hI dX11_mark_43
  · replace hf := if_t h_ hf
    refine lv_aload_n hx hb dX11_mark_7 rfl (lv_at hl 0 rfl) ?_
    refine lv_iconst (v := 1) hx hb dX11_mark_8 (by decide) ?_
    obtain ⟨r_7, hk_8, hc_, hf⟩ := bd2_some hf
    refine call_Vi X hI (Cj.keep Cj.nil) (c_X11_refuse l g a_hk q_hk_reader q_hk_rings (a_now 0) q_hk_tried (a_hi 0) q_hk_board q_hk_search q_hk_within q_hk_colouring q_hk_chances hk (1 : Int32) r_7 hk_8 hc_) ⟨rfl, rfl⟩ ⟨ht _ w_729, w_732, ht _ w_139, lk_X11_refuse⟩ w_731 w_0 rfl rfl rfl hl rfl rfl dX11_mark_9 rfl rfl rfl rfl (fun H locs hI => ?_)
    cases hf
    exact end_i hQ hA X hI dX11_mark_12
abbrev rm_X11_back : Room := { frames := 5, cells := 0, slots := 0, locals := 117 }
set_option maxRecDepth 20000 in
theorem c_X11_back (l : Launch) (g : GT) (a_hk : Nat → Nat) (a_bo : Nat → Nat) (a_hi : Nat → Nat) (a_now : Nat → Nat) (a_ri : Nat → Nat) (q_hk_reader : Nat) (q_hk_tried : Nat) (q_hk_search : Nat) (q_hk_within : Nat) (q_hk_colouring : Nat) (q_hk_chances : Nat) (hk : HKS) (bo : BoS) (hi : HiS) (now : MoS) (ri : RiS) (p1 : Int32) (r_ : Int32) (o_hk : HKS) (o_bo : BoS) (o_hi : HiS) (o_now : MoS) (hf : f_X11_back hk bo hi now ri p1 = some (r_, o_hk, o_bo, o_hi, o_now)) : CI l yX11_back cX11_back 2 (some .boolean) rm_X11_back g [.ref (a_hk 0), .int p1] (wHK g a_hk q_hk_reader (a_ri 0) (a_now 0) q_hk_tried (a_hi 0) (a_bo 0) q_hk_search q_hk_within q_hk_colouring q_hk_chances hk ++ (wBo g a_bo (a_ri 0) bo ++ (wHi g a_hi hi ++ (wMo g a_now now ++ (wRi g a_ri ri ++ []))))) (wHK g a_hk q_hk_reader (a_ri 0) (a_now 0) q_hk_tried (a_hi 0) (a_bo 0) q_hk_search q_hk_within q_hk_colouring q_hk_chances o_hk ++ (wBo g a_bo (a_ri 0) o_bo ++ (wHi g a_hi o_hi ++ (wMo g a_now o_now ++ (wRi g a_ri ri ++ []))))) r_ := by
  refine start2 (y := yX11_back) (cc := cX11_back) (n := 2) (av := [.ref (a_hk 0), .int p1]) (ws := (wHK g a_hk q_hk_reader (a_ri 0) (a_now 0) q_hk_tried (a_hi 0) (a_bo 0) q_hk_search q_hk_within q_hk_colouring q_hk_chances hk ++ (wBo g a_bo (a_ri 0) bo ++ (wHi g a_hi hi ++ (wMo g a_now now ++ (wRi g a_ri ri ++ [])))))) (Qc := fun sz => QI g (wHK g a_hk q_hk_reader (a_ri 0) (a_now 0) q_hk_tried (a_hi 0) (a_bo 0) q_hk_search q_hk_within q_hk_colouring q_hk_chances hk ++ (wBo g a_bo (a_ri 0) bo ++ (wHi g a_hi hi ++ (wMo g a_now now ++ (wRi g a_ri ri ++ []))))) (wHK g a_hk q_hk_reader (a_ri 0) (a_now 0) q_hk_tried (a_hi 0) (a_bo 0) q_hk_search q_hk_within q_hk_colouring q_hk_chances o_hk ++ (wBo g a_bo (a_ri 0) o_bo ++ (wHi g a_hi o_hi ++ (wMo g a_now o_now ++ (wRi g a_ri ri ++ []))))) r_ sz) (by decide) rfl ?_
  intro p e s m args below meth c ls Q A ha hQ hA X hl hI hin
  have X : Cx p s m args meth c cX11_back 2 RX11 (some .boolean) := X
  have hl : lv_has ls 2 [(0, .ref (a_hk 0)), (1, .int p1)] := hl
  obtain ⟨hx, hb, hml, hown, ht, hr, hlk⟩ := id X
  clear ha hin
  unfold f_X11_back at hf
  refine lv_aload_n hx hb dX11_back_0 rfl (lv_at hl 0 rfl) ?_
  refine g_HK_history X hI has_HK.l (X.fl w_680) dX11_back_1 ?_
  refine lv_iload_n hx hb dX11_back_4 rfl (lv_at hl 1 rfl) ?_
  refine lv_aload_n hx hb dX11_back_5 rfl (lv_at hl 0 rfl) ?_
  refine g_HK_now X hI has_HK.l (X.fl w_678) dX11_back_6 ?_
  obtain ⟨r_1, hi_2, now_3, hc_, hf⟩ := bd3_some hf
  refine call_Vi X hI (Cj.skip (Cj.skip (Cj.keep (Cj.keep Cj.nil)))) (c_X3_giveMarked l g a_hi a_now hi now p1 r_1 hi_2 now_3 hc_) ⟨rfl, rfl⟩ ⟨ht _ w_1484, w_1487, ht _ w_149, lk_X3_giveMarked⟩ w_1485 w_1486 rfl rfl rfl hl rfl rfl dX11_back_9 rfl rfl rfl rfl (fun H locs hI => ?_)
  refine lv_if_ne (tgt := 21) hx hb dX11_back_12 (by decide) (fun h_ => ?_) (fun h_ => ?_)
  · replace hf := if_f h_ hf
    refine lv_aload_n hx hb dX11_back_21 rfl (lv_at hl 0 rfl) ?_
    refine g_HK_board X hI has_HK.l (X.fl w_681) dX11_back_22 ?_
    refine lv_aload_n hx hb dX11_back_25 rfl (lv_at hl 0 rfl) ?_
    refine g_HK_now X hI has_HK.l (X.fl w_678) dX11_back_26 ?_
    obtain ⟨bo_4, hc_, hf⟩ := bd1_some hf
    refine call_Vv X hI (Cj.skip (Cj.keep (Cj.skip (Cj.keep (Cj.keep Cj.id))))) (c_X0_lay l g a_bo a_now a_ri bo now_3 ri bo_4 hc_) ⟨rfl, rfl⟩ ⟨ht _ w_936, w_939, ht _ w_150, lk_X0_lay⟩ w_937 w_938 rfl rfl rfl hl rfl rfl dX11_back_29 rfl rfl rfl rfl (fun H locs hI => ?_)
    refine lv_aload_n hx hb dX11_back_32 rfl (lv_at hl 0 rfl) ?_
    refine lv_iconst (v := 0) hx hb dX11_back_33 (by decide) ?_
    refine p_HK_trouble X hI up_HK_trouble.l (X.fl w_687) dX11_back_34 (fun H locs hI => ?_)
    generalize hz_ : (HK_trouble' hk (0 : Int32)) = hk_5 at hI hf
    clear hz_
    replace hf := lt_e hf
    refine lv_iconst (v := 1) hx hb dX11_back_37 (by decide) ?_
    cases hf
    exact end_z hQ hA X hI rfl dX11_back_38
  · replace hf := if_t h_ hf
    refine lv_aload_n hx hb dX11_back_15 rfl (lv_at hl 0 rfl) ?_
    refine lv_iconst (v := 1) hx hb dX11_back_16 (by decide) ?_
    obtain ⟨r_6, hk_7, hc_, hf⟩ := bd2_some hf
    refine call_Vi X hI (Cj.keep Cj.nil) (c_X11_refuseFlatly l g a_hk q_hk_reader (a_ri 0) (a_now 0) q_hk_tried (a_hi 0) (a_bo 0) q_hk_search q_hk_within q_hk_colouring q_hk_chances hk (1 : Int32) r_6 hk_7 hc_) ⟨rfl, rfl⟩ ⟨ht _ w_1460, w_1463, ht _ w_139, lk_X11_refuseFlatly⟩ w_1462 w_61 rfl rfl rfl hl rfl rfl dX11_back_17 rfl rfl rfl rfl (fun H locs hI => ?_)
    obtain ⟨hzb_, hf⟩ := zb_some hf
    cases hf
    exact end_z hQ hA X hI (zb_n hzb_) dX11_back_20
abbrev rm_X11_changingSize : Room := { frames := 0, cells := 0, slots := 0, locals := 0 }
set_option maxRecDepth 20000 in
theorem c_X11_changingSize (l : Launch) (g : GT) (a_hk : Nat → Nat) (a_hi : Nat → Nat) (a_now : Nat → Nat) (q_hk_reader : Nat) (q_hk_rings : Nat) (q_hk_tried : Nat) (q_hk_board : Nat) (q_hk_search : Nat) (q_hk_within : Nat) (q_hk_colouring : Nat) (q_hk_chances : Nat) (hk : HKS) (hi : HiS) (now : MoS) (p1 : Int32) (r_ : Int32) (hf : f_X11_changingSize hi now p1 = some (r_)) : CI l yX11_changingSize cX11_changingSize 2 (some .int) rm_X11_changingSize g [.ref (a_hk 0), .int p1] (wHK g a_hk q_hk_reader q_hk_rings (a_now 0) q_hk_tried (a_hi 0) q_hk_board q_hk_search q_hk_within q_hk_colouring q_hk_chances hk ++ (wHi g a_hi hi ++ (wMo g a_now now ++ []))) (wHK g a_hk q_hk_reader q_hk_rings (a_now 0) q_hk_tried (a_hi 0) q_hk_board q_hk_search q_hk_within q_hk_colouring q_hk_chances hk ++ (wHi g a_hi hi ++ (wMo g a_now now ++ []))) r_ := by
  refine start2 (y := yX11_changingSize) (cc := cX11_changingSize) (n := 2) (av := [.ref (a_hk 0), .int p1]) (ws := (wHK g a_hk q_hk_reader q_hk_rings (a_now 0) q_hk_tried (a_hi 0) q_hk_board q_hk_search q_hk_within q_hk_colouring q_hk_chances hk ++ (wHi g a_hi hi ++ (wMo g a_now now ++ [])))) (Qc := fun sz => QI g (wHK g a_hk q_hk_reader q_hk_rings (a_now 0) q_hk_tried (a_hi 0) q_hk_board q_hk_search q_hk_within q_hk_colouring q_hk_chances hk ++ (wHi g a_hi hi ++ (wMo g a_now now ++ []))) (wHK g a_hk q_hk_reader q_hk_rings (a_now 0) q_hk_tried (a_hi 0) q_hk_board q_hk_search q_hk_within q_hk_colouring q_hk_chances hk ++ (wHi g a_hi hi ++ (wMo g a_now now ++ []))) r_ sz) (by decide) rfl ?_
  intro p e s m args below meth c ls Q A ha hQ hA X hl hI hin
  have X : Cx p s m args meth c cX11_changingSize 2 RX11 (some .int) := X
  have hl : lv_has ls 2 [(0, .ref (a_hk 0)), (1, .int p1)] := hl
  obtain ⟨hx, hb, hml, hown, ht, hr, hlk⟩ := id X
  clear ha hin
  unfold f_X11_changingSize at hf
  refine lv_iload_n hx hb dX11_changingSize_0 rfl (lv_at hl 1 rfl) ?_
  by_cases h7_ : p1 = (7 : Int32)
  · replace hf := if_t h7_ hf
    refine lv_tableIn (tgt := 28) (off := 27) hx hb dX11_changingSize_1 (by rw [h7_]; decide) (by rw [h7_]; decide) (by rw [h7_]; rfl) (by decide) ?_
    refine lv_aload_n hx hb dX11_changingSize_28 rfl (lv_at hl 0 rfl) ?_
    refine g_HK_now X hI has_HK.l (X.fl w_678) dX11_changingSize_29 ?_
    refine g_Mo_parted X hI has_Mo.l.r.r (hI.fn (List.mem_of_getElem? (i := 64) rfl)) dX11_changingSize_32 ?_
    cases hf
    exact end_i hQ hA X hI dX11_changingSize_35
  · replace hf := if_f h7_ hf
    by_cases h8_ : p1 = (8 : Int32)
    · replace hf := if_t h8_ hf
      refine lv_tableIn (tgt := 36) (off := 35) hx hb dX11_changingSize_1 (by rw [h8_]; decide) (by rw [h8_]; decide) (by rw [h8_]; rfl) (by decide) ?_
      refine lv_aload_n hx hb dX11_changingSize_36 rfl (lv_at hl 0 rfl) ?_
      refine g_HK_now X hI has_HK.l (X.fl w_678) dX11_changingSize_37 ?_
      refine g_Mo_seed X hI has_Mo.l.r.r (hI.fn (List.mem_of_getElem? (i := 65) rfl)) dX11_changingSize_40 ?_
      cases hf
      exact end_i hQ hA X hI dX11_changingSize_43
    · replace hf := if_f h8_ hf
      by_cases h9_ : p1 = (9 : Int32)
      · replace hf := if_t h9_ hf
        refine lv_tableIn (tgt := 44) (off := 43) hx hb dX11_changingSize_1 (by rw [h9_]; decide) (by rw [h9_]; decide) (by rw [h9_]; rfl) (by decide) ?_
        refine lv_aload_n hx hb dX11_changingSize_44 rfl (lv_at hl 0 rfl) ?_
        refine g_HK_history X hI has_HK.l (X.fl w_680) dX11_changingSize_45 ?_
        refine g_Hi_kept X hI has_Hi.l.r (hI.fn (List.mem_of_getElem? (i := 66) rfl)) dX11_changingSize_48 ?_
        cases hf
        exact end_i hQ hA X hI dX11_changingSize_51
      · replace hf := if_f h9_ hf
        refine lv_tableOut (tgt := 52) hx hb dX11_changingSize_1 (by have q7 := sw_ne h7_ (j := 7) (by decide); have q8 := sw_ne h8_ (j := 8) (by decide); have q9 := sw_ne h9_ (j := 9) (by decide); omega) (by decide) ?_
        refine lv_aload_n hx hb dX11_changingSize_52 rfl (lv_at hl 0 rfl) ?_
        refine g_HK_history X hI has_HK.l (X.fl w_680) dX11_changingSize_53 ?_
        refine g_Hi_marked X hI has_Hi.l.r (hI.fn (List.mem_of_getElem? (i := 67) rfl)) dX11_changingSize_56 ?_
        cases hf
        exact end_i hQ hA X hI dX11_changingSize_59
abbrev rm_X11_toldSize : Room := { frames := 0, cells := 0, slots := 0, locals := 0 }
set_option maxRecDepth 20000 in
theorem c_X11_toldSize (l : Launch) (g : GT) (a_hk : Nat → Nat) (a_ri : Nat → Nat) (q_hk_reader : Nat) (q_hk_now : Nat) (q_hk_tried : Nat) (q_hk_history : Nat) (q_hk_board : Nat) (q_hk_search : Nat) (q_hk_within : Nat) (q_hk_colouring : Nat) (q_hk_chances : Nat) (hk : HKS) (ri : RiS) (p1 : Int32) (r_ : Int32) (hf : f_X11_toldSize ri p1 = some (r_)) : CI l yX11_toldSize cX11_toldSize 2 (some .int) rm_X11_toldSize g [.ref (a_hk 0), .int p1] (wHK g a_hk q_hk_reader (a_ri 0) q_hk_now q_hk_tried q_hk_history q_hk_board q_hk_search q_hk_within q_hk_colouring q_hk_chances hk ++ (wRi g a_ri ri ++ [])) (wHK g a_hk q_hk_reader (a_ri 0) q_hk_now q_hk_tried q_hk_history q_hk_board q_hk_search q_hk_within q_hk_colouring q_hk_chances hk ++ (wRi g a_ri ri ++ [])) r_ := by
  refine start2 (y := yX11_toldSize) (cc := cX11_toldSize) (n := 2) (av := [.ref (a_hk 0), .int p1]) (ws := (wHK g a_hk q_hk_reader (a_ri 0) q_hk_now q_hk_tried q_hk_history q_hk_board q_hk_search q_hk_within q_hk_colouring q_hk_chances hk ++ (wRi g a_ri ri ++ []))) (Qc := fun sz => QI g (wHK g a_hk q_hk_reader (a_ri 0) q_hk_now q_hk_tried q_hk_history q_hk_board q_hk_search q_hk_within q_hk_colouring q_hk_chances hk ++ (wRi g a_ri ri ++ [])) (wHK g a_hk q_hk_reader (a_ri 0) q_hk_now q_hk_tried q_hk_history q_hk_board q_hk_search q_hk_within q_hk_colouring q_hk_chances hk ++ (wRi g a_ri ri ++ [])) r_ sz) (by decide) rfl ?_
  intro p e s m args below meth c ls Q A ha hQ hA X hl hI hin
  have X : Cx p s m args meth c cX11_toldSize 2 RX11 (some .int) := X
  have hl : lv_has ls 2 [(0, .ref (a_hk 0)), (1, .int p1)] := hl
  obtain ⟨hx, hb, hml, hown, ht, hr, hlk⟩ := id X
  clear ha hin
  unfold f_X11_toldSize at hf
  refine lv_iload_n hx hb dX11_toldSize_0 rfl (lv_at hl 1 rfl) ?_
  by_cases h0_ : p1 = (0 : Int32)
  · replace hf := if_t h0_ hf
    refine lv_tableIn (tgt := 40) (off := 39) hx hb dX11_toldSize_1 (by rw [h0_]; decide) (by rw [h0_]; decide) (by rw [h0_]; rfl) (by decide) ?_
    refine lv_aload_n hx hb dX11_toldSize_40 rfl (lv_at hl 0 rfl) ?_
    refine g_HK_rings X hI has_HK.l (X.fl w_677) dX11_toldSize_41 ?_
    refine g_Ri_people X hI has_Ri.l.r (hI.fn (List.mem_of_getElem? (i := 28) rfl)) dX11_toldSize_44 ?_
    cases hf
    exact end_i hQ hA X hI dX11_toldSize_47
  · replace hf := if_f h0_ hf
    by_cases h1_ : p1 = (1 : Int32)
    · replace hf := if_t h1_ hf
      refine lv_tableIn (tgt := 48) (off := 47) hx hb dX11_toldSize_1 (by rw [h1_]; decide) (by rw [h1_]; decide) (by rw [h1_]; rfl) (by decide) ?_
      refine lv_aload_n hx hb dX11_toldSize_48 rfl (lv_at hl 0 rfl) ?_
      refine g_HK_rings X hI has_HK.l (X.fl w_677) dX11_toldSize_49 ?_
      refine g_Ri_links X hI has_Ri.l.r (hI.fn (List.mem_of_getElem? (i := 29) rfl)) dX11_toldSize_52 ?_
      cases hf
      exact end_i hQ hA X hI dX11_toldSize_55
    · replace hf := if_f h1_ hf
      by_cases h2_ : p1 = (2 : Int32)
      · replace hf := if_t h2_ hf
        refine lv_tableIn (tgt := 56) (off := 55) hx hb dX11_toldSize_1 (by rw [h2_]; decide) (by rw [h2_]; decide) (by rw [h2_]; rfl) (by decide) ?_
        refine lv_aload_n hx hb dX11_toldSize_56 rfl (lv_at hl 0 rfl) ?_
        refine g_HK_rings X hI has_HK.l (X.fl w_677) dX11_toldSize_57 ?_
        refine g_Ri_count X hI has_Ri.l.r (hI.fn (List.mem_of_getElem? (i := 35) rfl)) dX11_toldSize_60 ?_
        cases hf
        exact end_i hQ hA X hI dX11_toldSize_63
      · replace hf := if_f h2_ hf
        by_cases h3_ : p1 = (3 : Int32)
        · replace hf := if_t h3_ hf
          refine lv_tableIn (tgt := 64) (off := 63) hx hb dX11_toldSize_1 (by rw [h3_]; decide) (by rw [h3_]; decide) (by rw [h3_]; rfl) (by decide) ?_
          refine lv_aload_n hx hb dX11_toldSize_64 rfl (lv_at hl 0 rfl) ?_
          refine g_HK_rings X hI has_HK.l (X.fl w_677) dX11_toldSize_65 ?_
          refine g_Ri_crossings X hI has_Ri.l.r (hI.fn (List.mem_of_getElem? (i := 32) rfl)) dX11_toldSize_68 ?_
          cases hf
          exact end_i hQ hA X hI dX11_toldSize_71
        · replace hf := if_f h3_ hf
          by_cases h4_ : p1 = (4 : Int32)
          · replace hf := if_t h4_ hf
            refine lv_tableIn (tgt := 72) (off := 71) hx hb dX11_toldSize_1 (by rw [h4_]; decide) (by rw [h4_]; decide) (by rw [h4_]; rfl) (by decide) ?_
            refine lv_aload_n hx hb dX11_toldSize_72 rfl (lv_at hl 0 rfl) ?_
            refine g_HK_rings X hI has_HK.l (X.fl w_677) dX11_toldSize_73 ?_
            refine g_Ri_standings X hI has_Ri.l.r (hI.fn (List.mem_of_getElem? (i := 34) rfl)) dX11_toldSize_76 ?_
            cases hf
            exact end_i hQ hA X hI dX11_toldSize_79
          · replace hf := if_f h4_ hf
            by_cases h5_ : p1 = (5 : Int32)
            · replace hf := if_t h5_ hf
              refine lv_tableIn (tgt := 80) (off := 79) hx hb dX11_toldSize_1 (by rw [h5_]; decide) (by rw [h5_]; decide) (by rw [h5_]; rfl) (by decide) ?_
              refine lv_aload_n hx hb dX11_toldSize_80 rfl (lv_at hl 0 rfl) ?_
              refine g_HK_rings X hI has_HK.l (X.fl w_677) dX11_toldSize_81 ?_
              refine g_Ri_tall X hI has_Ri.l.r (hI.fn (List.mem_of_getElem? (i := 37) rfl)) dX11_toldSize_84 ?_
              cases hf
              exact end_i hQ hA X hI dX11_toldSize_87
            · replace hf := if_f h5_ hf
              refine lv_tableOut (tgt := 88) hx hb dX11_toldSize_1 (by have q0 := sw_ne h0_ (j := 0) (by decide); have q1 := sw_ne h1_ (j := 1) (by decide); have q2 := sw_ne h2_ (j := 2) (by decide); have q3 := sw_ne h3_ (j := 3) (by decide); have q4 := sw_ne h4_ (j := 4) (by decide); have q5 := sw_ne h5_ (j := 5) (by decide); omega) (by decide) ?_
              refine lv_aload_n hx hb dX11_toldSize_88 rfl (lv_at hl 0 rfl) ?_
              refine g_HK_rings X hI has_HK.l (X.fl w_677) dX11_toldSize_89 ?_
              refine g_Ri_once X hI has_Ri.l.r (hI.fn (List.mem_of_getElem? (i := 38) rfl)) dX11_toldSize_92 ?_
              refine lv_if_eq (tgt := 102) hx hb dX11_toldSize_95 (by decide) (fun h_ => ?_) (fun h_ => ?_)
              · replace hf := if_t h_ hf
                refine lv_iconst (v := 0) hx hb dX11_toldSize_102 (by decide) ?_
                cases hf
                exact end_i hQ hA X hI dX11_toldSize_103
              · replace hf := if_f h_ hf
                refine lv_iconst (v := 1) hx hb dX11_toldSize_98 (by decide) ?_
                refine lv_goto (tgt := 103) hx hb dX11_toldSize_99 (by decide) ?_
                cases hf
                exact end_i hQ hA X hI dX11_toldSize_103
abbrev rm_X11_size : Room := { frames := 1, cells := 0, slots := 0, locals := 21 }
set_option maxRecDepth 20000 in
theorem c_X11_size (l : Launch) (g : GT) (a_hk : Nat → Nat) (a_re : Nat → Nat) (a_ta : Nat → Nat) (a_hi : Nat → Nat) (a_now : Nat → Nat) (a_ri : Nat → Nat) (q_hk_tried : Nat) (q_hk_board : Nat) (q_hk_search : Nat) (q_hk_within : Nat) (q_hk_colouring : Nat) (q_hk_chances : Nat) (q_re_told : Nat) (hk : HKS) (re : ReS) (ta : TaS) (hi : HiS) (now : MoS) (ri : RiS) (p1 : Int32) (r_ : Int32) (hf : f_X11_size hk ta hi now ri p1 = some (r_)) : CI l yX11_size cX11_size 2 (some .int) rm_X11_size g [.ref (a_hk 0), .int p1] (wHK g a_hk (a_re 0) (a_ri 0) (a_now 0) q_hk_tried (a_hi 0) q_hk_board q_hk_search q_hk_within q_hk_colouring q_hk_chances hk ++ (wRe g a_re (a_ta 0) q_re_told re ++ (wTa g a_ta ta ++ (wHi g a_hi hi ++ (wMo g a_now now ++ (wRi g a_ri ri ++ [])))))) (wHK g a_hk (a_re 0) (a_ri 0) (a_now 0) q_hk_tried (a_hi 0) q_hk_board q_hk_search q_hk_within q_hk_colouring q_hk_chances hk ++ (wRe g a_re (a_ta 0) q_re_told re ++ (wTa g a_ta ta ++ (wHi g a_hi hi ++ (wMo g a_now now ++ (wRi g a_ri ri ++ [])))))) r_ := by
  refine start2 (y := yX11_size) (cc := cX11_size) (n := 2) (av := [.ref (a_hk 0), .int p1]) (ws := (wHK g a_hk (a_re 0) (a_ri 0) (a_now 0) q_hk_tried (a_hi 0) q_hk_board q_hk_search q_hk_within q_hk_colouring q_hk_chances hk ++ (wRe g a_re (a_ta 0) q_re_told re ++ (wTa g a_ta ta ++ (wHi g a_hi hi ++ (wMo g a_now now ++ (wRi g a_ri ri ++ []))))))) (Qc := fun sz => QI g (wHK g a_hk (a_re 0) (a_ri 0) (a_now 0) q_hk_tried (a_hi 0) q_hk_board q_hk_search q_hk_within q_hk_colouring q_hk_chances hk ++ (wRe g a_re (a_ta 0) q_re_told re ++ (wTa g a_ta ta ++ (wHi g a_hi hi ++ (wMo g a_now now ++ (wRi g a_ri ri ++ [])))))) (wHK g a_hk (a_re 0) (a_ri 0) (a_now 0) q_hk_tried (a_hi 0) q_hk_board q_hk_search q_hk_within q_hk_colouring q_hk_chances hk ++ (wRe g a_re (a_ta 0) q_re_told re ++ (wTa g a_ta ta ++ (wHi g a_hi hi ++ (wMo g a_now now ++ (wRi g a_ri ri ++ [])))))) r_ sz) (by decide) rfl ?_
  intro p e s m args below meth c ls Q A ha hQ hA X hl hI hin
  have X : Cx p s m args meth c cX11_size 2 RX11 (some .int) := X
  have hl : lv_has ls 2 [(0, .ref (a_hk 0)), (1, .int p1)] := hl
  obtain ⟨hx, hb, hml, hown, ht, hr, hlk⟩ := id X
  clear ha hin
  unfold f_X11_size at hf
  refine lv_iload_n hx hb dX11_size_0 rfl (lv_at hl 1 rfl) ?_
  refine lv_if_lt (tgt := 10) hx hb dX11_size_1 (by decide) (fun h_ => ?_) (fun h_ => ?_)
  · replace hf := if_t h_ hf
    refine lv_iconst (v := (-1)) hx hb dX11_size_10 (by decide) ?_
    cases hf
    exact end_i hQ hA X hI dX11_size_11
  · replace hf := if_f h_ hf
    refine lv_iload_n hx hb dX11_size_4 rfl (lv_at hl 1 rfl) ?_
    refine lv_bipush (v := 11) hx hb dX11_size_5 (by decide) ?_
    refine lv_icmp_le (tgt := 12) hx hb dX11_size_7 (by decide) (fun h_ => ?_) (fun h_ => ?_)
    · replace hf := if_t h_ hf
      refine lv_iload_n hx hb dX11_size_12 rfl (lv_at hl 1 rfl) ?_
      refine lv_bipush (v := 11) hx hb dX11_size_13 (by decide) ?_
      refine lv_icmp_ne (tgt := 29) hx hb dX11_size_15 (by decide) (fun h_ => ?_) (fun h_ => ?_)
      · replace hf := if_f h_ hf
        refine lv_aload_n hx hb dX11_size_29 rfl (lv_at hl 0 rfl) ?_
        refine g_HK_there X hI has_HK.l (X.fl w_686) dX11_size_30 ?_
        refine lv_if_ne (tgt := 38) hx hb dX11_size_33 (by decide) (fun h_ => ?_) (fun h_ => ?_)
        · replace hf := if_f h_ hf
          refine lv_iload_n hx hb dX11_size_38 rfl (lv_at hl 1 rfl) ?_
          refine lv_bipush (v := 7) hx hb dX11_size_39 (by decide) ?_
          refine lv_icmp_ge (tgt := 52) hx hb dX11_size_41 (by decide) (fun h_ => ?_) (fun h_ => ?_)
          · replace hf := if_t h_ hf
            refine lv_aload_n hx hb dX11_size_52 rfl (lv_at hl 0 rfl) ?_
            refine lv_iload_n hx hb dX11_size_53 rfl (lv_at hl 1 rfl) ?_
            obtain ⟨r_1, hc_, hf⟩ := bd1_some hf
            refine call_Vi X hI (Cj.keep (Cj.skip (Cj.skip (Cj.keep (Cj.keep Cj.nil))))) (c_X11_changingSize l g a_hk a_hi a_now (a_re 0) (a_ri 0) q_hk_tried q_hk_board q_hk_search q_hk_within q_hk_colouring q_hk_chances hk hi now p1 r_1 hc_) ⟨rfl, rfl⟩ ⟨ht _ w_1496, w_1499, ht _ w_139, lk_X11_changingSize⟩ w_1498 w_63 rfl rfl rfl hl rfl rfl dX11_size_54 rfl rfl rfl rfl (fun H locs hI => ?_)
            cases hf
            exact end_i hQ hA X hI dX11_size_57
          · replace hf := if_f h_ hf
            refine lv_aload_n hx hb dX11_size_44 rfl (lv_at hl 0 rfl) ?_
            refine lv_iload_n hx hb dX11_size_45 rfl (lv_at hl 1 rfl) ?_
            obtain ⟨r_2, hc_, hf⟩ := bd1_some hf
            refine call_Vi X hI (Cj.keep (Cj.skip (Cj.skip (Cj.skip (Cj.skip (Cj.keep Cj.id)))))) (c_X11_toldSize l g a_hk a_ri (a_re 0) (a_now 0) q_hk_tried (a_hi 0) q_hk_board q_hk_search q_hk_within q_hk_colouring q_hk_chances hk ri p1 r_2 hc_) ⟨rfl, rfl⟩ ⟨ht _ w_1492, w_1495, ht _ w_139, lk_X11_toldSize⟩ w_1494 w_62 rfl rfl rfl hl rfl rfl dX11_size_46 rfl rfl rfl rfl (fun H locs hI => ?_)
            refine lv_goto (tgt := 57) hx hb dX11_size_49 (by decide) ?_
            cases hf
            exact end_i hQ hA X hI dX11_size_57
        · replace hf := if_t h_ hf
          refine lv_iconst (v := 0) hx hb dX11_size_36 (by decide) ?_
          cases hf
          exact end_i hQ hA X hI dX11_size_37
      · replace hf := if_t h_ hf
        refine lv_aload_n hx hb dX11_size_18 rfl (lv_at hl 0 rfl) ?_
        refine g_HK_reader X hI has_HK.l (X.fl w_676) dX11_size_19 ?_
        refine g_Re_tape X hI has_Re.l.r (hI.fn (List.mem_of_getElem? (i := 23) rfl)) dX11_size_22 ?_
        refine g_Ta_filled X hI has_Ta.l.r.r (hI.fn (List.mem_of_getElem? (i := 0) rfl)) dX11_size_25 ?_
        cases hf
        exact end_i hQ hA X hI dX11_size_28
    · replace hf := if_f h_ hf
      refine lv_iconst (v := (-1)) hx hb dX11_size_10 (by decide) ?_
      cases hf
      exact end_i hQ hA X hI dX11_size_11
abbrev rm_X11_trouble : Room := { frames := 0, cells := 0, slots := 0, locals := 0 }
set_option maxRecDepth 20000 in
theorem c_X11_trouble (l : Launch) (g : GT) (a_hk : Nat → Nat) (q_hk_reader : Nat) (q_hk_rings : Nat) (q_hk_now : Nat) (q_hk_tried : Nat) (q_hk_history : Nat) (q_hk_board : Nat) (q_hk_search : Nat) (q_hk_within : Nat) (q_hk_colouring : Nat) (q_hk_chances : Nat) (hk : HKS) (r_ : Int32) (hf : f_X11_trouble hk = some (r_)) : CI l yX11_trouble cX11_trouble 1 (some .int) rm_X11_trouble g [.ref (a_hk 0)] (wHK g a_hk q_hk_reader q_hk_rings q_hk_now q_hk_tried q_hk_history q_hk_board q_hk_search q_hk_within q_hk_colouring q_hk_chances hk ++ []) (wHK g a_hk q_hk_reader q_hk_rings q_hk_now q_hk_tried q_hk_history q_hk_board q_hk_search q_hk_within q_hk_colouring q_hk_chances hk ++ []) r_ := by
  refine start2 (y := yX11_trouble) (cc := cX11_trouble) (n := 1) (av := [.ref (a_hk 0)]) (ws := (wHK g a_hk q_hk_reader q_hk_rings q_hk_now q_hk_tried q_hk_history q_hk_board q_hk_search q_hk_within q_hk_colouring q_hk_chances hk ++ [])) (Qc := fun sz => QI g (wHK g a_hk q_hk_reader q_hk_rings q_hk_now q_hk_tried q_hk_history q_hk_board q_hk_search q_hk_within q_hk_colouring q_hk_chances hk ++ []) (wHK g a_hk q_hk_reader q_hk_rings q_hk_now q_hk_tried q_hk_history q_hk_board q_hk_search q_hk_within q_hk_colouring q_hk_chances hk ++ []) r_ sz) (by decide) rfl ?_
  intro p e s m args below meth c ls Q A ha hQ hA X hl hI hin
  have X : Cx p s m args meth c cX11_trouble 1 RX11 (some .int) := X
  have hl : lv_has ls 1 [(0, .ref (a_hk 0))] := hl
  obtain ⟨hx, hb, hml, hown, ht, hr, hlk⟩ := id X
  clear ha hin
  unfold f_X11_trouble at hf
  refine lv_aload_n hx hb dX11_trouble_0 rfl (lv_at hl 0 rfl) ?_
  refine g_HK_trouble X hI has_HK.l (X.fl w_687) dX11_trouble_1 ?_
  cases hf
  exact end_i hQ hA X hI dX11_trouble_4
