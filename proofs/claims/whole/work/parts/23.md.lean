abbrev rm_X13_moveAt : Room := { frames := 5, cells := 0, slots := 0, locals := 111 }
set_option maxRecDepth 20000 in
theorem c_X13_moveAt (l : Launch) (g : GT) (a_md : Nat → Nat) (a_tn : Nat → Nat) (q_md_read : Option Nat) (md : MdS) (tn : TnS) (p1 : Int32) (r_ : Int32) (o_md : MdS) (hf : f_X13_moveAt md tn p1 = some (r_, o_md)) : CI l yX13_moveAt cX13_moveAt 4 (some .int) rm_X13_moveAt g [.ref (a_md 0), .int p1] (wMd g a_md (some (a_tn 0)) q_md_read md ++ (wTn g a_tn tn ++ [])) (wMd g a_md (some (a_tn 0)) q_md_read o_md ++ (wTn g a_tn tn ++ [])) r_ := by
  refine start2 (y := yX13_moveAt) (cc := cX13_moveAt) (n := 4) (av := [.ref (a_md 0), .int p1]) (ws := (wMd g a_md (some (a_tn 0)) q_md_read md ++ (wTn g a_tn tn ++ []))) (Qc := fun sz => QI g (wMd g a_md (some (a_tn 0)) q_md_read md ++ (wTn g a_tn tn ++ [])) (wMd g a_md (some (a_tn 0)) q_md_read o_md ++ (wTn g a_tn tn ++ [])) r_ sz) (by decide) rfl ?_
  intro p e s m args below meth c ls Q A ha hQ hA X hl hI hin
  have X : Cx p s m args meth c cX13_moveAt 4 RX13 (some .int) := X
  have hl : lv_has ls 4 [(0, .ref (a_md 0)), (1, .int p1)] := hl
  obtain ⟨hx, hb, hml, hown, ht, hr, hlk⟩ := id X
  clear ha hin
  have L_34 : ∀ (n_ : Nat) (x1 : Int32) (x2 : Int32) (x3 : Int32) (md : MdS) (H : Heap) (locs : List Loc) (ls : Array Slot), lv_has ls 4 [(0, .ref (a_md 0)), (1, .int x1), (2, .int x2), (3, .int x3)] → In g A s.heap s (wMd g a_md (some (a_tn 0)) q_md_read md ++ (wTn g a_tn tn ++ [])) H locs → f_X13_moveAt_L34 n_ x1 x2 x3 md tn = some (r_, o_md) → W p l e rm_X13_moveAt s m args below meth c H locs 0 0 Q (F0 m 34 ls []) := by
    intro n_
    induction n_ with
    | zero =>
      intro x1 x2 x3 md H locs ls hl hI hf
      rw [f_X13_moveAt_L34] at hf
      cases hf
    | succ n_ ih =>
      intro x1 x2 x3 md H locs ls hl hI hf
      rw [f_X13_moveAt_L34] at hf
      refine lv_iload_n hx hb dX13_moveAt_34 rfl (lv_at hl 3 rfl) ?_
      refine lv_sipush (v := 2000) hx hb dX13_moveAt_35 (by decide) ?_
      refine lv_icmp_ge (tgt := 64) hx hb dX13_moveAt_38 (by decide) (fun h_ => ?_) (fun h_ => ?_)
      · replace hf := if_t h_ hf
        refine lv_aload_n hx hb dX13_moveAt_64 rfl (lv_at hl 0 rfl) ?_
        refine lv_iconst (v := 1) hx hb dX13_moveAt_65 (by decide) ?_
        obtain ⟨r_4, md_5, hc_, hf⟩ := bd2_some hf
        refine call_Vi X hI (Cj.keep Cj.nil) (c_X13_refused l g a_md (some (a_tn 0)) q_md_read md (1 : Int32) r_4 md_5 hc_) ⟨rfl, rfl⟩ ⟨ht _ w_1719, w_1722, ht _ w_155, lk_X13_refused⟩ w_1721 w_65 rfl rfl rfl hl rfl rfl dX13_moveAt_66 rfl rfl rfl rfl (fun H locs hI => ?_)
        cases hf
        exact end_i hQ hA X hI dX13_moveAt_69
      · replace hf := if_f h_ hf
        refine lv_iload_n hx hb dX13_moveAt_41 rfl (lv_at hl 2 rfl) ?_
        refine lv_iload_n hx hb dX13_moveAt_42 rfl (lv_at hl 1 rfl) ?_
        refine lv_icmp_ne (tgt := 52) hx hb dX13_moveAt_43 (by decide) (fun h_ => ?_) (fun h_ => ?_)
        · replace hf := if_f h_ hf
          obtain ⟨v_6, e_⟩ : ∃ y : Int32, y = (x2 + (1 : Int32)) := ⟨_, rfl⟩
          replace hf := lt_to e_ hf
          refine lv_iinc (v := v_6) (lv' := [(2, .int v_6), (0, .ref (a_md 0)), (1, .int x1), (3, .int x3)]) hx hb dX13_moveAt_52 hl (k := 2) rfl (by rw [e_]; rfl) (by decide) rfl (fun ls hl => ?_)
          clear e_
          refine lv_aload_n hx hb dX13_moveAt_55 rfl (lv_at hl 1 rfl) ?_
          refine lv_iload_n hx hb dX13_moveAt_56 rfl (lv_at hl 3 rfl) ?_
          obtain ⟨r_7, hc_, hf⟩ := bd1_some hf
          refine call_Vi X hI (Cj.keep (Cj.keep Cj.id)) (c_X13_nextMay l g a_md a_tn q_md_read md tn x3 r_7 hc_) ⟨rfl, rfl⟩ ⟨ht _ w_2138, w_2141, ht _ w_155, lk_X13_nextMay⟩ w_2140 w_109 rfl rfl rfl hl rfl rfl dX13_moveAt_57 rfl rfl rfl rfl (fun H locs hI => ?_)
          refine lv_istore_n (lv' := [(3, .int r_7), (2, .int v_6), (0, .ref (a_md 0)), (1, .int x1)]) hx hb dX13_moveAt_60 rfl hl (by decide) rfl (fun ls hl => ?_)
          refine lv_goto (tgt := 34) hx hb dX13_moveAt_61 (by decide) ?_
          exact ih x1 v_6 r_7 md _ _ _ (lv_sub hl [2, 3, 1, 0] rfl) hI hf
        · replace hf := if_t h_ hf
          refine lv_aload_n hx hb dX13_moveAt_46 rfl (lv_at hl 0 rfl) ?_
          refine lv_iload_n hx hb dX13_moveAt_47 rfl (lv_at hl 3 rfl) ?_
          obtain ⟨r_8, md_9, hc_, hf⟩ := bd2_some hf
          refine call_Vi X hI (Cj.keep Cj.nil) (c_X13_good l g a_md (some (a_tn 0)) q_md_read md x3 r_8 md_9 hc_) ⟨rfl, rfl⟩ ⟨ht _ w_1998, w_2001, ht _ w_155, lk_X13_good⟩ w_2000 w_92 rfl rfl rfl hl rfl rfl dX13_moveAt_48 rfl rfl rfl rfl (fun H locs hI => ?_)
          cases hf
          exact end_i hQ hA X hI dX13_moveAt_51
  unfold f_X13_moveAt at hf
  refine lv_aload_n hx hb dX13_moveAt_0 rfl (lv_at hl 0 rfl) ?_
  refine lv_iconst (v := 0) hx hb dX13_moveAt_1 (by decide) ?_
  refine p_Md_thrown X hI up_Md_thrown.l (X.fl w_1583) dX13_moveAt_2 (fun H locs hI => ?_)
  generalize hz_ : (Md_thrown' md (0 : Int32)) = md_1 at hI hf
  clear hz_
  replace hf := lt_e hf
  refine lv_aload_n hx hb dX13_moveAt_5 rfl (lv_at hl 0 rfl) ?_
  refine g_Md_tangle_S X hI has_Md.l (X.fl w_1586) dX13_moveAt_6 ?_
  refine lv_ifnonnull (tgt := 18) hx hb dX13_moveAt_9 (by decide) ?_
  refine lv_aload_n hx hb dX13_moveAt_18 rfl (lv_at hl 0 rfl) ?_
  refine lv_aload_n hx hb dX13_moveAt_19 rfl (lv_at hl 0 rfl) ?_
  refine g_Md_now X hI has_Md.l (X.fl w_1598) dX13_moveAt_20 ?_
  obtain ⟨md_2, hc_, hf⟩ := bd1_some hf
  refine call_Vv X hI (Cj.keep (Cj.keep Cj.id)) (c_X13_looks l g a_md a_tn q_md_read md_1 tn (Md_now md_1) md_2 hc_) ⟨rfl, rfl⟩ ⟨ht _ w_2071, w_2074, ht _ w_155, lk_X13_looks⟩ w_2073 w_99 rfl rfl rfl hl rfl rfl dX13_moveAt_23 rfl rfl rfl rfl (fun H locs hI => ?_)
  refine lv_iconst (v := 0) hx hb dX13_moveAt_26 (by decide) ?_
  refine lv_istore_n (lv' := [(2, .int (0 : Int32)), (0, .ref (a_md 0)), (1, .int p1)]) hx hb dX13_moveAt_27 rfl hl (by decide) rfl (fun ls hl => ?_)
  refine lv_aload_n hx hb dX13_moveAt_28 rfl (lv_at hl 1 rfl) ?_
  refine lv_iconst (v := (-1)) hx hb dX13_moveAt_29 (by decide) ?_
  obtain ⟨r_3, hc_, hf⟩ := bd1_some hf
  refine call_Vi X hI (Cj.keep (Cj.keep Cj.id)) (c_X13_nextMay l g a_md a_tn q_md_read md_2 tn (-1 : Int32) r_3 hc_) ⟨rfl, rfl⟩ ⟨ht _ w_2138, w_2141, ht _ w_155, lk_X13_nextMay⟩ w_2140 w_109 rfl rfl rfl hl rfl rfl dX13_moveAt_30 rfl rfl rfl rfl (fun H locs hI => ?_)
  refine lv_istore_n (lv' := [(3, .int r_3), (2, .int (0 : Int32)), (0, .ref (a_md 0)), (1, .int p1)]) hx hb dX13_moveAt_33 rfl hl (by decide) rfl (fun ls hl => ?_)
  exact L_34 FU p1 (0 : Int32) r_3 md_2 _ _ _ (lv_sub hl [2, 3, 1, 0] rfl) hI hf
abbrev rm_X13_comes : Room := { frames := 0, cells := 0, slots := 0, locals := 0 }
set_option maxRecDepth 20000 in
theorem c_X13_comes (l : Launch) (g : GT) (a_md : Nat → Nat) (q_md_tangle : Option Nat) (q_md_read : Option Nat) (md : MdS) (p1 : Int64) (r_ : Int32) (o_md : MdS) (hf : f_X13_comes md p1 = some (r_, o_md)) : CI l yX13_comes cX13_comes 6 (some .boolean) rm_X13_comes g [.ref (a_md 0), .long p1] (wMd g a_md q_md_tangle q_md_read md ++ []) (wMd g a_md q_md_tangle q_md_read o_md ++ []) r_ := by
  refine start2 (y := yX13_comes) (cc := cX13_comes) (n := 6) (av := [.ref (a_md 0), .long p1]) (ws := (wMd g a_md q_md_tangle q_md_read md ++ [])) (Qc := fun sz => QI g (wMd g a_md q_md_tangle q_md_read md ++ []) (wMd g a_md q_md_tangle q_md_read o_md ++ []) r_ sz) (by decide) rfl ?_
  intro p e s m args below meth c ls Q A ha hQ hA X hl hI hin
  have X : Cx p s m args meth c cX13_comes 6 RX13 (some .boolean) := X
  have hl : lv_has ls 6 [(0, .ref (a_md 0)), (1, .long p1)] := hl
  obtain ⟨hx, hb, hml, hown, ht, hr, hlk⟩ := id X
  clear ha hin
  have L_54 : ∀ (x1 : Int64) (x3 : Int64) (x5 : Int32) (md : MdS) (H : Heap) (locs : List Loc) (ls : Array Slot), lv_has ls 6 [(0, .ref (a_md 0)), (1, .long x1), (3, .long x3), (5, .int x5)] → In g A s.heap s (wMd g a_md q_md_tangle q_md_read md ++ []) H locs → f_X13_comes_L54 x1 x3 x5 md = some (r_, o_md) → W p l e rm_X13_comes s m args below meth c H locs 0 0 Q (F0 m 54 ls []) := by
    intro x1 x3 x5 md H locs ls hl hI hf
    unfold f_X13_comes_L54 at hf
    refine lv_aload_n hx hb dX13_comes_54 rfl (lv_at hl 0 rfl) ?_
    refine g_Md_table X hI has_Md.l (X.fl w_1605) dX13_comes_55 ?_
    refine lv_iload hx hb dX13_comes_58 (lv_at hl 3 rfl) ?_
    obtain ⟨h_, hf⟩ := ck_someM hf
    refine ld_J X hI has_Md_table.l h_ dX13_comes_60 ?_
    refine lv_lload_n hx hb dX13_comes_61 rfl (lv_at hl 2 rfl) ?_
    refine W.lcmp hx hb dX13_comes_62 ?_
    refine lv_if_ne (tgt := 68) hx hb dX13_comes_63 (by decide) (fun h_ => ?_) (fun h_ => ?_)
    · replace hf := if_f h_ hf
      refine lv_aload_n hx hb dX13_comes_68 rfl (lv_at hl 0 rfl) ?_
      refine g_Md_many X hI has_Md.l (X.fl w_1606) dX13_comes_69 ?_
      refine lv_sipush (v := 4000) hx hb dX13_comes_72 (by decide) ?_
      refine lv_icmp_ne (tgt := 80) hx hb dX13_comes_75 (by decide) (fun h_ => ?_) (fun h_ => ?_)
      · replace hf := if_f h_ hf
        refine lv_aload_n hx hb dX13_comes_80 rfl (lv_at hl 0 rfl) ?_
        refine g_Md_table X hI has_Md.l (X.fl w_1605) dX13_comes_81 ?_
        refine lv_iload hx hb dX13_comes_84 (lv_at hl 3 rfl) ?_
        refine lv_lload_n hx hb dX13_comes_86 rfl (lv_at hl 2 rfl) ?_
        obtain ⟨h_, hf⟩ := ck_someM hf
        refine st_J X hI up_Md_table.l h_ dX13_comes_87 (fun H locs hI => ?_)
        generalize hz_ : (Md_table' md (vp_updL (Md_table md) (Int32.toNatClampNeg x5) x3)) = md_4 at hI hf
        clear hz_
        replace hf := lt_e hf
        refine lv_aload_n hx hb dX13_comes_88 rfl (lv_at hl 0 rfl) ?_
        refine g_Md_come X hI has_Md.l (X.fl w_1604) dX13_comes_89 ?_
        refine lv_aload_n hx hb dX13_comes_92 rfl (lv_at hl 0 rfl) ?_
        refine g_Md_many X hI has_Md.l (X.fl w_1606) dX13_comes_93 ?_
        refine lv_lload_n hx hb dX13_comes_96 rfl (lv_at hl 1 rfl) ?_
        obtain ⟨h_, hf⟩ := ck_someM hf
        refine st_J X hI up_Md_come.l h_ dX13_comes_97 (fun H locs hI => ?_)
        generalize hz_ : (Md_come' md_4 (vp_updL (Md_come md_4) (Int32.toNatClampNeg (Md_many md_4)) x1)) = md_5 at hI hf
        clear hz_
        replace hf := lt_e hf
        refine lv_aload_n hx hb dX13_comes_98 rfl (lv_at hl 0 rfl) ?_
        refine lv_dup hx hb dX13_comes_99 rfl ?_
        refine g_Md_many X hI has_Md.l (X.fl w_1606) dX13_comes_100 ?_
        refine lv_iconst (v := 1) hx hb dX13_comes_103 (by decide) ?_
        refine lv_iadd hx hb dX13_comes_104 ?_
        refine p_Md_many X hI up_Md_many.l (X.fl w_1606) dX13_comes_105 (fun H locs hI => ?_)
        generalize hz_ : (Md_many' md_5 ((Md_many md_5) + (1 : Int32))) = md_6 at hI hf
        clear hz_
        replace hf := lt_e hf
        refine lv_iconst (v := 1) hx hb dX13_comes_108 (by decide) ?_
        cases hf
        exact end_z hQ hA X hI rfl dX13_comes_109
      · replace hf := if_t h_ hf
        refine lv_iconst (v := 0) hx hb dX13_comes_78 (by decide) ?_
        cases hf
        exact end_z hQ hA X hI rfl dX13_comes_79
    · replace hf := if_t h_ hf
      refine lv_iconst (v := 1) hx hb dX13_comes_66 (by decide) ?_
      cases hf
      exact end_z hQ hA X hI rfl dX13_comes_67
  have L_17 : ∀ (n_ : Nat) (x1 : Int64) (x3 : Int64) (x5 : Int32) (md : MdS) (H : Heap) (locs : List Loc) (ls : Array Slot), lv_has ls 6 [(0, .ref (a_md 0)), (1, .long x1), (3, .long x3), (5, .int x5)] → In g A s.heap s (wMd g a_md q_md_tangle q_md_read md ++ []) H locs → f_X13_comes_L17 n_ x1 x3 x5 md = some (r_, o_md) → W p l e rm_X13_comes s m args below meth c H locs 0 0 Q (F0 m 17 ls []) := by
    intro n_
    induction n_ with
    | zero =>
      intro x1 x3 x5 md H locs ls hl hI hf
      rw [f_X13_comes_L17] at hf
      cases hf
    | succ n_ ih =>
      intro x1 x3 x5 md H locs ls hl hI hf
      rw [f_X13_comes_L17] at hf
      refine lv_aload_n hx hb dX13_comes_17 rfl (lv_at hl 0 rfl) ?_
      refine g_Md_table X hI has_Md.l (X.fl w_1605) dX13_comes_18 ?_
      refine lv_iload hx hb dX13_comes_21 (lv_at hl 3 rfl) ?_
      obtain ⟨h_, hf⟩ := ck_someM hf
      refine ld_J X hI has_Md_table.l h_ dX13_comes_23 ?_
      refine lv_lconst (v := 0) hx hb dX13_comes_24 (by decide) ?_
      refine W.lcmp hx hb dX13_comes_25 ?_
      refine lv_if_eq (tgt := 54) hx hb dX13_comes_26 (by decide) (fun h_ => ?_) (fun h_ => ?_)
      · replace hf := if_t h_ hf
        exact L_54 x1 x3 x5 md _ _ _ hl hI hf
      · replace hf := if_f h_ hf
        refine lv_aload_n hx hb dX13_comes_29 rfl (lv_at hl 0 rfl) ?_
        refine g_Md_table X hI has_Md.l (X.fl w_1605) dX13_comes_30 ?_
        refine lv_iload hx hb dX13_comes_33 (lv_at hl 3 rfl) ?_
        obtain ⟨h_, hf⟩ := ck_someM hf
        refine ld_J X hI has_Md_table.l h_ dX13_comes_35 ?_
        refine lv_lload_n hx hb dX13_comes_36 rfl (lv_at hl 2 rfl) ?_
        refine W.lcmp hx hb dX13_comes_37 ?_
        refine lv_if_eq (tgt := 54) hx hb dX13_comes_38 (by decide) (fun h_ => ?_) (fun h_ => ?_)
        · replace hf := if_t h_ hf
          exact L_54 x1 x3 x5 md _ _ _ hl hI hf
        · replace hf := if_f h_ hf
          refine lv_iload hx hb dX13_comes_41 (lv_at hl 3 rfl) ?_
          refine lv_iconst (v := 1) hx hb dX13_comes_43 (by decide) ?_
          refine lv_iadd hx hb dX13_comes_44 ?_
          refine lv_sipush (v := 16383) hx hb dX13_comes_45 (by decide) ?_
          refine lv_iand hx hb dX13_comes_48 ?_
          refine lv_topi (fun v_3 e_ => ?_)
          replace hf := lt_to e_ hf
          clear e_
          refine lv_istore (lv' := [(5, .int v_3), (0, .ref (a_md 0)), (1, .long x1), (3, .long x3)]) hx hb dX13_comes_49 hl (by decide) rfl (fun ls hl => ?_)
          refine lv_goto (tgt := 17) hx hb dX13_comes_51 (by decide) ?_
          exact ih x1 x3 v_3 md _ _ _ (lv_sub hl [1, 2, 3, 0] rfl) hI hf
  unfold f_X13_comes at hf
  refine lv_lload_n hx hb dX13_comes_0 rfl (lv_at hl 1 rfl) ?_
  refine lv_ldc2 (v := 1152921504606846976) hx hb hown (ht _ w_2162) dX13_comes_1 ?_
  refine lv_lor hx hb dX13_comes_4 ?_
  refine lv_topl (fun v_1 e_ => ?_)
  replace hf := lt_to e_ hf
  clear e_
  refine lv_lstore_n (lv' := [(3, .long v_1), (0, .ref (a_md 0)), (1, .long p1)]) hx hb dX13_comes_5 rfl hl (by decide) rfl (fun ls hl => ?_)
  refine lv_lload_n hx hb dX13_comes_6 rfl (lv_at hl 0 rfl) ?_
  refine lv_ldc2 (v := (-7046029254386353131)) hx hb hown (ht _ w_2163) dX13_comes_7 ?_
  refine lv_lmul hx hb dX13_comes_10 ?_
  refine lv_bipush (v := 50) hx hb dX13_comes_11 (by decide) ?_
  refine lv_lushr hx hb dX13_comes_13 rfl ?_
  refine lv_l2i hx hb dX13_comes_14 rfl ?_
  refine lv_topi (fun v_2 e_ => ?_)
  replace hf := lt_to e_ hf
  clear e_
  refine lv_istore (lv' := [(5, .int v_2), (3, .long v_1), (0, .ref (a_md 0)), (1, .long p1)]) hx hb dX13_comes_15 hl (by decide) rfl (fun ls hl => ?_)
  exact L_17 FU p1 v_1 v_2 md _ _ _ (lv_sub hl [2, 3, 1, 0] rfl) hI hf
abbrev rm_X13_goesOnFrom : Room := { frames := 5, cells := 0, slots := 0, locals := 111 }
set_option maxRecDepth 20000 in
theorem c_X13_goesOnFrom (l : Launch) (g : GT) (a_md : Nat → Nat) (a_tn : Nat → Nat) (q_md_read : Option Nat) (md : MdS) (tn : TnS) (p1 : Int64) (r_ : Int32) (o_md : MdS) (hf : f_X13_goesOnFrom md tn p1 = some (r_, o_md)) : CI l yX13_goesOnFrom cX13_goesOnFrom 4 (some .boolean) rm_X13_goesOnFrom g [.ref (a_md 0), .long p1] (wMd g a_md (some (a_tn 0)) q_md_read md ++ (wTn g a_tn tn ++ [])) (wMd g a_md (some (a_tn 0)) q_md_read o_md ++ (wTn g a_tn tn ++ [])) r_ := by
  refine start2 (y := yX13_goesOnFrom) (cc := cX13_goesOnFrom) (n := 4) (av := [.ref (a_md 0), .long p1]) (ws := (wMd g a_md (some (a_tn 0)) q_md_read md ++ (wTn g a_tn tn ++ []))) (Qc := fun sz => QI g (wMd g a_md (some (a_tn 0)) q_md_read md ++ (wTn g a_tn tn ++ [])) (wMd g a_md (some (a_tn 0)) q_md_read o_md ++ (wTn g a_tn tn ++ [])) r_ sz) (by decide) rfl ?_
  intro p e s m args below meth c ls Q A ha hQ hA X hl hI hin
  have X : Cx p s m args meth c cX13_goesOnFrom 4 RX13 (some .boolean) := X
  have hl : lv_has ls 4 [(0, .ref (a_md 0)), (1, .long p1)] := hl
  obtain ⟨hx, hb, hml, hown, ht, hr, hlk⟩ := id X
  clear ha hin
  have L_11 : ∀ (n_ : Nat) (x1 : Int64) (x3 : Int32) (md : MdS) (H : Heap) (locs : List Loc) (ls : Array Slot), lv_has ls 4 [(0, .ref (a_md 0)), (1, .long x1), (3, .int x3)] → In g A s.heap s (wMd g a_md (some (a_tn 0)) q_md_read md ++ (wTn g a_tn tn ++ [])) H locs → f_X13_goesOnFrom_L11 n_ x1 x3 md tn = some (r_, o_md) → W p l e rm_X13_goesOnFrom s m args below meth c H locs 0 0 Q (F0 m 11 ls []) := by
    intro n_
    induction n_ with
    | zero =>
      intro x1 x3 md H locs ls hl hI hf
      rw [f_X13_goesOnFrom_L11] at hf
      cases hf
    | succ n_ ih =>
      intro x1 x3 md H locs ls hl hI hf
      rw [f_X13_goesOnFrom_L11] at hf
      refine lv_iload_n hx hb dX13_goesOnFrom_11 rfl (lv_at hl 2 rfl) ?_
      refine lv_sipush (v := 2000) hx hb dX13_goesOnFrom_12 (by decide) ?_
      refine lv_icmp_ge (tgt := 42) hx hb dX13_goesOnFrom_15 (by decide) (fun h_ => ?_) (fun h_ => ?_)
      · replace hf := if_t h_ hf
        refine lv_iconst (v := 1) hx hb dX13_goesOnFrom_42 (by decide) ?_
        cases hf
        exact end_z hQ hA X hI rfl dX13_goesOnFrom_43
      · replace hf := if_f h_ hf
        refine lv_aload_n hx hb dX13_goesOnFrom_18 rfl (lv_at hl 0 rfl) ?_
        refine lv_aload_n hx hb dX13_goesOnFrom_19 rfl (lv_at hl 0 rfl) ?_
        refine lv_lload_n hx hb dX13_goesOnFrom_20 rfl (lv_at hl 1 rfl) ?_
        refine lv_iload_n hx hb dX13_goesOnFrom_21 rfl (lv_at hl 2 rfl) ?_
        obtain ⟨r_3, hc_, hf⟩ := bd1_some hf
        refine call_Vl X hI (Cj.keep Cj.nil) (c_X13_behind l g a_md (some (a_tn 0)) q_md_read md x1 x3 r_3 hc_) ⟨rfl, rfl⟩ ⟨ht _ w_2168, w_2171, ht _ w_155, lk_X13_behind⟩ w_2170 w_114 rfl rfl rfl hl rfl rfl dX13_goesOnFrom_22 rfl rfl rfl rfl (fun H locs hI => ?_)
        obtain ⟨r_4, md_5, hc_, hf⟩ := bd2_some hf
        refine call_Vi X hI (Cj.keep Cj.nil) (c_X13_comes l g a_md (some (a_tn 0)) q_md_read md r_3 r_4 md_5 hc_) ⟨rfl, rfl⟩ ⟨ht _ w_2158, w_2161, ht _ w_155, lk_X13_comes⟩ w_2160 w_112 rfl rfl rfl hl rfl rfl dX13_goesOnFrom_25 rfl rfl rfl rfl (fun H locs hI => ?_)
        refine lv_if_ne (tgt := 33) hx hb dX13_goesOnFrom_28 (by decide) (fun h_ => ?_) (fun h_ => ?_)
        · replace hf := if_f h_ hf
          refine lv_aload_n hx hb dX13_goesOnFrom_33 rfl (lv_at hl 0 rfl) ?_
          refine lv_iload_n hx hb dX13_goesOnFrom_34 rfl (lv_at hl 2 rfl) ?_
          obtain ⟨r_6, hc_, hf⟩ := bd1_some hf
          refine call_Vi X hI (Cj.keep (Cj.keep Cj.id)) (c_X13_nextMay l g a_md a_tn q_md_read md_5 tn x3 r_6 hc_) ⟨rfl, rfl⟩ ⟨ht _ w_2138, w_2141, ht _ w_155, lk_X13_nextMay⟩ w_2140 w_109 rfl rfl rfl hl rfl rfl dX13_goesOnFrom_35 rfl rfl rfl rfl (fun H locs hI => ?_)
          refine lv_istore_n (lv' := [(3, .int r_6), (0, .ref (a_md 0)), (1, .long x1)]) hx hb dX13_goesOnFrom_38 rfl hl (by decide) rfl (fun ls hl => ?_)
          refine lv_goto (tgt := 11) hx hb dX13_goesOnFrom_39 (by decide) ?_
          exact ih x1 r_6 md_5 _ _ _ (lv_sub hl [1, 2, 0] rfl) hI hf
        · replace hf := if_t h_ hf
          refine lv_iconst (v := 0) hx hb dX13_goesOnFrom_31 (by decide) ?_
          cases hf
          exact end_z hQ hA X hI rfl dX13_goesOnFrom_32
  unfold f_X13_goesOnFrom at hf
  refine lv_aload_n hx hb dX13_goesOnFrom_0 rfl (lv_at hl 0 rfl) ?_
  refine lv_lload_n hx hb dX13_goesOnFrom_1 rfl (lv_at hl 1 rfl) ?_
  obtain ⟨md_1, hc_, hf⟩ := bd1_some hf
  refine call_Vv X hI (Cj.keep (Cj.keep Cj.id)) (c_X13_looks l g a_md a_tn q_md_read md tn p1 md_1 hc_) ⟨rfl, rfl⟩ ⟨ht _ w_2071, w_2074, ht _ w_155, lk_X13_looks⟩ w_2073 w_99 rfl rfl rfl hl rfl rfl dX13_goesOnFrom_2 rfl rfl rfl rfl (fun H locs hI => ?_)
  refine lv_aload_n hx hb dX13_goesOnFrom_5 rfl (lv_at hl 0 rfl) ?_
  refine lv_iconst (v := (-1)) hx hb dX13_goesOnFrom_6 (by decide) ?_
  obtain ⟨r_2, hc_, hf⟩ := bd1_some hf
  refine call_Vi X hI (Cj.keep (Cj.keep Cj.id)) (c_X13_nextMay l g a_md a_tn q_md_read md_1 tn (-1 : Int32) r_2 hc_) ⟨rfl, rfl⟩ ⟨ht _ w_2138, w_2141, ht _ w_155, lk_X13_nextMay⟩ w_2140 w_109 rfl rfl rfl hl rfl rfl dX13_goesOnFrom_7 rfl rfl rfl rfl (fun H locs hI => ?_)
  refine lv_istore_n (lv' := [(3, .int r_2), (0, .ref (a_md 0)), (1, .long p1)]) hx hb dX13_goesOnFrom_10 rfl hl (by decide) rfl (fun ls hl => ?_)
  exact L_11 FU p1 r_2 md_1 _ _ _ (lv_sub hl [1, 2, 0] rfl) hI hf
abbrev rm_X13_fewestFrom : Room := { frames := 6, cells := 0, slots := 0, locals := 134 }
set_option maxRecDepth 20000 in
theorem c_X13_fewestFrom (l : Launch) (g : GT) (a_md : Nat → Nat) (a_tn : Nat → Nat) (q_md_read : Option Nat) (md : MdS) (tn : TnS) (p1 : Int64) (p3 : Int32) (r_ : Int32) (o_md : MdS) (hf : f_X13_fewestFrom md tn p1 p3 = some (r_, o_md)) : CI l yX13_fewestFrom cX13_fewestFrom 8 (some .int) rm_X13_fewestFrom g [.ref (a_md 0), .long p1, .int p3] (wMd g a_md (some (a_tn 0)) q_md_read md ++ (wTn g a_tn tn ++ [])) (wMd g a_md (some (a_tn 0)) q_md_read o_md ++ (wTn g a_tn tn ++ [])) r_ := by
  refine start2 (y := yX13_fewestFrom) (cc := cX13_fewestFrom) (n := 8) (av := [.ref (a_md 0), .long p1, .int p3]) (ws := (wMd g a_md (some (a_tn 0)) q_md_read md ++ (wTn g a_tn tn ++ []))) (Qc := fun sz => QI g (wMd g a_md (some (a_tn 0)) q_md_read md ++ (wTn g a_tn tn ++ [])) (wMd g a_md (some (a_tn 0)) q_md_read o_md ++ (wTn g a_tn tn ++ [])) r_ sz) (by decide) rfl ?_
  intro p e s m args below meth c ls Q A ha hQ hA X hl hI hin
  have X : Cx p s m args meth c cX13_fewestFrom 8 RX13 (some .int) := X
  have hl : lv_has ls 8 [(0, .ref (a_md 0)), (1, .long p1), (3, .int p3)] := hl
  obtain ⟨hx, hb, hml, hown, ht, hr, hlk⟩ := id X
  clear ha hin
  have L_101 : ∀ (n_ : Nat) (x3 : Int32) (x5 : Int32) (x6 : Int32) (x7 : Int32) (md : MdS) (k42 : (Int32) → (Int32) → (Int32) → (MdS) → (TnS) → Option (Int32 × (MdS))) (H : Heap) (locs : List Loc) (ls : Array Slot), lv_has ls 8 [(0, .ref (a_md 0)), (3, .int x3), (5, .int x5), (6, .int x6), (7, .int x7)] → In g A s.heap s (wMd g a_md (some (a_tn 0)) q_md_read md ++ (wTn g a_tn tn ++ [])) H locs → f_X13_fewestFrom_L101 n_ x3 x5 x6 x7 md tn k42 = some (r_, o_md) → (∀ (x3 : Int32) (x4 : Int32) (x5 : Int32) (md : MdS) (H : Heap) (locs : List Loc) (ls : Array Slot), lv_has ls 8 [(0, .ref (a_md 0)), (3, .int x3), (4, .int x4), (5, .int x5)] → In g A s.heap s (wMd g a_md (some (a_tn 0)) q_md_read md ++ (wTn g a_tn tn ++ [])) H locs → k42 x3 x4 x5 md tn = some (r_, o_md) → W p l e rm_X13_fewestFrom s m args below meth c H locs 0 0 Q (F0 m 42 ls [])) → W p l e rm_X13_fewestFrom s m args below meth c H locs 0 0 Q (F0 m 101 ls []) := by
    intro n_
    induction n_ with
    | zero =>
      intro x3 x5 x6 x7 md k42 H locs ls hl hI hf hk42
      rw [f_X13_fewestFrom_L101] at hf
      cases hf
    | succ n_ ih =>
      intro x3 x5 x6 x7 md k42 H locs ls hl hI hf hk42
      rw [f_X13_fewestFrom_L101] at hf
      refine lv_iload hx hb dX13_fewestFrom_101 (lv_at hl 4 rfl) ?_
      refine lv_iload hx hb dX13_fewestFrom_103 (lv_at hl 3 rfl) ?_
      refine lv_icmp_ge (tgt := 131) hx hb dX13_fewestFrom_105 (by decide) (fun h_ => ?_) (fun h_ => ?_)
      · replace hf := if_t h_ hf
        refine lv_iload hx hb dX13_fewestFrom_131 (lv_at hl 3 rfl) ?_
        refine lv_istore (lv' := [(4, .int x6), (0, .ref (a_md 0)), (3, .int x3), (5, .int x5), (6, .int x6), (7, .int x7)]) hx hb dX13_fewestFrom_133 hl (by decide) rfl (fun ls hl => ?_)
        obtain ⟨v_9, e_⟩ : ∃ y : Int32, y = (x5 + (1 : Int32)) := ⟨_, rfl⟩
        replace hf := lt_to e_ hf
        refine lv_iinc (v := v_9) (lv' := [(5, .int v_9), (4, .int x6), (0, .ref (a_md 0)), (3, .int x3), (6, .int x6), (7, .int x7)]) hx hb dX13_fewestFrom_135 hl (k := 3) rfl (by rw [e_]; rfl) (by decide) rfl (fun ls hl => ?_)
        clear e_
        refine lv_goto (tgt := 42) hx hb dX13_fewestFrom_138 (by decide) ?_
        exact hk42 x3 x6 v_9 md _ _ _ (lv_sub hl [2, 3, 1, 0] rfl) hI hf
      · replace hf := if_f h_ hf
        refine lv_aload_n hx hb dX13_fewestFrom_108 rfl (lv_at hl 0 rfl) ?_
        refine lv_aload_n hx hb dX13_fewestFrom_109 rfl (lv_at hl 0 rfl) ?_
        refine g_Md_come X hI has_Md.l (X.fl w_1604) dX13_fewestFrom_110 ?_
        refine lv_iload hx hb dX13_fewestFrom_113 (lv_at hl 4 rfl) ?_
        obtain ⟨h_, hf⟩ := ck_someM hf
        refine ld_J X hI has_Md_come.l h_ dX13_fewestFrom_115 ?_
        obtain ⟨r_10, md_11, hc_, hf⟩ := bd2_some hf
        refine call_Vi X hI (Cj.keep (Cj.keep Cj.id)) (c_X13_goesOnFrom l g a_md a_tn q_md_read md tn (Md_come md (Int32.toNatClampNeg x7)) r_10 md_11 hc_) ⟨rfl, rfl⟩ ⟨ht _ w_2164, w_2167, ht _ w_155, lk_X13_goesOnFrom⟩ w_2166 w_113 rfl rfl rfl hl rfl rfl dX13_fewestFrom_116 rfl rfl rfl rfl (fun H locs hI => ?_)
        refine lv_if_ne (tgt := 125) hx hb dX13_fewestFrom_119 (by decide) (fun h_ => ?_) (fun h_ => ?_)
        · replace hf := if_f h_ hf
          obtain ⟨v_12, e_⟩ : ∃ y : Int32, y = (x7 + (1 : Int32)) := ⟨_, rfl⟩
          replace hf := lt_to e_ hf
          refine lv_iinc (v := v_12) (lv' := [(7, .int v_12), (0, .ref (a_md 0)), (3, .int x3), (5, .int x5), (6, .int x6)]) hx hb dX13_fewestFrom_125 hl (k := 4) rfl (by rw [e_]; rfl) (by decide) rfl (fun ls hl => ?_)
          clear e_
          refine lv_goto (tgt := 101) hx hb dX13_fewestFrom_128 (by decide) ?_
          exact ih x3 x5 x6 v_12 md_11 k42 _ _ _ (lv_sub hl [1, 2, 3, 4, 0] rfl) hI hf hk42
        · replace hf := if_t h_ hf
          refine lv_bipush (v := (-9)) hx hb dX13_fewestFrom_122 (by decide) ?_
          cases hf
          exact end_i hQ hA X hI dX13_fewestFrom_124
  have L_58 : ∀ (n_ : Nat) (x3 : Int32) (x4 : Int32) (x5 : Int32) (x6 : Int32) (x7 : Int32) (md : MdS) (k42 : (Int32) → (Int32) → (Int32) → (MdS) → (TnS) → Option (Int32 × (MdS))) (H : Heap) (locs : List Loc) (ls : Array Slot), lv_has ls 8 [(0, .ref (a_md 0)), (3, .int x3), (4, .int x4), (5, .int x5), (6, .int x6), (7, .int x7)] → In g A s.heap s (wMd g a_md (some (a_tn 0)) q_md_read md ++ (wTn g a_tn tn ++ [])) H locs → f_X13_fewestFrom_L58 n_ x3 x4 x5 x6 x7 md tn k42 = some (r_, o_md) → (∀ (x3 : Int32) (x4 : Int32) (x5 : Int32) (md : MdS) (H : Heap) (locs : List Loc) (ls : Array Slot), lv_has ls 8 [(0, .ref (a_md 0)), (3, .int x3), (4, .int x4), (5, .int x5)] → In g A s.heap s (wMd g a_md (some (a_tn 0)) q_md_read md ++ (wTn g a_tn tn ++ [])) H locs → k42 x3 x4 x5 md tn = some (r_, o_md) → W p l e rm_X13_fewestFrom s m args below meth c H locs 0 0 Q (F0 m 42 ls [])) → W p l e rm_X13_fewestFrom s m args below meth c H locs 0 0 Q (F0 m 58 ls []) := by
    intro n_
    induction n_ with
    | zero =>
      intro x3 x4 x5 x6 x7 md k42 H locs ls hl hI hf hk42
      rw [f_X13_fewestFrom_L58] at hf
      cases hf
    | succ n_ ih =>
      intro x3 x4 x5 x6 x7 md k42 H locs ls hl hI hf hk42
      rw [f_X13_fewestFrom_L58] at hf
      refine lv_iload hx hb dX13_fewestFrom_58 (lv_at hl 5 rfl) ?_
      refine lv_iload hx hb dX13_fewestFrom_60 (lv_at hl 4 rfl) ?_
      refine lv_icmp_ge (tgt := 88) hx hb dX13_fewestFrom_62 (by decide) (fun h_ => ?_) (fun h_ => ?_)
      · replace hf := if_t h_ hf
        refine lv_iload hx hb dX13_fewestFrom_88 (lv_at hl 3 rfl) ?_
        refine lv_iload_n hx hb dX13_fewestFrom_90 rfl (lv_at hl 1 rfl) ?_
        refine lv_icmp_ne (tgt := 97) hx hb dX13_fewestFrom_91 (by decide) (fun h_ => ?_) (fun h_ => ?_)
        · replace hf := if_f h_ hf
          refine lv_iload hx hb dX13_fewestFrom_97 (lv_at hl 2 rfl) ?_
          refine lv_istore (lv' := [(7, .int x4), (0, .ref (a_md 0)), (3, .int x3), (4, .int x4), (5, .int x5), (6, .int x6)]) hx hb dX13_fewestFrom_99 hl (by decide) rfl (fun ls hl => ?_)
          exact L_101 FU x3 x5 x6 x4 md _ _ _ _ (lv_sub hl [1, 2, 4, 5, 0] rfl) hI hf hk42
        · replace hf := if_t h_ hf
          refine lv_bipush (v := (-2)) hx hb dX13_fewestFrom_94 (by decide) ?_
          cases hf
          exact end_i hQ hA X hI dX13_fewestFrom_96
      · replace hf := if_f h_ hf
        refine lv_aload_n hx hb dX13_fewestFrom_65 rfl (lv_at hl 0 rfl) ?_
        refine lv_aload_n hx hb dX13_fewestFrom_66 rfl (lv_at hl 0 rfl) ?_
        refine g_Md_come X hI has_Md.l (X.fl w_1604) dX13_fewestFrom_67 ?_
        refine lv_iload hx hb dX13_fewestFrom_70 (lv_at hl 5 rfl) ?_
        obtain ⟨h_, hf⟩ := ck_someM hf
        refine ld_J X hI has_Md_come.l h_ dX13_fewestFrom_72 ?_
        obtain ⟨r_7, hc_, hf⟩ := bd1_some hf
        refine call_Vi X hI (Cj.keep (Cj.keep Cj.id)) (c_X13_leftIn l g a_md a_tn q_md_read md tn (Md_come md (Int32.toNatClampNeg x7)) r_7 hc_) ⟨rfl, rfl⟩ ⟨ht _ w_2095, w_2098, ht _ w_155, lk_X13_leftIn⟩ w_2097 w_103 rfl rfl rfl hl rfl rfl dX13_fewestFrom_73 rfl rfl rfl rfl (fun H locs hI => ?_)
        refine lv_if_ne (tgt := 82) hx hb dX13_fewestFrom_76 (by decide) (fun h_ => ?_) (fun h_ => ?_)
        · replace hf := if_f h_ hf
          obtain ⟨v_8, e_⟩ : ∃ y : Int32, y = (x7 + (1 : Int32)) := ⟨_, rfl⟩
          replace hf := lt_to e_ hf
          refine lv_iinc (v := v_8) (lv' := [(7, .int v_8), (0, .ref (a_md 0)), (3, .int x3), (4, .int x4), (5, .int x5), (6, .int x6)]) hx hb dX13_fewestFrom_82 hl (k := 5) rfl (by rw [e_]; rfl) (by decide) rfl (fun ls hl => ?_)
          clear e_
          refine lv_goto (tgt := 58) hx hb dX13_fewestFrom_85 (by decide) ?_
          exact ih x3 x4 x5 x6 v_8 md k42 _ _ _ (lv_sub hl [1, 2, 3, 4, 5, 0] rfl) hI hf hk42
        · replace hf := if_t h_ hf
          refine lv_iload hx hb dX13_fewestFrom_79 (lv_at hl 3 rfl) ?_
          cases hf
          exact end_i hQ hA X hI dX13_fewestFrom_81
  have L_42 : ∀ (n_ : Nat) (x3 : Int32) (x4 : Int32) (x5 : Int32) (md : MdS) (H : Heap) (locs : List Loc) (ls : Array Slot), lv_has ls 8 [(0, .ref (a_md 0)), (3, .int x3), (4, .int x4), (5, .int x5)] → In g A s.heap s (wMd g a_md (some (a_tn 0)) q_md_read md ++ (wTn g a_tn tn ++ [])) H locs → f_X13_fewestFrom_L42 n_ x3 x4 x5 md tn = some (r_, o_md) → W p l e rm_X13_fewestFrom s m args below meth c H locs 0 0 Q (F0 m 42 ls []) := by
    intro n_
    induction n_ with
    | zero =>
      intro x3 x4 x5 md H locs ls hl hI hf
      rw [f_X13_fewestFrom_L42] at hf
      cases hf
    | succ n_ ih =>
      intro x3 x4 x5 md H locs ls hl hI hf
      rw [f_X13_fewestFrom_L42] at hf
      refine lv_iload hx hb dX13_fewestFrom_42 (lv_at hl 3 rfl) ?_
      refine lv_iload_n hx hb dX13_fewestFrom_44 rfl (lv_at hl 1 rfl) ?_
      refine lv_icmp_gt (tgt := 141) hx hb dX13_fewestFrom_45 (by decide) (fun h_ => ?_) (fun h_ => ?_)
      · replace hf := if_t h_ hf
        refine lv_bipush (v := (-2)) hx hb dX13_fewestFrom_141 (by decide) ?_
        cases hf
        exact end_i hQ hA X hI dX13_fewestFrom_143
      · replace hf := if_f h_ hf
        refine lv_aload_n hx hb dX13_fewestFrom_48 rfl (lv_at hl 0 rfl) ?_
        refine g_Md_many X hI has_Md.l (X.fl w_1606) dX13_fewestFrom_49 ?_
        refine lv_topi (fun v_6 e_ => ?_)
        replace hf := lt_to e_ hf
        clear e_
        refine lv_istore (lv' := [(6, .int v_6), (0, .ref (a_md 0)), (3, .int x3), (4, .int x4), (5, .int x5)]) hx hb dX13_fewestFrom_52 hl (by decide) rfl (fun ls hl => ?_)
        refine lv_iload hx hb dX13_fewestFrom_54 (lv_at hl 3 rfl) ?_
        refine lv_istore (lv' := [(7, .int x4), (6, .int v_6), (0, .ref (a_md 0)), (3, .int x3), (4, .int x4), (5, .int x5)]) hx hb dX13_fewestFrom_56 hl (by decide) rfl (fun ls hl => ?_)
        exact L_58 FU x3 x4 x5 v_6 x4 md _ _ _ _ (lv_sub hl [2, 3, 4, 5, 1, 0] rfl) hI hf (fun z_0 z_1 z_2 z_3 _ _ _ hl hI hf => ih z_0 z_1 z_2 z_3 _ _ _ hl hI hf)
  have L_3 : ∀ (n_ : Nat) (x1 : Int64) (x3 : Int32) (x4 : Int32) (md : MdS) (H : Heap) (locs : List Loc) (ls : Array Slot), lv_has ls 8 [(0, .ref (a_md 0)), (1, .long x1), (3, .int x3), (4, .int x4)] → In g A s.heap s (wMd g a_md (some (a_tn 0)) q_md_read md ++ (wTn g a_tn tn ++ [])) H locs → f_X13_fewestFrom_L3 n_ x1 x3 x4 md tn = some (r_, o_md) → W p l e rm_X13_fewestFrom s m args below meth c H locs 0 0 Q (F0 m 3 ls []) := by
    intro n_
    induction n_ with
    | zero =>
      intro x1 x3 x4 md H locs ls hl hI hf
      rw [f_X13_fewestFrom_L3] at hf
      cases hf
    | succ n_ ih =>
      intro x1 x3 x4 md H locs ls hl hI hf
      rw [f_X13_fewestFrom_L3] at hf
      refine lv_iload hx hb dX13_fewestFrom_3 (lv_at hl 3 rfl) ?_
      refine lv_sipush (v := 16384) hx hb dX13_fewestFrom_5 (by decide) ?_
      refine lv_icmp_ge (tgt := 25) hx hb dX13_fewestFrom_8 (by decide) (fun h_ => ?_) (fun h_ => ?_)
      · replace hf := if_t h_ hf
        refine lv_aload_n hx hb dX13_fewestFrom_25 rfl (lv_at hl 0 rfl) ?_
        refine lv_iconst (v := 0) hx hb dX13_fewestFrom_26 (by decide) ?_
        refine p_Md_many X hI up_Md_many.l (X.fl w_1606) dX13_fewestFrom_27 (fun H locs hI => ?_)
        generalize hz_ : (Md_many' md (0 : Int32)) = md_1 at hI hf
        clear hz_
        replace hf := lt_e hf
        refine lv_aload_n hx hb dX13_fewestFrom_30 rfl (lv_at hl 0 rfl) ?_
        refine lv_lload_n hx hb dX13_fewestFrom_31 rfl (lv_at hl 1 rfl) ?_
        obtain ⟨r_2, md_3, hc_, hf⟩ := bd2_some hf
        refine call_Vi X hI (Cj.keep Cj.nil) (c_X13_comes l g a_md (some (a_tn 0)) q_md_read md_1 x1 r_2 md_3 hc_) ⟨rfl, rfl⟩ ⟨ht _ w_2158, w_2161, ht _ w_155, lk_X13_comes⟩ w_2160 w_112 rfl rfl rfl hl rfl rfl dX13_fewestFrom_32 rfl rfl rfl rfl (fun H locs hI => ?_)
        refine lv_pop hx hb dX13_fewestFrom_35 rfl ?_
        refine lv_iconst (v := 0) hx hb dX13_fewestFrom_36 (by decide) ?_
        refine lv_istore (lv' := [(4, .int (0 : Int32)), (0, .ref (a_md 0)), (1, .long x1), (3, .int x3)]) hx hb dX13_fewestFrom_37 hl (by decide) rfl (fun ls hl => ?_)
        refine lv_iconst (v := 0) hx hb dX13_fewestFrom_39 (by decide) ?_
        refine lv_istore (lv' := [(5, .int (0 : Int32)), (4, .int (0 : Int32)), (0, .ref (a_md 0)), (1, .long x1), (3, .int x3)]) hx hb dX13_fewestFrom_40 hl (by decide) rfl (fun ls hl => ?_)
        exact L_42 FU x3 (0 : Int32) (0 : Int32) md_3 _ _ _ (lv_sub hl [2, 4, 1, 0] rfl) hI hf
      · replace hf := if_f h_ hf
        refine lv_aload_n hx hb dX13_fewestFrom_11 rfl (lv_at hl 0 rfl) ?_
        refine g_Md_table X hI has_Md.l (X.fl w_1605) dX13_fewestFrom_12 ?_
        refine lv_iload hx hb dX13_fewestFrom_15 (lv_at hl 3 rfl) ?_
        refine lv_lconst (v := 0) hx hb dX13_fewestFrom_17 (by decide) ?_
        obtain ⟨h_, hf⟩ := ck_someM hf
        refine st_J X hI up_Md_table.l h_ dX13_fewestFrom_18 (fun H locs hI => ?_)
        generalize hz_ : (Md_table' md (vp_updL (Md_table md) (Int32.toNatClampNeg x4) (0 : Int64))) = md_4 at hI hf
        clear hz_
        replace hf := lt_e hf
        obtain ⟨v_5, e_⟩ : ∃ y : Int32, y = (x4 + (1 : Int32)) := ⟨_, rfl⟩
        replace hf := lt_to e_ hf
        refine lv_iinc (v := v_5) (lv' := [(4, .int v_5), (0, .ref (a_md 0)), (1, .long x1), (3, .int x3)]) hx hb dX13_fewestFrom_19 hl (k := 3) rfl (by rw [e_]; rfl) (by decide) rfl (fun ls hl => ?_)
        clear e_
        refine lv_goto (tgt := 3) hx hb dX13_fewestFrom_22 (by decide) ?_
        exact ih x1 x3 v_5 md_4 _ _ _ (lv_sub hl [1, 2, 3, 0] rfl) hI hf
  unfold f_X13_fewestFrom at hf
  refine lv_iconst (v := 0) hx hb dX13_fewestFrom_0 (by decide) ?_
  refine lv_istore (lv' := [(4, .int (0 : Int32)), (0, .ref (a_md 0)), (1, .long p1), (3, .int p3)]) hx hb dX13_fewestFrom_1 hl (by decide) rfl (fun ls hl => ?_)
  exact L_3 FU p1 p3 (0 : Int32) md _ _ _ (lv_sub hl [1, 2, 3, 0] rfl) hI hf
abbrev rm_X13_fewest : Room := { frames := 7, cells := 0, slots := 0, locals := 161 }
set_option maxRecDepth 20000 in
theorem c_X13_fewest (l : Launch) (g : GT) (a_md : Nat → Nat) (a_tn : Nat → Nat) (q_md_read : Option Nat) (md : MdS) (tn : TnS) (p1 : Int32) (r_ : Int32) (o_md : MdS) (hf : f_X13_fewest md tn p1 = some (r_, o_md)) : CI l yX13_fewest cX13_fewest 3 (some .int) rm_X13_fewest g [.ref (a_md 0), .int p1] (wMd g a_md (some (a_tn 0)) q_md_read md ++ (wTn g a_tn tn ++ [])) (wMd g a_md (some (a_tn 0)) q_md_read o_md ++ (wTn g a_tn tn ++ [])) r_ := by
  refine start2 (y := yX13_fewest) (cc := cX13_fewest) (n := 3) (av := [.ref (a_md 0), .int p1]) (ws := (wMd g a_md (some (a_tn 0)) q_md_read md ++ (wTn g a_tn tn ++ []))) (Qc := fun sz => QI g (wMd g a_md (some (a_tn 0)) q_md_read md ++ (wTn g a_tn tn ++ [])) (wMd g a_md (some (a_tn 0)) q_md_read o_md ++ (wTn g a_tn tn ++ [])) r_ sz) (by decide) rfl ?_
  intro p e s m args below meth c ls Q A ha hQ hA X hl hI hin
  have X : Cx p s m args meth c cX13_fewest 3 RX13 (some .int) := X
  have hl : lv_has ls 3 [(0, .ref (a_md 0)), (1, .int p1)] := hl
  obtain ⟨hx, hb, hml, hown, ht, hr, hlk⟩ := id X
  clear ha hin
  unfold f_X13_fewest at hf
  refine lv_aload_n hx hb dX13_fewest_0 rfl (lv_at hl 0 rfl) ?_
  refine lv_iconst (v := 0) hx hb dX13_fewest_1 (by decide) ?_
  refine p_Md_thrown X hI up_Md_thrown.l (X.fl w_1583) dX13_fewest_2 (fun H locs hI => ?_)
  generalize hz_ : (Md_thrown' md (0 : Int32)) = md_1 at hI hf
  clear hz_
  replace hf := lt_e hf
  refine lv_aload_n hx hb dX13_fewest_5 rfl (lv_at hl 0 rfl) ?_
  refine g_Md_tangle_S X hI has_Md.l (X.fl w_1586) dX13_fewest_6 ?_
  refine lv_ifnonnull (tgt := 18) hx hb dX13_fewest_9 (by decide) ?_
  refine lv_iload_n hx hb dX13_fewest_18 rfl (lv_at hl 1 rfl) ?_
  refine lv_iconst (v := 0) hx hb dX13_fewest_19 (by decide) ?_
  refine lv_bipush (v := 8) hx hb dX13_fewest_20 (by decide) ?_
  obtain ⟨r_2, hc_, hf⟩ := bd1_some hf
  refine call_Si X hI Cj.nil (c_X13_in l g p1 (0 : Int32) (8 : Int32) r_2 hc_) ⟨rfl, rfl⟩ ⟨ht _ w_1910, w_1912, ht _ w_155, lk_X13_in⟩ w_1911 rfl hl rfl rfl dX13_fewest_22 rfl rfl rfl rfl (fun H locs hI => ?_)
  refine lv_if_ne (tgt := 34) hx hb dX13_fewest_25 (by decide) (fun h_ => ?_) (fun h_ => ?_)
  · replace hf := if_f h_ hf
    refine lv_aload_n hx hb dX13_fewest_34 rfl (lv_at hl 0 rfl) ?_
    refine lv_aload_n hx hb dX13_fewest_35 rfl (lv_at hl 0 rfl) ?_
    refine g_Md_now X hI has_Md.l (X.fl w_1598) dX13_fewest_36 ?_
    refine lv_iload_n hx hb dX13_fewest_39 rfl (lv_at hl 1 rfl) ?_
    obtain ⟨r_3, md_4, hc_, hf⟩ := bd2_some hf
    refine call_Vi X hI (Cj.keep (Cj.keep Cj.id)) (c_X13_fewestFrom l g a_md a_tn q_md_read md_1 tn (Md_now md_1) p1 r_3 md_4 hc_) ⟨rfl, rfl⟩ ⟨ht _ w_2154, w_2157, ht _ w_155, lk_X13_fewestFrom⟩ w_2156 w_111 rfl rfl rfl hl rfl rfl dX13_fewest_40 rfl rfl rfl rfl (fun H locs hI => ?_)
    refine lv_istore_n (lv' := [(2, .int r_3), (0, .ref (a_md 0)), (1, .int p1)]) hx hb dX13_fewest_43 rfl hl (by decide) rfl (fun ls hl => ?_)
    refine lv_iload_n hx hb dX13_fewest_44 rfl (lv_at hl 0 rfl) ?_
    refine lv_bipush (v := (-9)) hx hb dX13_fewest_45 (by decide) ?_
    refine lv_icmp_ne (tgt := 58) hx hb dX13_fewest_47 (by decide) (fun h_ => ?_) (fun h_ => ?_)
    · replace hf := if_f h_ hf
      refine lv_aload_n hx hb dX13_fewest_58 rfl (lv_at hl 1 rfl) ?_
      refine lv_iload_n hx hb dX13_fewest_59 rfl (lv_at hl 0 rfl) ?_
      obtain ⟨r_5, md_6, hc_, hf⟩ := bd2_some hf
      refine call_Vi X hI (Cj.keep Cj.nil) (c_X13_good l g a_md (some (a_tn 0)) q_md_read md_4 r_3 r_5 md_6 hc_) ⟨rfl, rfl⟩ ⟨ht _ w_1998, w_2001, ht _ w_155, lk_X13_good⟩ w_2000 w_92 rfl rfl rfl hl rfl rfl dX13_fewest_60 rfl rfl rfl rfl (fun H locs hI => ?_)
      cases hf
      exact end_i hQ hA X hI dX13_fewest_63
    · replace hf := if_t h_ hf
      refine lv_aload_n hx hb dX13_fewest_50 rfl (lv_at hl 1 rfl) ?_
      refine lv_iconst (v := 3) hx hb dX13_fewest_51 (by decide) ?_
      obtain ⟨r_7, md_8, hc_, hf⟩ := bd2_some hf
      refine call_Vi X hI (Cj.keep Cj.nil) (c_X13_refused l g a_md (some (a_tn 0)) q_md_read md_4 (3 : Int32) r_7 md_8 hc_) ⟨rfl, rfl⟩ ⟨ht _ w_1719, w_1722, ht _ w_155, lk_X13_refused⟩ w_1721 w_65 rfl rfl rfl hl rfl rfl dX13_fewest_52 rfl rfl rfl rfl (fun H locs hI => ?_)
      refine lv_goto (tgt := 63) hx hb dX13_fewest_55 (by decide) ?_
      cases hf
      exact end_i hQ hA X hI dX13_fewest_63
  · replace hf := if_t h_ hf
    refine lv_aload_n hx hb dX13_fewest_28 rfl (lv_at hl 0 rfl) ?_
    refine lv_iconst (v := 2) hx hb dX13_fewest_29 (by decide) ?_
    obtain ⟨r_9, md_10, hc_, hf⟩ := bd2_some hf
    refine call_Vi X hI (Cj.keep Cj.nil) (c_X13_refused l g a_md (some (a_tn 0)) q_md_read md_1 (2 : Int32) r_9 md_10 hc_) ⟨rfl, rfl⟩ ⟨ht _ w_1719, w_1722, ht _ w_155, lk_X13_refused⟩ w_1721 w_65 rfl rfl rfl hl rfl rfl dX13_fewest_30 rfl rfl rfl rfl (fun H locs hI => ?_)
    cases hf
    exact end_i hQ hA X hI dX13_fewest_33
abbrev rm_X13_next : Room := { frames := 7, cells := 0, slots := 0, locals := 161 }
set_option maxRecDepth 20000 in
theorem c_X13_next (l : Launch) (g : GT) (a_md : Nat → Nat) (a_tn : Nat → Nat) (q_md_read : Option Nat) (md : MdS) (tn : TnS) (p1 : Int32) (r_ : Int32) (o_md : MdS) (hf : f_X13_next md tn p1 = some (r_, o_md)) : CI l yX13_next cX13_next 4 (some .int) rm_X13_next g [.ref (a_md 0), .int p1] (wMd g a_md (some (a_tn 0)) q_md_read md ++ (wTn g a_tn tn ++ [])) (wMd g a_md (some (a_tn 0)) q_md_read o_md ++ (wTn g a_tn tn ++ [])) r_ := by
  refine start2 (y := yX13_next) (cc := cX13_next) (n := 4) (av := [.ref (a_md 0), .int p1]) (ws := (wMd g a_md (some (a_tn 0)) q_md_read md ++ (wTn g a_tn tn ++ []))) (Qc := fun sz => QI g (wMd g a_md (some (a_tn 0)) q_md_read md ++ (wTn g a_tn tn ++ [])) (wMd g a_md (some (a_tn 0)) q_md_read o_md ++ (wTn g a_tn tn ++ [])) r_ sz) (by decide) rfl ?_
  intro p e s m args below meth c ls Q A ha hQ hA X hl hI hin
  have X : Cx p s m args meth c cX13_next 4 RX13 (some .int) := X
  have hl : lv_has ls 4 [(0, .ref (a_md 0)), (1, .int p1)] := hl
  obtain ⟨hx, hb, hml, hown, ht, hr, hlk⟩ := id X
  clear ha hin
  have L_81 : ∀ (n_ : Nat) (x2 : Int32) (x3 : Int32) (md : MdS) (H : Heap) (locs : List Loc) (ls : Array Slot), lv_has ls 4 [(0, .ref (a_md 0)), (2, .int x2), (3, .int x3)] → In g A s.heap s (wMd g a_md (some (a_tn 0)) q_md_read md ++ (wTn g a_tn tn ++ [])) H locs → f_X13_next_L81 n_ x2 x3 md tn = some (r_, o_md) → W p l e rm_X13_next s m args below meth c H locs 0 0 Q (F0 m 81 ls []) := by
    intro n_
    induction n_ with
    | zero =>
      intro x2 x3 md H locs ls hl hI hf
      rw [f_X13_next_L81] at hf
      cases hf
    | succ n_ ih =>
      intro x2 x3 md H locs ls hl hI hf
      rw [f_X13_next_L81] at hf
      refine lv_iload_n hx hb dX13_next_81 rfl (lv_at hl 2 rfl) ?_
      refine lv_sipush (v := 2000) hx hb dX13_next_82 (by decide) ?_
      refine lv_icmp_ge (tgt := 133) hx hb dX13_next_85 (by decide) (fun h_ => ?_) (fun h_ => ?_)
      · replace hf := if_t h_ hf
        refine lv_aload_n hx hb dX13_next_133 rfl (lv_at hl 0 rfl) ?_
        refine lv_bipush (v := (-2)) hx hb dX13_next_134 (by decide) ?_
        obtain ⟨r_13, md_14, hc_, hf⟩ := bd2_some hf
        refine call_Vi X hI (Cj.keep Cj.nil) (c_X13_good l g a_md (some (a_tn 0)) q_md_read md (-2 : Int32) r_13 md_14 hc_) ⟨rfl, rfl⟩ ⟨ht _ w_1998, w_2001, ht _ w_155, lk_X13_good⟩ w_2000 w_92 rfl rfl rfl hl rfl rfl dX13_next_136 rfl rfl rfl rfl (fun H locs hI => ?_)
        cases hf
        exact end_i hQ hA X hI dX13_next_139
      · replace hf := if_f h_ hf
        refine lv_aload_n hx hb dX13_next_88 rfl (lv_at hl 0 rfl) ?_
        refine lv_aload_n hx hb dX13_next_89 rfl (lv_at hl 0 rfl) ?_
        refine lv_aload_n hx hb dX13_next_90 rfl (lv_at hl 0 rfl) ?_
        refine g_Md_now X hI has_Md.l (X.fl w_1598) dX13_next_91 ?_
        refine lv_iload_n hx hb dX13_next_94 rfl (lv_at hl 2 rfl) ?_
        obtain ⟨r_15, hc_, hf⟩ := bd1_some hf
        refine call_Vl X hI (Cj.keep Cj.nil) (c_X13_behind l g a_md (some (a_tn 0)) q_md_read md (Md_now md) x3 r_15 hc_) ⟨rfl, rfl⟩ ⟨ht _ w_2168, w_2171, ht _ w_155, lk_X13_behind⟩ w_2170 w_114 rfl rfl rfl hl rfl rfl dX13_next_95 rfl rfl rfl rfl (fun H locs hI => ?_)
        refine lv_iload_n hx hb dX13_next_98 rfl (lv_at hl 1 rfl) ?_
        refine lv_iconst (v := 1) hx hb dX13_next_99 (by decide) ?_
        refine lv_isub hx hb dX13_next_100 ?_
        obtain ⟨r_16, md_17, hc_, hf⟩ := bd2_some hf
        refine call_Vi X hI (Cj.keep (Cj.keep Cj.id)) (c_X13_fewestFrom l g a_md a_tn q_md_read md tn r_15 (x2 - (1 : Int32)) r_16 md_17 hc_) ⟨rfl, rfl⟩ ⟨ht _ w_2154, w_2157, ht _ w_155, lk_X13_fewestFrom⟩ w_2156 w_111 rfl rfl rfl hl rfl rfl dX13_next_101 rfl rfl rfl rfl (fun H locs hI => ?_)
        refine lv_iload_n hx hb dX13_next_104 rfl (lv_at hl 1 rfl) ?_
        refine lv_iconst (v := 1) hx hb dX13_next_105 (by decide) ?_
        refine lv_isub hx hb dX13_next_106 ?_
        refine lv_icmp_ne (tgt := 116) hx hb dX13_next_107 (by decide) (fun h_ => ?_) (fun h_ => ?_)
        · replace hf := if_f h_ hf
          refine lv_aload_n hx hb dX13_next_116 rfl (lv_at hl 0 rfl) ?_
          refine lv_aload_n hx hb dX13_next_117 rfl (lv_at hl 0 rfl) ?_
          refine g_Md_now X hI has_Md.l (X.fl w_1598) dX13_next_118 ?_
          obtain ⟨md_18, hc_, hf⟩ := bd1_some hf
          refine call_Vv X hI (Cj.keep (Cj.keep Cj.id)) (c_X13_looks l g a_md a_tn q_md_read md_17 tn (Md_now md_17) md_18 hc_) ⟨rfl, rfl⟩ ⟨ht _ w_2071, w_2074, ht _ w_155, lk_X13_looks⟩ w_2073 w_99 rfl rfl rfl hl rfl rfl dX13_next_121 rfl rfl rfl rfl (fun H locs hI => ?_)
          refine lv_aload_n hx hb dX13_next_124 rfl (lv_at hl 0 rfl) ?_
          refine lv_iload_n hx hb dX13_next_125 rfl (lv_at hl 2 rfl) ?_
          obtain ⟨r_19, hc_, hf⟩ := bd1_some hf
          refine call_Vi X hI (Cj.keep (Cj.keep Cj.id)) (c_X13_nextMay l g a_md a_tn q_md_read md_18 tn x3 r_19 hc_) ⟨rfl, rfl⟩ ⟨ht _ w_2138, w_2141, ht _ w_155, lk_X13_nextMay⟩ w_2140 w_109 rfl rfl rfl hl rfl rfl dX13_next_126 rfl rfl rfl rfl (fun H locs hI => ?_)
          refine lv_istore_n (lv' := [(3, .int r_19), (0, .ref (a_md 0)), (2, .int x2)]) hx hb dX13_next_129 rfl hl (by decide) rfl (fun ls hl => ?_)
          refine lv_goto (tgt := 81) hx hb dX13_next_130 (by decide) ?_
          exact ih x2 r_19 md_18 _ _ _ (lv_sub hl [1, 2, 0] rfl) hI hf
        · replace hf := if_t h_ hf
          refine lv_aload_n hx hb dX13_next_110 rfl (lv_at hl 0 rfl) ?_
          refine lv_iload_n hx hb dX13_next_111 rfl (lv_at hl 2 rfl) ?_
          obtain ⟨r_20, md_21, hc_, hf⟩ := bd2_some hf
          refine call_Vi X hI (Cj.keep Cj.nil) (c_X13_good l g a_md (some (a_tn 0)) q_md_read md_17 x3 r_20 md_21 hc_) ⟨rfl, rfl⟩ ⟨ht _ w_1998, w_2001, ht _ w_155, lk_X13_good⟩ w_2000 w_92 rfl rfl rfl hl rfl rfl dX13_next_112 rfl rfl rfl rfl (fun H locs hI => ?_)
          cases hf
          exact end_i hQ hA X hI dX13_next_115
  unfold f_X13_next at hf
  refine lv_aload_n hx hb dX13_next_0 rfl (lv_at hl 0 rfl) ?_
  refine lv_iconst (v := 0) hx hb dX13_next_1 (by decide) ?_
  refine p_Md_thrown X hI up_Md_thrown.l (X.fl w_1583) dX13_next_2 (fun H locs hI => ?_)
  generalize hz_ : (Md_thrown' md (0 : Int32)) = md_1 at hI hf
  clear hz_
  replace hf := lt_e hf
  refine lv_aload_n hx hb dX13_next_5 rfl (lv_at hl 0 rfl) ?_
  refine g_Md_tangle_S X hI has_Md.l (X.fl w_1586) dX13_next_6 ?_
  refine lv_ifnonnull (tgt := 18) hx hb dX13_next_9 (by decide) ?_
  refine lv_iload_n hx hb dX13_next_18 rfl (lv_at hl 1 rfl) ?_
  refine lv_iconst (v := 1) hx hb dX13_next_19 (by decide) ?_
  refine lv_bipush (v := 8) hx hb dX13_next_20 (by decide) ?_
  obtain ⟨r_2, hc_, hf⟩ := bd1_some hf
  refine call_Si X hI Cj.nil (c_X13_in l g p1 (1 : Int32) (8 : Int32) r_2 hc_) ⟨rfl, rfl⟩ ⟨ht _ w_1910, w_1912, ht _ w_155, lk_X13_in⟩ w_1911 rfl hl rfl rfl dX13_next_22 rfl rfl rfl rfl (fun H locs hI => ?_)
  refine lv_if_ne (tgt := 34) hx hb dX13_next_25 (by decide) (fun h_ => ?_) (fun h_ => ?_)
  · replace hf := if_f h_ hf
    refine lv_aload_n hx hb dX13_next_34 rfl (lv_at hl 0 rfl) ?_
    refine lv_aload_n hx hb dX13_next_35 rfl (lv_at hl 0 rfl) ?_
    refine g_Md_now X hI has_Md.l (X.fl w_1598) dX13_next_36 ?_
    refine lv_iload_n hx hb dX13_next_39 rfl (lv_at hl 1 rfl) ?_
    obtain ⟨r_3, md_4, hc_, hf⟩ := bd2_some hf
    refine call_Vi X hI (Cj.keep (Cj.keep Cj.id)) (c_X13_fewestFrom l g a_md a_tn q_md_read md_1 tn (Md_now md_1) p1 r_3 md_4 hc_) ⟨rfl, rfl⟩ ⟨ht _ w_2154, w_2157, ht _ w_155, lk_X13_fewestFrom⟩ w_2156 w_111 rfl rfl rfl hl rfl rfl dX13_next_40 rfl rfl rfl rfl (fun H locs hI => ?_)
    refine lv_istore_n (lv' := [(2, .int r_3), (0, .ref (a_md 0)), (1, .int p1)]) hx hb dX13_next_43 rfl hl (by decide) rfl (fun ls hl => ?_)
    refine lv_iload_n hx hb dX13_next_44 rfl (lv_at hl 0 rfl) ?_
    refine lv_bipush (v := (-9)) hx hb dX13_next_45 (by decide) ?_
    refine lv_icmp_ne (tgt := 56) hx hb dX13_next_47 (by decide) (fun h_ => ?_) (fun h_ => ?_)
    · replace hf := if_f h_ hf
      refine lv_iload_n hx hb dX13_next_56 rfl (lv_at hl 0 rfl) ?_
      refine lv_if_gt (tgt := 67) hx hb dX13_next_57 (by decide) (fun h_ => ?_) (fun h_ => ?_)
      · replace hf := if_t h_ hf
        refine lv_aload_n hx hb dX13_next_67 rfl (lv_at hl 1 rfl) ?_
        refine lv_aload_n hx hb dX13_next_68 rfl (lv_at hl 1 rfl) ?_
        refine g_Md_now X hI has_Md.l (X.fl w_1598) dX13_next_69 ?_
        obtain ⟨md_5, hc_, hf⟩ := bd1_some hf
        refine call_Vv X hI (Cj.keep (Cj.keep Cj.id)) (c_X13_looks l g a_md a_tn q_md_read md_4 tn (Md_now md_4) md_5 hc_) ⟨rfl, rfl⟩ ⟨ht _ w_2071, w_2074, ht _ w_155, lk_X13_looks⟩ w_2073 w_99 rfl rfl rfl hl rfl rfl dX13_next_72 rfl rfl rfl rfl (fun H locs hI => ?_)
        refine lv_aload_n hx hb dX13_next_75 rfl (lv_at hl 1 rfl) ?_
        refine lv_iconst (v := (-1)) hx hb dX13_next_76 (by decide) ?_
        obtain ⟨r_6, hc_, hf⟩ := bd1_some hf
        refine call_Vi X hI (Cj.keep (Cj.keep Cj.id)) (c_X13_nextMay l g a_md a_tn q_md_read md_5 tn (-1 : Int32) r_6 hc_) ⟨rfl, rfl⟩ ⟨ht _ w_2138, w_2141, ht _ w_155, lk_X13_nextMay⟩ w_2140 w_109 rfl rfl rfl hl rfl rfl dX13_next_77 rfl rfl rfl rfl (fun H locs hI => ?_)
        refine lv_istore_n (lv' := [(3, .int r_6), (2, .int r_3), (0, .ref (a_md 0)), (1, .int p1)]) hx hb dX13_next_80 rfl hl (by decide) rfl (fun ls hl => ?_)
        exact L_81 FU r_3 r_6 md_5 _ _ _ (lv_sub hl [2, 1, 0] rfl) hI hf
      · replace hf := if_f h_ hf
        refine lv_aload_n hx hb dX13_next_60 rfl (lv_at hl 1 rfl) ?_
        refine lv_bipush (v := (-2)) hx hb dX13_next_61 (by decide) ?_
        obtain ⟨r_7, md_8, hc_, hf⟩ := bd2_some hf
        refine call_Vi X hI (Cj.keep Cj.nil) (c_X13_good l g a_md (some (a_tn 0)) q_md_read md_4 (-2 : Int32) r_7 md_8 hc_) ⟨rfl, rfl⟩ ⟨ht _ w_1998, w_2001, ht _ w_155, lk_X13_good⟩ w_2000 w_92 rfl rfl rfl hl rfl rfl dX13_next_63 rfl rfl rfl rfl (fun H locs hI => ?_)
        cases hf
        exact end_i hQ hA X hI dX13_next_66
    · replace hf := if_t h_ hf
      refine lv_aload_n hx hb dX13_next_50 rfl (lv_at hl 1 rfl) ?_
      refine lv_iconst (v := 3) hx hb dX13_next_51 (by decide) ?_
      obtain ⟨r_9, md_10, hc_, hf⟩ := bd2_some hf
      refine call_Vi X hI (Cj.keep Cj.nil) (c_X13_refused l g a_md (some (a_tn 0)) q_md_read md_4 (3 : Int32) r_9 md_10 hc_) ⟨rfl, rfl⟩ ⟨ht _ w_1719, w_1722, ht _ w_155, lk_X13_refused⟩ w_1721 w_65 rfl rfl rfl hl rfl rfl dX13_next_52 rfl rfl rfl rfl (fun H locs hI => ?_)
      cases hf
      exact end_i hQ hA X hI dX13_next_55
  · replace hf := if_t h_ hf
    refine lv_aload_n hx hb dX13_next_28 rfl (lv_at hl 0 rfl) ?_
    refine lv_iconst (v := 2) hx hb dX13_next_29 (by decide) ?_
    obtain ⟨r_11, md_12, hc_, hf⟩ := bd2_some hf
    refine call_Vi X hI (Cj.keep Cj.nil) (c_X13_refused l g a_md (some (a_tn 0)) q_md_read md_1 (2 : Int32) r_11 md_12 hc_) ⟨rfl, rfl⟩ ⟨ht _ w_1719, w_1722, ht _ w_155, lk_X13_refused⟩ w_1721 w_65 rfl rfl rfl hl rfl rfl dX13_next_30 rfl rfl rfl rfl (fun H locs hI => ?_)
    cases hf
    exact end_i hQ hA X hI dX13_next_33
abbrev rm_X13_leastBehind : Room := { frames := 5, cells := 0, slots := 0, locals := 111 }
set_option maxRecDepth 20000 in
theorem c_X13_leastBehind (l : Launch) (g : GT) (a_md : Nat → Nat) (a_tn : Nat → Nat) (q_md_read : Option Nat) (md : MdS) (tn : TnS) (p1 : Int64) (r_ : Int32) (o_md : MdS) (hf : f_X13_leastBehind md tn p1 = some (r_, o_md)) : CI l yX13_leastBehind cX13_leastBehind 6 (some .int) rm_X13_leastBehind g [.ref (a_md 0), .long p1] (wMd g a_md (some (a_tn 0)) q_md_read md ++ (wTn g a_tn tn ++ [])) (wMd g a_md (some (a_tn 0)) q_md_read o_md ++ (wTn g a_tn tn ++ [])) r_ := by
  refine start2 (y := yX13_leastBehind) (cc := cX13_leastBehind) (n := 6) (av := [.ref (a_md 0), .long p1]) (ws := (wMd g a_md (some (a_tn 0)) q_md_read md ++ (wTn g a_tn tn ++ []))) (Qc := fun sz => QI g (wMd g a_md (some (a_tn 0)) q_md_read md ++ (wTn g a_tn tn ++ [])) (wMd g a_md (some (a_tn 0)) q_md_read o_md ++ (wTn g a_tn tn ++ [])) r_ sz) (by decide) rfl ?_
  intro p e s m args below meth c ls Q A ha hQ hA X hl hI hin
  have X : Cx p s m args meth c cX13_leastBehind 6 RX13 (some .int) := X
  have hl : lv_has ls 6 [(0, .ref (a_md 0)), (1, .long p1)] := hl
  obtain ⟨hx, hb, hml, hown, ht, hr, hlk⟩ := id X
  clear ha hin
  have L_51 : ∀ (x1 : Int64) (x4 : Int32) (t0i : Int32) (md : MdS) (k18 : (Int64) → (Int32) → (Int32) → (MdS) → (TnS) → Option (Int32 × (MdS))) (H : Heap) (locs : List Loc) (ls : Array Slot), lv_has ls 6 [(0, .ref (a_md 0)), (1, .long x1), (4, .int x4)] → In g A s.heap s (wMd g a_md (some (a_tn 0)) q_md_read md ++ (wTn g a_tn tn ++ [])) H locs → f_X13_leastBehind_L51 x1 x4 t0i md tn k18 = some (r_, o_md) → (∀ (x1 : Int64) (x3 : Int32) (x4 : Int32) (md : MdS) (H : Heap) (locs : List Loc) (ls : Array Slot), lv_has ls 6 [(0, .ref (a_md 0)), (1, .long x1), (3, .int x3), (4, .int x4)] → In g A s.heap s (wMd g a_md (some (a_tn 0)) q_md_read md ++ (wTn g a_tn tn ++ [])) H locs → k18 x1 x3 x4 md tn = some (r_, o_md) → W p l e rm_X13_leastBehind s m args below meth c H locs 0 0 Q (F0 m 18 ls [])) → W p l e rm_X13_leastBehind s m args below meth c H locs 0 0 Q (F0 m 51 ls [.int t0i]) := by
    intro x1 x4 t0i md k18 H locs ls hl hI hf hk18
    unfold f_X13_leastBehind_L51 at hf
    refine lv_istore_n (lv' := [(3, .int t0i), (0, .ref (a_md 0)), (1, .long x1), (4, .int x4)]) hx hb dX13_leastBehind_51 rfl hl (by decide) rfl (fun ls hl => ?_)
    refine lv_aload_n hx hb dX13_leastBehind_52 rfl (lv_at hl 1 rfl) ?_
    refine lv_iload hx hb dX13_leastBehind_53 (lv_at hl 3 rfl) ?_
    obtain ⟨r_6, hc_, hf⟩ := bd1_some hf
    refine call_Vi X hI (Cj.keep (Cj.keep Cj.id)) (c_X13_nextMay l g a_md a_tn q_md_read md tn x4 r_6 hc_) ⟨rfl, rfl⟩ ⟨ht _ w_2138, w_2141, ht _ w_155, lk_X13_nextMay⟩ w_2140 w_109 rfl rfl rfl hl rfl rfl dX13_leastBehind_55 rfl rfl rfl rfl (fun H locs hI => ?_)
    refine lv_istore (lv' := [(4, .int r_6), (3, .int t0i), (0, .ref (a_md 0)), (1, .long x1)]) hx hb dX13_leastBehind_58 hl (by decide) rfl (fun ls hl => ?_)
    refine lv_goto (tgt := 18) hx hb dX13_leastBehind_60 (by decide) ?_
    exact hk18 x1 t0i r_6 md _ _ _ (lv_sub hl [2, 3, 1, 0] rfl) hI hf
  have L_18 : ∀ (n_ : Nat) (x1 : Int64) (x3 : Int32) (x4 : Int32) (md : MdS) (H : Heap) (locs : List Loc) (ls : Array Slot), lv_has ls 6 [(0, .ref (a_md 0)), (1, .long x1), (3, .int x3), (4, .int x4)] → In g A s.heap s (wMd g a_md (some (a_tn 0)) q_md_read md ++ (wTn g a_tn tn ++ [])) H locs → f_X13_leastBehind_L18 n_ x1 x3 x4 md tn = some (r_, o_md) → W p l e rm_X13_leastBehind s m args below meth c H locs 0 0 Q (F0 m 18 ls []) := by
    intro n_
    induction n_ with
    | zero =>
      intro x1 x3 x4 md H locs ls hl hI hf
      rw [f_X13_leastBehind_L18] at hf
      cases hf
    | succ n_ ih =>
      intro x1 x3 x4 md H locs ls hl hI hf
      rw [f_X13_leastBehind_L18] at hf
      refine lv_iload hx hb dX13_leastBehind_18 (lv_at hl 3 rfl) ?_
      refine lv_sipush (v := 2000) hx hb dX13_leastBehind_20 (by decide) ?_
      refine lv_icmp_ge (tgt := 63) hx hb dX13_leastBehind_23 (by decide) (fun h_ => ?_) (fun h_ => ?_)
      · replace hf := if_t h_ hf
        refine lv_iload_n hx hb dX13_leastBehind_63 rfl (lv_at hl 2 rfl) ?_
        cases hf
        exact end_i hQ hA X hI dX13_leastBehind_64
      · replace hf := if_f h_ hf
        refine lv_aload_n hx hb dX13_leastBehind_26 rfl (lv_at hl 0 rfl) ?_
        refine lv_aload_n hx hb dX13_leastBehind_27 rfl (lv_at hl 0 rfl) ?_
        refine lv_lload_n hx hb dX13_leastBehind_28 rfl (lv_at hl 1 rfl) ?_
        refine lv_iload hx hb dX13_leastBehind_29 (lv_at hl 3 rfl) ?_
        obtain ⟨r_4, hc_, hf⟩ := bd1_some hf
        refine call_Vl X hI (Cj.keep Cj.nil) (c_X13_behind l g a_md (some (a_tn 0)) q_md_read md x1 x4 r_4 hc_) ⟨rfl, rfl⟩ ⟨ht _ w_2168, w_2171, ht _ w_155, lk_X13_behind⟩ w_2170 w_114 rfl rfl rfl hl rfl rfl dX13_leastBehind_31 rfl rfl rfl rfl (fun H locs hI => ?_)
        obtain ⟨r_5, hc_, hf⟩ := bd1_some hf
        refine call_Vi X hI (Cj.keep (Cj.keep Cj.id)) (c_X13_leftIn l g a_md a_tn q_md_read md tn r_4 r_5 hc_) ⟨rfl, rfl⟩ ⟨ht _ w_2095, w_2098, ht _ w_155, lk_X13_leftIn⟩ w_2097 w_103 rfl rfl rfl hl rfl rfl dX13_leastBehind_34 rfl rfl rfl rfl (fun H locs hI => ?_)
        refine lv_istore (lv' := [(5, .int r_5), (0, .ref (a_md 0)), (1, .long x1), (3, .int x3), (4, .int x4)]) hx hb dX13_leastBehind_37 hl (by decide) rfl (fun ls hl => ?_)
        refine lv_iload hx hb dX13_leastBehind_39 (lv_at hl 0 rfl) ?_
        refine lv_iload_n hx hb dX13_leastBehind_41 rfl (lv_at hl 3 rfl) ?_
        refine lv_icmp_ge (tgt := 50) hx hb dX13_leastBehind_42 (by decide) (fun h_ => ?_) (fun h_ => ?_)
        · replace hf := if_t h_ hf
          refine lv_iload_n hx hb dX13_leastBehind_50 rfl (lv_at hl 3 rfl) ?_
          exact L_51 x1 x4 x3 md _ _ _ _ (lv_sub hl [1, 2, 4] rfl) hI hf (fun z_0 z_1 z_2 z_3 _ _ _ hl hI hf => ih z_0 z_1 z_2 z_3 _ _ _ hl hI hf)
        · replace hf := if_f h_ hf
          refine lv_iload hx hb dX13_leastBehind_45 (lv_at hl 0 rfl) ?_
          refine lv_goto (tgt := 51) hx hb dX13_leastBehind_47 (by decide) ?_
          exact L_51 x1 x4 r_5 md _ _ _ _ (lv_sub hl [1, 2, 4] rfl) hI hf (fun z_0 z_1 z_2 z_3 _ _ _ hl hI hf => ih z_0 z_1 z_2 z_3 _ _ _ hl hI hf)
  unfold f_X13_leastBehind at hf
  refine lv_aload_n hx hb dX13_leastBehind_0 rfl (lv_at hl 0 rfl) ?_
  refine lv_lload_n hx hb dX13_leastBehind_1 rfl (lv_at hl 1 rfl) ?_
  obtain ⟨r_1, hc_, hf⟩ := bd1_some hf
  refine call_Vi X hI (Cj.keep (Cj.keep Cj.id)) (c_X13_leftIn l g a_md a_tn q_md_read md tn p1 r_1 hc_) ⟨rfl, rfl⟩ ⟨ht _ w_2095, w_2098, ht _ w_155, lk_X13_leftIn⟩ w_2097 w_103 rfl rfl rfl hl rfl rfl dX13_leastBehind_2 rfl rfl rfl rfl (fun H locs hI => ?_)
  refine lv_istore_n (lv' := [(3, .int r_1), (0, .ref (a_md 0)), (1, .long p1)]) hx hb dX13_leastBehind_5 rfl hl (by decide) rfl (fun ls hl => ?_)
  refine lv_aload_n hx hb dX13_leastBehind_6 rfl (lv_at hl 1 rfl) ?_
  refine lv_lload_n hx hb dX13_leastBehind_7 rfl (lv_at hl 2 rfl) ?_
  obtain ⟨md_2, hc_, hf⟩ := bd1_some hf
  refine call_Vv X hI (Cj.keep (Cj.keep Cj.id)) (c_X13_looks l g a_md a_tn q_md_read md tn p1 md_2 hc_) ⟨rfl, rfl⟩ ⟨ht _ w_2071, w_2074, ht _ w_155, lk_X13_looks⟩ w_2073 w_99 rfl rfl rfl hl rfl rfl dX13_leastBehind_8 rfl rfl rfl rfl (fun H locs hI => ?_)
  refine lv_aload_n hx hb dX13_leastBehind_11 rfl (lv_at hl 1 rfl) ?_
  refine lv_iconst (v := (-1)) hx hb dX13_leastBehind_12 (by decide) ?_
  obtain ⟨r_3, hc_, hf⟩ := bd1_some hf
  refine call_Vi X hI (Cj.keep (Cj.keep Cj.id)) (c_X13_nextMay l g a_md a_tn q_md_read md_2 tn (-1 : Int32) r_3 hc_) ⟨rfl, rfl⟩ ⟨ht _ w_2138, w_2141, ht _ w_155, lk_X13_nextMay⟩ w_2140 w_109 rfl rfl rfl hl rfl rfl dX13_leastBehind_13 rfl rfl rfl rfl (fun H locs hI => ?_)
  refine lv_istore (lv' := [(4, .int r_3), (3, .int r_1), (0, .ref (a_md 0)), (1, .long p1)]) hx hb dX13_leastBehind_16 hl (by decide) rfl (fun ls hl => ?_)
  exact L_18 FU p1 r_1 r_3 md_2 _ _ _ (lv_sub hl [2, 3, 1, 0] rfl) hI hf
abbrev rm_X13_callerNow : Room := { frames := 6, cells := 0, slots := 0, locals := 136 }
set_option maxRecDepth 20000 in
theorem c_X13_callerNow (l : Launch) (g : GT) (a_md : Nat → Nat) (a_tn : Nat → Nat) (q_md_read : Option Nat) (md : MdS) (tn : TnS) (r_ : Int32) (o_md : MdS) (hf : f_X13_callerNow md tn = some (r_, o_md)) : CI l yX13_callerNow cX13_callerNow 5 (some .int) rm_X13_callerNow g [.ref (a_md 0)] (wMd g a_md (some (a_tn 0)) q_md_read md ++ (wTn g a_tn tn ++ [])) (wMd g a_md (some (a_tn 0)) q_md_read o_md ++ (wTn g a_tn tn ++ [])) r_ := by
  refine start2 (y := yX13_callerNow) (cc := cX13_callerNow) (n := 5) (av := [.ref (a_md 0)]) (ws := (wMd g a_md (some (a_tn 0)) q_md_read md ++ (wTn g a_tn tn ++ []))) (Qc := fun sz => QI g (wMd g a_md (some (a_tn 0)) q_md_read md ++ (wTn g a_tn tn ++ [])) (wMd g a_md (some (a_tn 0)) q_md_read o_md ++ (wTn g a_tn tn ++ [])) r_ sz) (by decide) rfl ?_
  intro p e s m args below meth c ls Q A ha hQ hA X hl hI hin
  have X : Cx p s m args meth c cX13_callerNow 5 RX13 (some .int) := X
  have hl : lv_has ls 5 [(0, .ref (a_md 0))] := hl
  obtain ⟨hx, hb, hml, hown, ht, hr, hlk⟩ := id X
  clear ha hin
  have L_69 : ∀ (x1 : Int32) (x2 : Int32) (x3 : Int32) (md : MdS) (k19 : (Int32) → (Int32) → (Int32) → (MdS) → (TnS) → Option (Int32 × (MdS))) (H : Heap) (locs : List Loc) (ls : Array Slot), lv_has ls 5 [(0, .ref (a_md 0)), (1, .int x1), (2, .int x2), (3, .int x3)] → In g A s.heap s (wMd g a_md (some (a_tn 0)) q_md_read md ++ (wTn g a_tn tn ++ [])) H locs → f_X13_callerNow_L69 x1 x2 x3 md tn k19 = some (r_, o_md) → (∀ (x1 : Int32) (x2 : Int32) (x3 : Int32) (md : MdS) (H : Heap) (locs : List Loc) (ls : Array Slot), lv_has ls 5 [(0, .ref (a_md 0)), (1, .int x1), (2, .int x2), (3, .int x3)] → In g A s.heap s (wMd g a_md (some (a_tn 0)) q_md_read md ++ (wTn g a_tn tn ++ [])) H locs → k19 x1 x2 x3 md tn = some (r_, o_md) → W p l e rm_X13_callerNow s m args below meth c H locs 0 0 Q (F0 m 19 ls [])) → W p l e rm_X13_callerNow s m args below meth c H locs 0 0 Q (F0 m 69 ls []) := by
    intro x1 x2 x3 md k19 H locs ls hl hI hf hk19
    unfold f_X13_callerNow_L69 at hf
    refine lv_aload_n hx hb dX13_callerNow_69 rfl (lv_at hl 0 rfl) ?_
    refine lv_iload_n hx hb dX13_callerNow_70 rfl (lv_at hl 3 rfl) ?_
    obtain ⟨r_7, hc_, hf⟩ := bd1_some hf
    refine call_Vi X hI (Cj.keep (Cj.keep Cj.id)) (c_X13_nextMay l g a_md a_tn q_md_read md tn x3 r_7 hc_) ⟨rfl, rfl⟩ ⟨ht _ w_2138, w_2141, ht _ w_155, lk_X13_nextMay⟩ w_2140 w_109 rfl rfl rfl hl rfl rfl dX13_callerNow_71 rfl rfl rfl rfl (fun H locs hI => ?_)
    refine lv_istore_n (lv' := [(3, .int r_7), (0, .ref (a_md 0)), (1, .int x1), (2, .int x2)]) hx hb dX13_callerNow_74 rfl hl (by decide) rfl (fun ls hl => ?_)
    refine lv_goto (tgt := 19) hx hb dX13_callerNow_75 (by decide) ?_
    exact hk19 x1 x2 r_7 md _ _ _ (lv_sub hl [1, 2, 3, 0] rfl) hI hf
  have L_64 : ∀ (x3 : Int32) (x4 : Int32) (md : MdS) (k19 : (Int32) → (Int32) → (Int32) → (MdS) → (TnS) → Option (Int32 × (MdS))) (H : Heap) (locs : List Loc) (ls : Array Slot), lv_has ls 5 [(0, .ref (a_md 0)), (3, .int x3), (4, .int x4)] → In g A s.heap s (wMd g a_md (some (a_tn 0)) q_md_read md ++ (wTn g a_tn tn ++ [])) H locs → f_X13_callerNow_L64 x3 x4 md tn k19 = some (r_, o_md) → (∀ (x1 : Int32) (x2 : Int32) (x3 : Int32) (md : MdS) (H : Heap) (locs : List Loc) (ls : Array Slot), lv_has ls 5 [(0, .ref (a_md 0)), (1, .int x1), (2, .int x2), (3, .int x3)] → In g A s.heap s (wMd g a_md (some (a_tn 0)) q_md_read md ++ (wTn g a_tn tn ++ [])) H locs → k19 x1 x2 x3 md tn = some (r_, o_md) → W p l e rm_X13_callerNow s m args below meth c H locs 0 0 Q (F0 m 19 ls [])) → W p l e rm_X13_callerNow s m args below meth c H locs 0 0 Q (F0 m 64 ls []) := by
    intro x3 x4 md k19 H locs ls hl hI hf hk19
    unfold f_X13_callerNow_L64 at hf
    refine lv_iload_n hx hb dX13_callerNow_64 rfl (lv_at hl 1 rfl) ?_
    refine lv_istore_n (lv' := [(1, .int x3), (0, .ref (a_md 0)), (3, .int x3), (4, .int x4)]) hx hb dX13_callerNow_65 rfl hl (by decide) rfl (fun ls hl => ?_)
    refine lv_iload hx hb dX13_callerNow_66 (lv_at hl 3 rfl) ?_
    refine lv_istore_n (lv' := [(2, .int x4), (1, .int x3), (0, .ref (a_md 0)), (3, .int x3), (4, .int x4)]) hx hb dX13_callerNow_68 rfl hl (by decide) rfl (fun ls hl => ?_)
    exact L_69 x3 x4 x3 md _ _ _ _ (lv_sub hl [2, 1, 0, 3] rfl) hI hf hk19
  have L_19 : ∀ (n_ : Nat) (x1 : Int32) (x2 : Int32) (x3 : Int32) (md : MdS) (H : Heap) (locs : List Loc) (ls : Array Slot), lv_has ls 5 [(0, .ref (a_md 0)), (1, .int x1), (2, .int x2), (3, .int x3)] → In g A s.heap s (wMd g a_md (some (a_tn 0)) q_md_read md ++ (wTn g a_tn tn ++ [])) H locs → f_X13_callerNow_L19 n_ x1 x2 x3 md tn = some (r_, o_md) → W p l e rm_X13_callerNow s m args below meth c H locs 0 0 Q (F0 m 19 ls []) := by
    intro n_
    induction n_ with
    | zero =>
      intro x1 x2 x3 md H locs ls hl hI hf
      rw [f_X13_callerNow_L19] at hf
      cases hf
    | succ n_ ih =>
      intro x1 x2 x3 md H locs ls hl hI hf
      rw [f_X13_callerNow_L19] at hf
      refine lv_iload_n hx hb dX13_callerNow_19 rfl (lv_at hl 3 rfl) ?_
      refine lv_sipush (v := 2000) hx hb dX13_callerNow_20 (by decide) ?_
      refine lv_icmp_ge (tgt := 78) hx hb dX13_callerNow_23 (by decide) (fun h_ => ?_) (fun h_ => ?_)
      · replace hf := if_t h_ hf
        refine lv_iload_n hx hb dX13_callerNow_78 rfl (lv_at hl 1 rfl) ?_
        cases hf
        exact end_i hQ hA X hI dX13_callerNow_79
      · replace hf := if_f h_ hf
        refine lv_aload_n hx hb dX13_callerNow_26 rfl (lv_at hl 0 rfl) ?_
        refine lv_aload_n hx hb dX13_callerNow_27 rfl (lv_at hl 0 rfl) ?_
        refine lv_aload_n hx hb dX13_callerNow_28 rfl (lv_at hl 0 rfl) ?_
        refine g_Md_now X hI has_Md.l (X.fl w_1598) dX13_callerNow_29 ?_
        refine lv_iload_n hx hb dX13_callerNow_32 rfl (lv_at hl 3 rfl) ?_
        obtain ⟨r_3, hc_, hf⟩ := bd1_some hf
        refine call_Vl X hI (Cj.keep Cj.nil) (c_X13_behind l g a_md (some (a_tn 0)) q_md_read md (Md_now md) x3 r_3 hc_) ⟨rfl, rfl⟩ ⟨ht _ w_2168, w_2171, ht _ w_155, lk_X13_behind⟩ w_2170 w_114 rfl rfl rfl hl rfl rfl dX13_callerNow_33 rfl rfl rfl rfl (fun H locs hI => ?_)
        obtain ⟨r_4, md_5, hc_, hf⟩ := bd2_some hf
        refine call_Vi X hI (Cj.keep (Cj.keep Cj.id)) (c_X13_leastBehind l g a_md a_tn q_md_read md tn r_3 r_4 md_5 hc_) ⟨rfl, rfl⟩ ⟨ht _ w_2196, w_2199, ht _ w_155, lk_X13_leastBehind⟩ w_2198 w_118 rfl rfl rfl hl rfl rfl dX13_callerNow_36 rfl rfl rfl rfl (fun H locs hI => ?_)
        refine lv_istore (lv' := [(4, .int r_4), (0, .ref (a_md 0)), (1, .int x1), (2, .int x2), (3, .int x3)]) hx hb dX13_callerNow_39 hl (by decide) rfl (fun ls hl => ?_)
        refine lv_aload_n hx hb dX13_callerNow_41 rfl (lv_at hl 1 rfl) ?_
        refine lv_aload_n hx hb dX13_callerNow_42 rfl (lv_at hl 1 rfl) ?_
        refine g_Md_now X hI has_Md.l (X.fl w_1598) dX13_callerNow_43 ?_
        obtain ⟨md_6, hc_, hf⟩ := bd1_some hf
        refine call_Vv X hI (Cj.keep (Cj.keep Cj.id)) (c_X13_looks l g a_md a_tn q_md_read md_5 tn (Md_now md_5) md_6 hc_) ⟨rfl, rfl⟩ ⟨ht _ w_2071, w_2074, ht _ w_155, lk_X13_looks⟩ w_2073 w_99 rfl rfl rfl hl rfl rfl dX13_callerNow_46 rfl rfl rfl rfl (fun H locs hI => ?_)
        refine lv_iload_n hx hb dX13_callerNow_49 rfl (lv_at hl 2 rfl) ?_
        refine lv_bipush (v := (-2)) hx hb dX13_callerNow_50 (by decide) ?_
        refine lv_icmp_eq (tgt := 64) hx hb dX13_callerNow_52 (by decide) (fun h_ => ?_) (fun h_ => ?_)
        · replace hf := if_t h_ hf
          exact L_64 x3 r_4 md_6 _ _ _ _ (lv_sub hl [1, 4, 0] rfl) hI hf (fun z_0 z_1 z_2 z_3 _ _ _ hl hI hf => ih z_0 z_1 z_2 z_3 _ _ _ hl hI hf)
        · replace hf := if_f h_ hf
          refine lv_iload hx hb dX13_callerNow_55 (lv_at hl 0 rfl) ?_
          refine lv_iload_n hx hb dX13_callerNow_57 rfl (lv_at hl 3 rfl) ?_
          refine lv_icmp_lt (tgt := 64) hx hb dX13_callerNow_58 (by decide) (fun h_ => ?_) (fun h_ => ?_)
          · replace hf := if_t h_ hf
            exact L_64 x3 r_4 md_6 _ _ _ _ (lv_sub hl [1, 4, 0] rfl) hI hf (fun z_0 z_1 z_2 z_3 _ _ _ hl hI hf => ih z_0 z_1 z_2 z_3 _ _ _ hl hI hf)
          · replace hf := if_f h_ hf
            refine lv_goto (tgt := 69) hx hb dX13_callerNow_61 (by decide) ?_
            exact L_69 x1 x2 x3 md_6 _ _ _ _ (lv_sub hl [1, 2, 3, 4] rfl) hI hf (fun z_0 z_1 z_2 z_3 _ _ _ hl hI hf => ih z_0 z_1 z_2 z_3 _ _ _ hl hI hf)
  unfold f_X13_callerNow at hf
  refine lv_aload_n hx hb dX13_callerNow_0 rfl (lv_at hl 0 rfl) ?_
  refine lv_aload_n hx hb dX13_callerNow_1 rfl (lv_at hl 0 rfl) ?_
  refine g_Md_now X hI has_Md.l (X.fl w_1598) dX13_callerNow_2 ?_
  obtain ⟨md_1, hc_, hf⟩ := bd1_some hf
  refine call_Vv X hI (Cj.keep (Cj.keep Cj.id)) (c_X13_looks l g a_md a_tn q_md_read md tn (Md_now md) md_1 hc_) ⟨rfl, rfl⟩ ⟨ht _ w_2071, w_2074, ht _ w_155, lk_X13_looks⟩ w_2073 w_99 rfl rfl rfl hl rfl rfl dX13_callerNow_5 rfl rfl rfl rfl (fun H locs hI => ?_)
  refine lv_bipush (v := (-2)) hx hb dX13_callerNow_8 (by decide) ?_
  refine lv_istore_n (lv' := [(1, .int (-2 : Int32)), (0, .ref (a_md 0))]) hx hb dX13_callerNow_10 rfl hl (by decide) rfl (fun ls hl => ?_)
  refine lv_iconst (v := 0) hx hb dX13_callerNow_11 (by decide) ?_
  refine lv_istore_n (lv' := [(2, .int (0 : Int32)), (1, .int (-2 : Int32)), (0, .ref (a_md 0))]) hx hb dX13_callerNow_12 rfl hl (by decide) rfl (fun ls hl => ?_)
  refine lv_aload_n hx hb dX13_callerNow_13 rfl (lv_at hl 2 rfl) ?_
  refine lv_iconst (v := (-1)) hx hb dX13_callerNow_14 (by decide) ?_
  obtain ⟨r_2, hc_, hf⟩ := bd1_some hf
  refine call_Vi X hI (Cj.keep (Cj.keep Cj.id)) (c_X13_nextMay l g a_md a_tn q_md_read md_1 tn (-1 : Int32) r_2 hc_) ⟨rfl, rfl⟩ ⟨ht _ w_2138, w_2141, ht _ w_155, lk_X13_nextMay⟩ w_2140 w_109 rfl rfl rfl hl rfl rfl dX13_callerNow_15 rfl rfl rfl rfl (fun H locs hI => ?_)
  refine lv_istore_n (lv' := [(3, .int r_2), (2, .int (0 : Int32)), (1, .int (-2 : Int32)), (0, .ref (a_md 0))]) hx hb dX13_callerNow_18 rfl hl (by decide) rfl (fun ls hl => ?_)
  exact L_19 FU (-2 : Int32) (0 : Int32) r_2 md_1 _ _ _ (lv_sub hl [3, 2, 1, 0] rfl) hI hf
abbrev rm_X13_caller : Room := { frames := 7, cells := 0, slots := 0, locals := 160 }
set_option maxRecDepth 20000 in
theorem c_X13_caller (l : Launch) (g : GT) (a_md : Nat → Nat) (a_tn : Nat → Nat) (q_md_read : Option Nat) (md : MdS) (tn : TnS) (r_ : Int32) (o_md : MdS) (hf : f_X13_caller md tn = some (r_, o_md)) : CI l yX13_caller cX13_caller 1 (some .int) rm_X13_caller g [.ref (a_md 0)] (wMd g a_md (some (a_tn 0)) q_md_read md ++ (wTn g a_tn tn ++ [])) (wMd g a_md (some (a_tn 0)) q_md_read o_md ++ (wTn g a_tn tn ++ [])) r_ := by
  refine start2 (y := yX13_caller) (cc := cX13_caller) (n := 1) (av := [.ref (a_md 0)]) (ws := (wMd g a_md (some (a_tn 0)) q_md_read md ++ (wTn g a_tn tn ++ []))) (Qc := fun sz => QI g (wMd g a_md (some (a_tn 0)) q_md_read md ++ (wTn g a_tn tn ++ [])) (wMd g a_md (some (a_tn 0)) q_md_read o_md ++ (wTn g a_tn tn ++ [])) r_ sz) (by decide) rfl ?_
  intro p e s m args below meth c ls Q A ha hQ hA X hl hI hin
  have X : Cx p s m args meth c cX13_caller 1 RX13 (some .int) := X
  have hl : lv_has ls 1 [(0, .ref (a_md 0))] := hl
  obtain ⟨hx, hb, hml, hown, ht, hr, hlk⟩ := id X
  clear ha hin
  unfold f_X13_caller at hf
  refine lv_aload_n hx hb dX13_caller_0 rfl (lv_at hl 0 rfl) ?_
  refine lv_iconst (v := 0) hx hb dX13_caller_1 (by decide) ?_
  refine p_Md_thrown X hI up_Md_thrown.l (X.fl w_1583) dX13_caller_2 (fun H locs hI => ?_)
  generalize hz_ : (Md_thrown' md (0 : Int32)) = md_1 at hI hf
  clear hz_
  replace hf := lt_e hf
  refine lv_aload_n hx hb dX13_caller_5 rfl (lv_at hl 0 rfl) ?_
  refine g_Md_tangle_S X hI has_Md.l (X.fl w_1586) dX13_caller_6 ?_
  refine lv_ifnonnull (tgt := 20) hx hb dX13_caller_9 (by decide) ?_
  refine lv_aload_n hx hb dX13_caller_20 rfl (lv_at hl 0 rfl) ?_
  refine lv_aload_n hx hb dX13_caller_21 rfl (lv_at hl 0 rfl) ?_
  obtain ⟨r_2, md_3, hc_, hf⟩ := bd2_some hf
  refine call_Vi X hI (Cj.keep (Cj.keep Cj.id)) (c_X13_callerNow l g a_md a_tn q_md_read md_1 tn r_2 md_3 hc_) ⟨rfl, rfl⟩ ⟨ht _ w_2192, w_2195, ht _ w_155, lk_X13_callerNow⟩ w_2194 w_117 rfl rfl rfl hl rfl rfl dX13_caller_22 rfl rfl rfl rfl (fun H locs hI => ?_)
  obtain ⟨r_4, md_5, hc_, hf⟩ := bd2_some hf
  refine call_Vi X hI (Cj.keep Cj.nil) (c_X13_good l g a_md (some (a_tn 0)) q_md_read md_3 r_2 r_4 md_5 hc_) ⟨rfl, rfl⟩ ⟨ht _ w_1998, w_2001, ht _ w_155, lk_X13_good⟩ w_2000 w_92 rfl rfl rfl hl rfl rfl dX13_caller_25 rfl rfl rfl rfl (fun H locs hI => ?_)
  cases hf
  exact end_i hQ hA X hI dX13_caller_28
abbrev rm_X13_hangNow : Room := { frames := 4, cells := 0, slots := 0, locals := 92 }
set_option maxRecDepth 20000 in
theorem c_X13_hangNow (l : Launch) (g : GT) (a_md : Nat → Nat) (a_tn : Nat → Nat) (q_md_read : Option Nat) (md : MdS) (tn : TnS) (p1 : Int32) (p2 : Int32) (r_ : Int32) (o_md : MdS) (hf : f_X13_hangNow md tn p1 p2 = some (r_, o_md)) : CI l yX13_hangNow cX13_hangNow 7 (some .int) rm_X13_hangNow g [.ref (a_md 0), .int p1, .int p2] (wMd g a_md (some (a_tn 0)) q_md_read md ++ (wTn g a_tn tn ++ [])) (wMd g a_md (some (a_tn 0)) q_md_read o_md ++ (wTn g a_tn tn ++ [])) r_ := by
  refine start2 (y := yX13_hangNow) (cc := cX13_hangNow) (n := 7) (av := [.ref (a_md 0), .int p1, .int p2]) (ws := (wMd g a_md (some (a_tn 0)) q_md_read md ++ (wTn g a_tn tn ++ []))) (Qc := fun sz => QI g (wMd g a_md (some (a_tn 0)) q_md_read md ++ (wTn g a_tn tn ++ [])) (wMd g a_md (some (a_tn 0)) q_md_read o_md ++ (wTn g a_tn tn ++ [])) r_ sz) (by decide) rfl ?_
  intro p e s m args below meth c ls Q A ha hQ hA X hl hI hin
  have X : Cx p s m args meth c cX13_hangNow 7 RX13 (some .int) := X
  have hl : lv_has ls 7 [(0, .ref (a_md 0)), (1, .int p1), (2, .int p2)] := hl
  obtain ⟨hx, hb, hml, hown, ht, hr, hlk⟩ := id X
  clear ha hin
  have L_103 : ∀ (x1 : Int32) (x2 : Int32) (x3 : Int32) (x4 : Int32) (md : MdS) (k5 : (Int32) → (Int32) → (Int32) → (Int32) → (MdS) → (TnS) → Option (Int32 × (MdS))) (H : Heap) (locs : List Loc) (ls : Array Slot), lv_has ls 7 [(0, .ref (a_md 0)), (1, .int x1), (2, .int x2), (3, .int x3), (4, .int x4)] → In g A s.heap s (wMd g a_md (some (a_tn 0)) q_md_read md ++ (wTn g a_tn tn ++ [])) H locs → f_X13_hangNow_L103 x1 x2 x3 x4 md tn k5 = some (r_, o_md) → (∀ (x1 : Int32) (x2 : Int32) (x3 : Int32) (x4 : Int32) (md : MdS) (H : Heap) (locs : List Loc) (ls : Array Slot), lv_has ls 7 [(0, .ref (a_md 0)), (1, .int x1), (2, .int x2), (3, .int x3), (4, .int x4)] → In g A s.heap s (wMd g a_md (some (a_tn 0)) q_md_read md ++ (wTn g a_tn tn ++ [])) H locs → k5 x1 x2 x3 x4 md tn = some (r_, o_md) → W p l e rm_X13_hangNow s m args below meth c H locs 0 0 Q (F0 m 5 ls [])) → W p l e rm_X13_hangNow s m args below meth c H locs 0 0 Q (F0 m 103 ls []) := by
    intro x1 x2 x3 x4 md k5 H locs ls hl hI hf hk5
    unfold f_X13_hangNow_L103 at hf
    obtain ⟨v_6, e_⟩ : ∃ y : Int32, y = (x4 + (1 : Int32)) := ⟨_, rfl⟩
    replace hf := lt_to e_ hf
    refine lv_iinc (v := v_6) (lv' := [(4, .int v_6), (0, .ref (a_md 0)), (1, .int x1), (2, .int x2), (3, .int x3)]) hx hb dX13_hangNow_103 hl (k := 4) rfl (by rw [e_]; rfl) (by decide) rfl (fun ls hl => ?_)
    clear e_
    refine lv_goto (tgt := 5) hx hb dX13_hangNow_106 (by decide) ?_
    exact hk5 x1 x2 x3 v_6 md _ _ _ (lv_sub hl [1, 2, 3, 4, 0] rfl) hI hf
  have L_101 : ∀ (x1 : Int32) (x2 : Int32) (x4 : Int32) (t0i : Int32) (t1i : Int32) (md : MdS) (k5 : (Int32) → (Int32) → (Int32) → (Int32) → (MdS) → (TnS) → Option (Int32 × (MdS))) (H : Heap) (locs : List Loc) (ls : Array Slot), lv_has ls 7 [(0, .ref (a_md 0)), (1, .int x1), (2, .int x2), (4, .int x4)] → In g A s.heap s (wMd g a_md (some (a_tn 0)) q_md_read md ++ (wTn g a_tn tn ++ [])) H locs → f_X13_hangNow_L101 x1 x2 x4 t0i t1i md tn k5 = some (r_, o_md) → (∀ (x1 : Int32) (x2 : Int32) (x3 : Int32) (x4 : Int32) (md : MdS) (H : Heap) (locs : List Loc) (ls : Array Slot), lv_has ls 7 [(0, .ref (a_md 0)), (1, .int x1), (2, .int x2), (3, .int x3), (4, .int x4)] → In g A s.heap s (wMd g a_md (some (a_tn 0)) q_md_read md ++ (wTn g a_tn tn ++ [])) H locs → k5 x1 x2 x3 x4 md tn = some (r_, o_md) → W p l e rm_X13_hangNow s m args below meth c H locs 0 0 Q (F0 m 5 ls [])) → W p l e rm_X13_hangNow s m args below meth c H locs 0 0 Q (F0 m 101 ls [.int t1i, .int t0i]) := by
    intro x1 x2 x4 t0i t1i md k5 H locs ls hl hI hf hk5
    unfold f_X13_hangNow_L101 at hf
    refine lv_iadd hx hb dX13_hangNow_101 ?_
    refine lv_topi (fun v_7 e_ => ?_)
    replace hf := lt_to e_ hf
    clear e_
    refine lv_istore_n (lv' := [(3, .int v_7), (0, .ref (a_md 0)), (1, .int x1), (2, .int x2), (4, .int x4)]) hx hb dX13_hangNow_102 rfl hl (by decide) rfl (fun ls hl => ?_)
    exact L_103 x1 x2 v_7 x4 md _ _ _ _ (lv_sub hl [1, 2, 3, 0, 4] rfl) hI hf hk5
  have L_81 : ∀ (x1 : Int32) (x2 : Int32) (x3 : Int32) (x4 : Int32) (md : MdS) (k5 : (Int32) → (Int32) → (Int32) → (Int32) → (MdS) → (TnS) → Option (Int32 × (MdS))) (H : Heap) (locs : List Loc) (ls : Array Slot), lv_has ls 7 [(0, .ref (a_md 0)), (1, .int x1), (2, .int x2), (3, .int x3), (4, .int x4)] → In g A s.heap s (wMd g a_md (some (a_tn 0)) q_md_read md ++ (wTn g a_tn tn ++ [])) H locs → f_X13_hangNow_L81 x1 x2 x3 x4 md tn k5 = some (r_, o_md) → (∀ (x1 : Int32) (x2 : Int32) (x3 : Int32) (x4 : Int32) (md : MdS) (H : Heap) (locs : List Loc) (ls : Array Slot), lv_has ls 7 [(0, .ref (a_md 0)), (1, .int x1), (2, .int x2), (3, .int x3), (4, .int x4)] → In g A s.heap s (wMd g a_md (some (a_tn 0)) q_md_read md ++ (wTn g a_tn tn ++ [])) H locs → k5 x1 x2 x3 x4 md tn = some (r_, o_md) → W p l e rm_X13_hangNow s m args below meth c H locs 0 0 Q (F0 m 5 ls [])) → W p l e rm_X13_hangNow s m args below meth c H locs 0 0 Q (F0 m 81 ls []) := by
    intro x1 x2 x3 x4 md k5 H locs ls hl hI hf hk5
    unfold f_X13_hangNow_L81 at hf
    refine lv_iload_n hx hb dX13_hangNow_81 rfl (lv_at hl 3 rfl) ?_
    refine lv_aload_n hx hb dX13_hangNow_82 rfl (lv_at hl 0 rfl) ?_
    refine lv_iload hx hb dX13_hangNow_83 (lv_at hl 4 rfl) ?_
    obtain ⟨r_3, md_4, hc_, hf⟩ := bd2_some hf
    refine call_Vi X hI (Cj.keep (Cj.keep Cj.id)) (c_X13_isLeft l g a_md a_tn q_md_read md tn x4 r_3 md_4 hc_) ⟨rfl, rfl⟩ ⟨ht _ w_2067, w_2070, ht _ w_155, lk_X13_isLeft⟩ w_2069 w_98 rfl rfl rfl hl rfl rfl dX13_hangNow_85 rfl rfl rfl rfl (fun H locs hI => ?_)
    refine lv_if_eq (tgt := 100) hx hb dX13_hangNow_88 (by decide) (fun h_ => ?_) (fun h_ => ?_)
    · replace hf := if_t h_ hf
      refine lv_iconst (v := 0) hx hb dX13_hangNow_100 (by decide) ?_
      exact L_101 x1 x2 x4 x3 (0 : Int32) md_4 _ _ _ _ (lv_sub hl [0, 1, 2, 4] rfl) hI hf hk5
    · replace hf := if_f h_ hf
      refine lv_aload_n hx hb dX13_hangNow_91 rfl (lv_at hl 0 rfl) ?_
      refine lv_iload hx hb dX13_hangNow_92 (lv_at hl 4 rfl) ?_
      obtain ⟨r_5, hc_, hf⟩ := bd1_some hf
      refine call_Vi X hI (Cj.keep (Cj.keep Cj.id)) (c_X13_signNow l g a_md a_tn q_md_read md_4 tn x4 r_5 hc_) ⟨rfl, rfl⟩ ⟨ht _ w_2083, w_2086, ht _ w_155, lk_X13_signNow⟩ w_2085 w_102 rfl rfl rfl hl rfl rfl dX13_hangNow_94 rfl rfl rfl rfl (fun H locs hI => ?_)
      refine lv_goto (tgt := 101) hx hb dX13_hangNow_97 (by decide) ?_
      exact L_101 x1 x2 x4 x3 r_5 md_4 _ _ _ _ (lv_sub hl [0, 1, 2, 4] rfl) hI hf hk5
  have L_69 : ∀ (x1 : Int32) (x2 : Int32) (x3 : Int32) (x4 : Int32) (x5 : Int32) (x6 : Int32) (md : MdS) (k5 : (Int32) → (Int32) → (Int32) → (Int32) → (MdS) → (TnS) → Option (Int32 × (MdS))) (H : Heap) (locs : List Loc) (ls : Array Slot), lv_has ls 7 [(0, .ref (a_md 0)), (1, .int x1), (2, .int x2), (3, .int x3), (4, .int x4), (5, .int x5), (6, .int x6)] → In g A s.heap s (wMd g a_md (some (a_tn 0)) q_md_read md ++ (wTn g a_tn tn ++ [])) H locs → f_X13_hangNow_L69 x1 x2 x3 x4 x5 x6 md tn k5 = some (r_, o_md) → (∀ (x1 : Int32) (x2 : Int32) (x3 : Int32) (x4 : Int32) (md : MdS) (H : Heap) (locs : List Loc) (ls : Array Slot), lv_has ls 7 [(0, .ref (a_md 0)), (1, .int x1), (2, .int x2), (3, .int x3), (4, .int x4)] → In g A s.heap s (wMd g a_md (some (a_tn 0)) q_md_read md ++ (wTn g a_tn tn ++ [])) H locs → k5 x1 x2 x3 x4 md tn = some (r_, o_md) → W p l e rm_X13_hangNow s m args below meth c H locs 0 0 Q (F0 m 5 ls [])) → W p l e rm_X13_hangNow s m args below meth c H locs 0 0 Q (F0 m 69 ls []) := by
    intro x1 x2 x3 x4 x5 x6 md k5 H locs ls hl hI hf hk5
    unfold f_X13_hangNow_L69 at hf
    refine lv_iload hx hb dX13_hangNow_69 (lv_at hl 5 rfl) ?_
    refine lv_iload_n hx hb dX13_hangNow_71 rfl (lv_at hl 2 rfl) ?_
    refine lv_icmp_ne (tgt := 103) hx hb dX13_hangNow_72 (by decide) (fun h_ => ?_) (fun h_ => ?_)
    · replace hf := if_f h_ hf
      exact L_103 x1 x2 x3 x4 md _ _ _ _ (lv_sub hl [0, 1, 2, 3, 4] rfl) hI hf hk5
    · replace hf := if_t h_ hf
      refine lv_iload hx hb dX13_hangNow_75 (lv_at hl 6 rfl) ?_
      refine lv_iload_n hx hb dX13_hangNow_77 rfl (lv_at hl 1 rfl) ?_
      refine lv_icmp_ne (tgt := 103) hx hb dX13_hangNow_78 (by decide) (fun h_ => ?_) (fun h_ => ?_)
      · replace hf := if_f h_ hf
        exact L_103 x1 x2 x3 x4 md _ _ _ _ (lv_sub hl [0, 1, 2, 3, 4] rfl) hI hf hk5
      · replace hf := if_t h_ hf
        exact L_81 x1 x2 x3 x4 md _ _ _ _ (lv_sub hl [0, 1, 2, 3, 4] rfl) hI hf hk5
  have L_5 : ∀ (n_ : Nat) (x1 : Int32) (x2 : Int32) (x3 : Int32) (x4 : Int32) (md : MdS) (H : Heap) (locs : List Loc) (ls : Array Slot), lv_has ls 7 [(0, .ref (a_md 0)), (1, .int x1), (2, .int x2), (3, .int x3), (4, .int x4)] → In g A s.heap s (wMd g a_md (some (a_tn 0)) q_md_read md ++ (wTn g a_tn tn ++ [])) H locs → f_X13_hangNow_L5 n_ x1 x2 x3 x4 md tn = some (r_, o_md) → W p l e rm_X13_hangNow s m args below meth c H locs 0 0 Q (F0 m 5 ls []) := by
    intro n_
    induction n_ with
    | zero =>
      intro x1 x2 x3 x4 md H locs ls hl hI hf
      rw [f_X13_hangNow_L5] at hf
      cases hf
    | succ n_ ih =>
      intro x1 x2 x3 x4 md H locs ls hl hI hf
      rw [f_X13_hangNow_L5] at hf
      refine lv_iload hx hb dX13_hangNow_5 (lv_at hl 4 rfl) ?_
      refine lv_aload_n hx hb dX13_hangNow_7 rfl (lv_at hl 0 rfl) ?_
      refine g_Md_tangle_S X hI has_Md.l (X.fl w_1586) dX13_hangNow_8 ?_
      refine g_Tn_crossings X hI has_Tn.l.r (hI.fn (List.mem_of_getElem? (i := 82) rfl)) dX13_hangNow_11 ?_
      refine lv_icmp_ge (tgt := 109) hx hb dX13_hangNow_14 (by decide) (fun h_ => ?_) (fun h_ => ?_)
      · replace hf := if_t h_ hf
        refine lv_iload_n hx hb dX13_hangNow_109 rfl (lv_at hl 3 rfl) ?_
        cases hf
        exact end_i hQ hA X hI dX13_hangNow_110
      · replace hf := if_f h_ hf
        refine lv_aload_n hx hb dX13_hangNow_17 rfl (lv_at hl 0 rfl) ?_
        refine g_Md_tangle_S X hI has_Md.l (X.fl w_1586) dX13_hangNow_18 ?_
        refine g_Tn_linkRing X hI has_Tn.l.r (hI.fn (List.mem_of_getElem? (i := 103) rfl)) dX13_hangNow_21 ?_
        refine lv_aload_n hx hb dX13_hangNow_24 rfl (lv_at hl 0 rfl) ?_
        refine g_Md_tangle_S X hI has_Md.l (X.fl w_1586) dX13_hangNow_25 ?_
        refine g_Tn_over X hI has_Tn.l.r (hI.fn (List.mem_of_getElem? (i := 93) rfl)) dX13_hangNow_28 ?_
        refine lv_iload hx hb dX13_hangNow_31 (lv_at hl 4 rfl) ?_
        obtain ⟨h_, hf⟩ := ck_someM hf
        refine ld_I X hI has_Tn_over.l.r h_ dX13_hangNow_33 ?_
        obtain ⟨h_, hf⟩ := ck_someM hf
        refine ld_I X hI has_Tn_linkRing.l.r h_ dX13_hangNow_34 ?_
        refine lv_topi (fun v_1 e_ => ?_)
        replace hf := lt_to e_ hf
        clear e_
        refine lv_istore (lv' := [(5, .int v_1), (0, .ref (a_md 0)), (1, .int x1), (2, .int x2), (3, .int x3), (4, .int x4)]) hx hb dX13_hangNow_35 hl (by decide) rfl (fun ls hl => ?_)
        refine lv_aload_n hx hb dX13_hangNow_37 rfl (lv_at hl 1 rfl) ?_
        refine g_Md_tangle_S X hI has_Md.l (X.fl w_1586) dX13_hangNow_38 ?_
        refine g_Tn_linkRing X hI has_Tn.l.r (hI.fn (List.mem_of_getElem? (i := 103) rfl)) dX13_hangNow_41 ?_
        refine lv_aload_n hx hb dX13_hangNow_44 rfl (lv_at hl 1 rfl) ?_
        refine g_Md_tangle_S X hI has_Md.l (X.fl w_1586) dX13_hangNow_45 ?_
        refine g_Tn_under X hI has_Tn.l.r (hI.fn (List.mem_of_getElem? (i := 95) rfl)) dX13_hangNow_48 ?_
        refine lv_iload hx hb dX13_hangNow_51 (lv_at hl 5 rfl) ?_
        obtain ⟨h_, hf⟩ := ck_someM hf
        refine ld_I X hI has_Tn_under.l.r h_ dX13_hangNow_53 ?_
        obtain ⟨h_, hf⟩ := ck_someM hf
        refine ld_I X hI has_Tn_linkRing.l.r h_ dX13_hangNow_54 ?_
        refine lv_topi (fun v_2 e_ => ?_)
        replace hf := lt_to e_ hf
        clear e_
        refine lv_istore (lv' := [(6, .int v_2), (5, .int v_1), (0, .ref (a_md 0)), (1, .int x1), (2, .int x2), (3, .int x3), (4, .int x4)]) hx hb dX13_hangNow_55 hl (by decide) rfl (fun ls hl => ?_)
        refine lv_iload hx hb dX13_hangNow_57 (lv_at hl 1 rfl) ?_
        refine lv_iload_n hx hb dX13_hangNow_59 rfl (lv_at hl 3 rfl) ?_
        refine lv_icmp_ne (tgt := 69) hx hb dX13_hangNow_60 (by decide) (fun h_ => ?_) (fun h_ => ?_)
        · replace hf := if_f h_ hf
          exact L_69 x1 x2 x3 x4 v_1 v_2 md _ _ _ _ (lv_sub hl [2, 3, 4, 5, 6, 1, 0] rfl) hI hf (fun z_0 z_1 z_2 z_3 z_4 _ _ _ hl hI hf => ih z_0 z_1 z_2 z_3 z_4 _ _ _ hl hI hf)
        · replace hf := if_t h_ hf
          refine lv_iload hx hb dX13_hangNow_63 (lv_at hl 0 rfl) ?_
          refine lv_iload_n hx hb dX13_hangNow_65 rfl (lv_at hl 4 rfl) ?_
          refine lv_icmp_eq (tgt := 81) hx hb dX13_hangNow_66 (by decide) (fun h_ => ?_) (fun h_ => ?_)
          · replace hf := if_t h_ hf
            exact L_81 x1 x2 x3 x4 md _ _ _ _ (lv_sub hl [2, 3, 4, 5, 6] rfl) hI hf (fun z_0 z_1 z_2 z_3 z_4 _ _ _ hl hI hf => ih z_0 z_1 z_2 z_3 z_4 _ _ _ hl hI hf)
          · replace hf := if_f h_ hf
            exact L_69 x1 x2 x3 x4 v_1 v_2 md _ _ _ _ (lv_sub hl [2, 3, 4, 5, 6, 1, 0] rfl) hI hf (fun z_0 z_1 z_2 z_3 z_4 _ _ _ hl hI hf => ih z_0 z_1 z_2 z_3 z_4 _ _ _ hl hI hf)
  unfold f_X13_hangNow at hf
  refine lv_iconst (v := 0) hx hb dX13_hangNow_0 (by decide) ?_
  refine lv_istore_n (lv' := [(3, .int (0 : Int32)), (0, .ref (a_md 0)), (1, .int p1), (2, .int p2)]) hx hb dX13_hangNow_1 rfl hl (by decide) rfl (fun ls hl => ?_)
  refine lv_iconst (v := 0) hx hb dX13_hangNow_2 (by decide) ?_
  refine lv_istore (lv' := [(4, .int (0 : Int32)), (3, .int (0 : Int32)), (0, .ref (a_md 0)), (1, .int p1), (2, .int p2)]) hx hb dX13_hangNow_3 hl (by decide) rfl (fun ls hl => ?_)
  exact L_5 FU p1 p2 (0 : Int32) (0 : Int32) md _ _ _ (lv_sub hl [2, 3, 4, 1, 0] rfl) hI hf
abbrev rm_X13_hang : Room := { frames := 5, cells := 0, slots := 0, locals := 118 }
set_option maxRecDepth 20000 in
theorem c_X13_hang (l : Launch) (g : GT) (a_md : Nat → Nat) (a_tn : Nat → Nat) (q_md_read : Option Nat) (md : MdS) (tn : TnS) (p1 : Int32) (p2 : Int32) (r_ : Int32) (o_md : MdS) (hf : f_X13_hang md tn p1 p2 = some (r_, o_md)) : CI l yX13_hang cX13_hang 3 (some .int) rm_X13_hang g [.ref (a_md 0), .int p1, .int p2] (wMd g a_md (some (a_tn 0)) q_md_read md ++ (wTn g a_tn tn ++ [])) (wMd g a_md (some (a_tn 0)) q_md_read o_md ++ (wTn g a_tn tn ++ [])) r_ := by
  refine start2 (y := yX13_hang) (cc := cX13_hang) (n := 3) (av := [.ref (a_md 0), .int p1, .int p2]) (ws := (wMd g a_md (some (a_tn 0)) q_md_read md ++ (wTn g a_tn tn ++ []))) (Qc := fun sz => QI g (wMd g a_md (some (a_tn 0)) q_md_read md ++ (wTn g a_tn tn ++ [])) (wMd g a_md (some (a_tn 0)) q_md_read o_md ++ (wTn g a_tn tn ++ [])) r_ sz) (by decide) rfl ?_
  intro p e s m args below meth c ls Q A ha hQ hA X hl hI hin
  have X : Cx p s m args meth c cX13_hang 3 RX13 (some .int) := X
  have hl : lv_has ls 3 [(0, .ref (a_md 0)), (1, .int p1), (2, .int p2)] := hl
  obtain ⟨hx, hb, hml, hown, ht, hr, hlk⟩ := id X
  clear ha hin
  have L_39 : ∀ (md : MdS) (H : Heap) (locs : List Loc) (ls : Array Slot), lv_has ls 3 [(0, .ref (a_md 0))] → In g A s.heap s (wMd g a_md (some (a_tn 0)) q_md_read md ++ (wTn g a_tn tn ++ [])) H locs → f_X13_hang_L39 md = some (r_, o_md) → W p l e rm_X13_hang s m args below meth c H locs 0 0 Q (F0 m 39 ls []) := by
    intro md H locs ls hl hI hf
    unfold f_X13_hang_L39 at hf
    refine lv_aload_n hx hb dX13_hang_39 rfl (lv_at hl 0 rfl) ?_
    refine lv_iconst (v := 1) hx hb dX13_hang_40 (by decide) ?_
    obtain ⟨r_8, md_9, hc_, hf⟩ := bd2_some hf
    refine call_Vi X hI (Cj.keep Cj.nil) (c_X13_lost l g a_md (some (a_tn 0)) q_md_read md (1 : Int32) r_8 md_9 hc_) ⟨rfl, rfl⟩ ⟨ht _ w_2063, w_2066, ht _ w_155, lk_X13_lost⟩ w_2065 w_97 rfl rfl rfl hl rfl rfl dX13_hang_41 rfl rfl rfl rfl (fun H locs hI => ?_)
    cases hf
    exact end_i hQ hA X hI dX13_hang_44
  unfold f_X13_hang at hf
  refine lv_aload_n hx hb dX13_hang_0 rfl (lv_at hl 0 rfl) ?_
  refine lv_iconst (v := 0) hx hb dX13_hang_1 (by decide) ?_
  refine p_Md_thrown X hI up_Md_thrown.l (X.fl w_1583) dX13_hang_2 (fun H locs hI => ?_)
  generalize hz_ : (Md_thrown' md (0 : Int32)) = md_1 at hI hf
  clear hz_
  replace hf := lt_e hf
  refine lv_aload_n hx hb dX13_hang_5 rfl (lv_at hl 0 rfl) ?_
  refine lv_iload_n hx hb dX13_hang_6 rfl (lv_at hl 1 rfl) ?_
  obtain ⟨r_2, hc_, hf⟩ := bd1_some hf
  refine call_Vi X hI (Cj.keep (Cj.keep Cj.id)) (c_X13_isRing l g a_md a_tn q_md_read md_1 tn p1 r_2 hc_) ⟨rfl, rfl⟩ ⟨ht _ w_2022, w_2025, ht _ w_155, lk_X13_isRing⟩ w_2024 w_94 rfl rfl rfl hl rfl rfl dX13_hang_7 rfl rfl rfl rfl (fun H locs hI => ?_)
  refine lv_if_eq (tgt := 39) hx hb dX13_hang_10 (by decide) (fun h_ => ?_) (fun h_ => ?_)
  · replace hf := if_t h_ hf
    exact L_39 md_1 _ _ _ (lv_sub hl [0] rfl) hI hf
  · replace hf := if_f h_ hf
    refine lv_aload_n hx hb dX13_hang_13 rfl (lv_at hl 0 rfl) ?_
    refine lv_iload_n hx hb dX13_hang_14 rfl (lv_at hl 2 rfl) ?_
    obtain ⟨r_3, hc_, hf⟩ := bd1_some hf
    refine call_Vi X hI (Cj.keep (Cj.keep Cj.id)) (c_X13_isRing l g a_md a_tn q_md_read md_1 tn p2 r_3 hc_) ⟨rfl, rfl⟩ ⟨ht _ w_2022, w_2025, ht _ w_155, lk_X13_isRing⟩ w_2024 w_94 rfl rfl rfl hl rfl rfl dX13_hang_15 rfl rfl rfl rfl (fun H locs hI => ?_)
    refine lv_if_eq (tgt := 39) hx hb dX13_hang_18 (by decide) (fun h_ => ?_) (fun h_ => ?_)
    · replace hf := if_t h_ hf
      exact L_39 md_1 _ _ _ (lv_sub hl [0] rfl) hI hf
    · replace hf := if_f h_ hf
      refine lv_iload_n hx hb dX13_hang_21 rfl (lv_at hl 1 rfl) ?_
      refine lv_iload_n hx hb dX13_hang_22 rfl (lv_at hl 2 rfl) ?_
      refine lv_icmp_eq (tgt := 39) hx hb dX13_hang_23 (by decide) (fun h_ => ?_) (fun h_ => ?_)
      · replace hf := if_t h_ hf
        exact L_39 md_1 _ _ _ (lv_sub hl [0] rfl) hI hf
      · replace hf := if_f h_ hf
        refine lv_aload_n hx hb dX13_hang_26 rfl (lv_at hl 0 rfl) ?_
        refine lv_aload_n hx hb dX13_hang_27 rfl (lv_at hl 0 rfl) ?_
        refine lv_iload_n hx hb dX13_hang_28 rfl (lv_at hl 1 rfl) ?_
        refine lv_iload_n hx hb dX13_hang_29 rfl (lv_at hl 2 rfl) ?_
        obtain ⟨r_4, md_5, hc_, hf⟩ := bd2_some hf
        refine call_Vi X hI (Cj.keep (Cj.keep Cj.id)) (c_X13_hangNow l g a_md a_tn q_md_read md_1 tn p1 p2 r_4 md_5 hc_) ⟨rfl, rfl⟩ ⟨ht _ w_2204, w_2207, ht _ w_155, lk_X13_hangNow⟩ w_2206 w_119 rfl rfl rfl hl rfl rfl dX13_hang_30 rfl rfl rfl rfl (fun H locs hI => ?_)
        obtain ⟨r_6, md_7, hc_, hf⟩ := bd2_some hf
        refine call_Vi X hI (Cj.keep Cj.nil) (c_X13_good l g a_md (some (a_tn 0)) q_md_read md_5 r_4 r_6 md_7 hc_) ⟨rfl, rfl⟩ ⟨ht _ w_1998, w_2001, ht _ w_155, lk_X13_good⟩ w_2000 w_92 rfl rfl rfl hl rfl rfl dX13_hang_33 rfl rfl rfl rfl (fun H locs hI => ?_)
        refine lv_goto (tgt := 44) hx hb dX13_hang_36 (by decide) ?_
        cases hf
        exact end_i hQ hA X hI dX13_hang_44
abbrev rm_X13_laysArcsOf : Room := { frames := 1, cells := 0, slots := 0, locals := 22 }
set_option maxRecDepth 20000 in
theorem c_X13_laysArcsOf (l : Launch) (g : GT) (a_md : Nat → Nat) (q_md_tangle : Option Nat) (q_md_read : Option Nat) (md : MdS) (p1 : Int32) (p2 : Int32) (o_md : MdS) (hf : f_X13_laysArcsOf md p1 p2 = some (o_md)) : CV l yX13_laysArcsOf cX13_laysArcsOf 8 none rm_X13_laysArcsOf g [.ref (a_md 0), .int p1, .int p2] (wMd g a_md q_md_tangle q_md_read md ++ []) (wMd g a_md q_md_tangle q_md_read o_md ++ []) := by
  refine start2 (y := yX13_laysArcsOf) (cc := cX13_laysArcsOf) (n := 8) (av := [.ref (a_md 0), .int p1, .int p2]) (ws := (wMd g a_md q_md_tangle q_md_read md ++ [])) (Qc := fun sz => QV g (wMd g a_md q_md_tangle q_md_read md ++ []) (wMd g a_md q_md_tangle q_md_read o_md ++ []) sz) (by decide) rfl ?_
  intro p e s m args below meth c ls Q A ha hQ hA X hl hI hin
  have X : Cx p s m args meth c cX13_laysArcsOf 8 RX13 none := X
  have hl : lv_has ls 8 [(0, .ref (a_md 0)), (1, .int p1), (2, .int p2)] := hl
  obtain ⟨hx, hb, hml, hown, ht, hr, hlk⟩ := id X
  clear ha hin
  have L_74 : ∀ (x1 : Int32) (x2 : Int32) (x3 : Int32) (x4 : Int32) (x5 : Int32) (x6 : Int32) (md : MdS) (k17 : (Int32) → (Int32) → (Int32) → (Int32) → (Int32) → (Int32) → (MdS) → Option ((MdS))) (H : Heap) (locs : List Loc) (ls : Array Slot), lv_has ls 8 [(0, .ref (a_md 0)), (1, .int x1), (2, .int x2), (3, .int x3), (4, .int x4), (5, .int x5), (6, .int x6)] → In g A s.heap s (wMd g a_md q_md_tangle q_md_read md ++ []) H locs → f_X13_laysArcsOf_L74 x1 x2 x3 x4 x5 x6 md k17 = some (o_md) → (∀ (x1 : Int32) (x2 : Int32) (x3 : Int32) (x4 : Int32) (x5 : Int32) (x6 : Int32) (md : MdS) (H : Heap) (locs : List Loc) (ls : Array Slot), lv_has ls 8 [(0, .ref (a_md 0)), (1, .int x1), (2, .int x2), (3, .int x3), (4, .int x4), (5, .int x5), (6, .int x6)] → In g A s.heap s (wMd g a_md q_md_tangle q_md_read md ++ []) H locs → k17 x1 x2 x3 x4 x5 x6 md = some (o_md) → W p l e rm_X13_laysArcsOf s m args below meth c H locs 0 0 Q (F0 m 17 ls [])) → W p l e rm_X13_laysArcsOf s m args below meth c H locs 0 0 Q (F0 m 74 ls []) := by
    intro x1 x2 x3 x4 x5 x6 md k17 H locs ls hl hI hf hk17
    unfold f_X13_laysArcsOf_L74 at hf
    refine lv_aload_n hx hb dX13_laysArcsOf_74 rfl (lv_at hl 0 rfl) ?_
    refine g_Md_after X hI has_Md.l (X.fl w_1608) dX13_laysArcsOf_75 ?_
    refine lv_aload_n hx hb dX13_laysArcsOf_78 rfl (lv_at hl 0 rfl) ?_
    refine g_Md_row X hI has_Md.l (X.fl w_1609) dX13_laysArcsOf_79 ?_
    refine lv_iload hx hb dX13_laysArcsOf_82 (lv_at hl 6 rfl) ?_
    obtain ⟨h_, hf⟩ := ck_someM hf
    refine ld_I X hI has_Md_row.l h_ dX13_laysArcsOf_84 ?_
    refine lv_iload hx hb dX13_laysArcsOf_85 (lv_at hl 4 rfl) ?_
    obtain ⟨h_, hf⟩ := ck_someM hf
    refine st_I X hI up_Md_after.l h_ dX13_laysArcsOf_87 (fun H locs hI => ?_)
    generalize hz_ : (Md_after' md (upd (Md_after md) (Int32.toNatClampNeg (Md_row md (Int32.toNatClampNeg x6))) x4)) = md_11 at hI hf
    clear hz_
    replace hf := lt_e hf
    obtain ⟨v_12, e_⟩ : ∃ y : Int32, y = (x6 + (1 : Int32)) := ⟨_, rfl⟩
    replace hf := lt_to e_ hf
    refine lv_iinc (v := v_12) (lv' := [(6, .int v_12), (0, .ref (a_md 0)), (1, .int x1), (2, .int x2), (3, .int x3), (4, .int x4), (5, .int x5)]) hx hb dX13_laysArcsOf_88 hl (k := 6) rfl (by rw [e_]; rfl) (by decide) rfl (fun ls hl => ?_)
    clear e_
    refine lv_goto (tgt := 17) hx hb dX13_laysArcsOf_91 (by decide) ?_
    exact hk17 x1 x2 x3 x4 x5 v_12 md_11 _ _ _ (lv_sub hl [1, 2, 3, 4, 5, 6, 0] rfl) hI hf
  have L_47 : ∀ (x1 : Int32) (x2 : Int32) (x3 : Int32) (x4 : Int32) (x5 : Int32) (x6 : Int32) (t0i : Int32) (md : MdS) (k17 : (Int32) → (Int32) → (Int32) → (Int32) → (Int32) → (Int32) → (MdS) → Option ((MdS))) (H : Heap) (locs : List Loc) (ls : Array Slot), lv_has ls 8 [(0, .ref (a_md 0)), (1, .int x1), (2, .int x2), (3, .int x3), (4, .int x4), (5, .int x5), (6, .int x6)] → In g A s.heap s (wMd g a_md q_md_tangle q_md_read md ++ []) H locs → f_X13_laysArcsOf_L47 x1 x2 x3 x4 x5 x6 t0i md k17 = some (o_md) → (∀ (x1 : Int32) (x2 : Int32) (x3 : Int32) (x4 : Int32) (x5 : Int32) (x6 : Int32) (md : MdS) (H : Heap) (locs : List Loc) (ls : Array Slot), lv_has ls 8 [(0, .ref (a_md 0)), (1, .int x1), (2, .int x2), (3, .int x3), (4, .int x4), (5, .int x5), (6, .int x6)] → In g A s.heap s (wMd g a_md q_md_tangle q_md_read md ++ []) H locs → k17 x1 x2 x3 x4 x5 x6 md = some (o_md) → W p l e rm_X13_laysArcsOf s m args below meth c H locs 0 0 Q (F0 m 17 ls [])) → W p l e rm_X13_laysArcsOf s m args below meth c H locs 0 0 Q (F0 m 47 ls [.int t0i]) := by
    intro x1 x2 x3 x4 x5 x6 t0i md k17 H locs ls hl hI hf hk17
    unfold f_X13_laysArcsOf_L47 at hf
    refine lv_istore (lv' := [(7, .int t0i), (0, .ref (a_md 0)), (1, .int x1), (2, .int x2), (3, .int x3), (4, .int x4), (5, .int x5), (6, .int x6)]) hx hb dX13_laysArcsOf_47 hl (by decide) rfl (fun ls hl => ?_)
    refine lv_aload_n hx hb dX13_laysArcsOf_49 rfl (lv_at hl 1 rfl) ?_
    refine g_Md_ahead X hI has_Md.l (X.fl w_1607) dX13_laysArcsOf_50 ?_
    refine lv_aload_n hx hb dX13_laysArcsOf_53 rfl (lv_at hl 1 rfl) ?_
    refine g_Md_row X hI has_Md.l (X.fl w_1609) dX13_laysArcsOf_54 ?_
    refine lv_iload hx hb dX13_laysArcsOf_57 (lv_at hl 7 rfl) ?_
    obtain ⟨h_, hf⟩ := ck_someM hf
    refine ld_I X hI has_Md_row.l h_ dX13_laysArcsOf_59 ?_
    refine lv_iload hx hb dX13_laysArcsOf_60 (lv_at hl 5 rfl) ?_
    obtain ⟨h_, hf⟩ := ck_someM hf
    refine st_I X hI up_Md_ahead.l h_ dX13_laysArcsOf_62 (fun H locs hI => ?_)
    generalize hz_ : (Md_ahead' md (upd (Md_ahead md) (Int32.toNatClampNeg (Md_row md (Int32.toNatClampNeg x6))) x4)) = md_7 at hI hf
    clear hz_
    replace hf := lt_e hf
    refine lv_iload hx hb dX13_laysArcsOf_63 (lv_at hl 0 rfl) ?_
    refine lv_if_eq (tgt := 74) hx hb dX13_laysArcsOf_65 (by decide) (fun h_ => ?_) (fun h_ => ?_)
    · replace hf := if_t h_ hf
      exact L_74 x1 x2 x3 x4 x5 x6 md_7 _ _ _ _ (lv_sub hl [1, 2, 3, 4, 5, 6, 7] rfl) hI hf hk17
    · replace hf := if_f h_ hf
      obtain ⟨v_8, e_⟩ : ∃ y : Int32, y = (x4 + (1 : Int32)) := ⟨_, rfl⟩
      replace hf := lt_to e_ hf
      refine lv_iinc (v := v_8) (lv' := [(4, .int v_8), (7, .int t0i), (0, .ref (a_md 0)), (1, .int x1), (2, .int x2), (3, .int x3), (5, .int x5), (6, .int x6)]) hx hb dX13_laysArcsOf_68 hl (k := 5) rfl (by rw [e_]; rfl) (by decide) rfl (fun ls hl => ?_)
      clear e_
      obtain ⟨v_9, e_⟩ : ∃ y : Int32, y = (x5 + (1 : Int32)) := ⟨_, rfl⟩
      replace hf := lt_to e_ hf
      refine lv_iinc (v := v_9) (lv' := [(5, .int v_9), (4, .int v_8), (7, .int t0i), (0, .ref (a_md 0)), (1, .int x1), (2, .int x2), (3, .int x3), (6, .int x6)]) hx hb dX13_laysArcsOf_71 hl (k := 6) rfl (by rw [e_]; rfl) (by decide) rfl (fun ls hl => ?_)
      clear e_
      exact L_74 x1 x2 x3 v_8 v_9 x6 md_7 _ _ _ _ (lv_sub hl [3, 4, 5, 6, 1, 0, 7] rfl) hI hf hk17
  have L_103 : ∀ (x4 : Int32) (md : MdS) (H : Heap) (locs : List Loc) (ls : Array Slot), lv_has ls 8 [(0, .ref (a_md 0)), (4, .int x4)] → In g A s.heap s (wMd g a_md q_md_tangle q_md_read md ++ []) H locs → f_X13_laysArcsOf_L103 x4 md = some (o_md) → W p l e rm_X13_laysArcsOf s m args below meth c H locs 0 0 Q (F0 m 103 ls []) := by
    intro x4 md H locs ls hl hI hf
    unfold f_X13_laysArcsOf_L103 at hf
    refine lv_aload_n hx hb dX13_laysArcsOf_103 rfl (lv_at hl 0 rfl) ?_
    refine lv_iload hx hb dX13_laysArcsOf_104 (lv_at hl 1 rfl) ?_
    refine lv_iconst (v := 1) hx hb dX13_laysArcsOf_106 (by decide) ?_
    refine lv_iadd hx hb dX13_laysArcsOf_107 ?_
    refine p_Md_arcs X hI up_Md_arcs.l (X.fl w_1611) dX13_laysArcsOf_108 (fun H locs hI => ?_)
    generalize hz_ : (Md_arcs' md (x4 + (1 : Int32))) = md_4 at hI hf
    clear hz_
    replace hf := lt_e hf
    cases hf
    exact end_v hQ hA X hI dX13_laysArcsOf_111
  have L_181 : ∀ (x1 : Int32) (x3 : Int32) (x4 : Int32) (x6 : Int32) (md : MdS) (k115 : (Int32) → (Int32) → (Int32) → (Int32) → (MdS) → Option ((MdS))) (H : Heap) (locs : List Loc) (ls : Array Slot), lv_has ls 8 [(0, .ref (a_md 0)), (1, .int x1), (3, .int x3), (4, .int x4), (6, .int x6)] → In g A s.heap s (wMd g a_md q_md_tangle q_md_read md ++ []) H locs → f_X13_laysArcsOf_L181 x1 x3 x4 x6 md k115 = some (o_md) → (∀ (x1 : Int32) (x3 : Int32) (x4 : Int32) (x6 : Int32) (md : MdS) (H : Heap) (locs : List Loc) (ls : Array Slot), lv_has ls 8 [(0, .ref (a_md 0)), (1, .int x1), (3, .int x3), (4, .int x4), (6, .int x6)] → In g A s.heap s (wMd g a_md q_md_tangle q_md_read md ++ []) H locs → k115 x1 x3 x4 x6 md = some (o_md) → W p l e rm_X13_laysArcsOf s m args below meth c H locs 0 0 Q (F0 m 115 ls [])) → W p l e rm_X13_laysArcsOf s m args below meth c H locs 0 0 Q (F0 m 181 ls []) := by
    intro x1 x3 x4 x6 md k115 H locs ls hl hI hf hk115
    unfold f_X13_laysArcsOf_L181 at hf
    obtain ⟨v_13, e_⟩ : ∃ y : Int32, y = (x6 + (1 : Int32)) := ⟨_, rfl⟩
    replace hf := lt_to e_ hf
    refine lv_iinc (v := v_13) (lv' := [(6, .int v_13), (0, .ref (a_md 0)), (1, .int x1), (3, .int x3), (4, .int x4)]) hx hb dX13_laysArcsOf_181 hl (k := 4) rfl (by rw [e_]; rfl) (by decide) rfl (fun ls hl => ?_)
    clear e_
    refine lv_goto (tgt := 115) hx hb dX13_laysArcsOf_184 (by decide) ?_
    exact hk115 x1 x3 x4 v_13 md _ _ _ (lv_sub hl [1, 2, 3, 4, 0] rfl) hI hf
  have L_151 : ∀ (x1 : Int32) (x3 : Int32) (x4 : Int32) (x6 : Int32) (md : MdS) (k115 : (Int32) → (Int32) → (Int32) → (Int32) → (MdS) → Option ((MdS))) (H : Heap) (locs : List Loc) (ls : Array Slot), lv_has ls 8 [(0, .ref (a_md 0)), (1, .int x1), (3, .int x3), (4, .int x4), (6, .int x6)] → In g A s.heap s (wMd g a_md q_md_tangle q_md_read md ++ []) H locs → f_X13_laysArcsOf_L151 x1 x3 x4 x6 md k115 = some (o_md) → (∀ (x1 : Int32) (x3 : Int32) (x4 : Int32) (x6 : Int32) (md : MdS) (H : Heap) (locs : List Loc) (ls : Array Slot), lv_has ls 8 [(0, .ref (a_md 0)), (1, .int x1), (3, .int x3), (4, .int x4), (6, .int x6)] → In g A s.heap s (wMd g a_md q_md_tangle q_md_read md ++ []) H locs → k115 x1 x3 x4 x6 md = some (o_md) → W p l e rm_X13_laysArcsOf s m args below meth c H locs 0 0 Q (F0 m 115 ls [])) → W p l e rm_X13_laysArcsOf s m args below meth c H locs 0 0 Q (F0 m 151 ls []) := by
    intro x1 x3 x4 x6 md k115 H locs ls hl hI hf hk115
    unfold f_X13_laysArcsOf_L151 at hf
    refine lv_aload_n hx hb dX13_laysArcsOf_151 rfl (lv_at hl 0 rfl) ?_
    refine g_Md_after X hI has_Md.l (X.fl w_1608) dX13_laysArcsOf_152 ?_
    refine lv_aload_n hx hb dX13_laysArcsOf_155 rfl (lv_at hl 0 rfl) ?_
    refine g_Md_row X hI has_Md.l (X.fl w_1609) dX13_laysArcsOf_156 ?_
    refine lv_iload hx hb dX13_laysArcsOf_159 (lv_at hl 4 rfl) ?_
    obtain ⟨h_, hf⟩ := ck_someM hf
    refine ld_I X hI has_Md_row.l h_ dX13_laysArcsOf_161 ?_
    obtain ⟨h_, hf⟩ := ck_someM hf
    refine ld_I X hI has_Md_after.l h_ dX13_laysArcsOf_162 ?_
    refine lv_iload hx hb dX13_laysArcsOf_163 (lv_at hl 3 rfl) ?_
    refine lv_icmp_ne (tgt := 181) hx hb dX13_laysArcsOf_165 (by decide) (fun h_ => ?_) (fun h_ => ?_)
    · replace hf := if_f h_ hf
      exact L_181 x1 x3 x4 x6 md _ _ _ _ hl hI hf hk115
    · replace hf := if_t h_ hf
      refine lv_aload_n hx hb dX13_laysArcsOf_168 rfl (lv_at hl 0 rfl) ?_
      refine g_Md_after X hI has_Md.l (X.fl w_1608) dX13_laysArcsOf_169 ?_
      refine lv_aload_n hx hb dX13_laysArcsOf_172 rfl (lv_at hl 0 rfl) ?_
      refine g_Md_row X hI has_Md.l (X.fl w_1609) dX13_laysArcsOf_173 ?_
      refine lv_iload hx hb dX13_laysArcsOf_176 (lv_at hl 4 rfl) ?_
      obtain ⟨h_, hf⟩ := ck_someM hf
      refine ld_I X hI has_Md_row.l h_ dX13_laysArcsOf_178 ?_
      refine lv_iload_n hx hb dX13_laysArcsOf_179 rfl (lv_at hl 2 rfl) ?_
      obtain ⟨h_, hf⟩ := ck_someM hf
      refine st_I X hI up_Md_after.l h_ dX13_laysArcsOf_180 (fun H locs hI => ?_)
      generalize hz_ : (Md_after' md (upd (Md_after md) (Int32.toNatClampNeg (Md_row md (Int32.toNatClampNeg x6))) x3)) = md_10 at hI hf
      clear hz_
      replace hf := lt_e hf
      exact L_181 x1 x3 x4 x6 md_10 _ _ _ _ hl hI hf hk115
  have L_115 : ∀ (n_ : Nat) (x1 : Int32) (x3 : Int32) (x4 : Int32) (x6 : Int32) (md : MdS) (H : Heap) (locs : List Loc) (ls : Array Slot), lv_has ls 8 [(0, .ref (a_md 0)), (1, .int x1), (3, .int x3), (4, .int x4), (6, .int x6)] → In g A s.heap s (wMd g a_md q_md_tangle q_md_read md ++ []) H locs → f_X13_laysArcsOf_L115 n_ x1 x3 x4 x6 md = some (o_md) → W p l e rm_X13_laysArcsOf s m args below meth c H locs 0 0 Q (F0 m 115 ls []) := by
    intro n_
    induction n_ with
    | zero =>
      intro x1 x3 x4 x6 md H locs ls hl hI hf
      rw [f_X13_laysArcsOf_L115] at hf
      cases hf
    | succ n_ ih =>
      intro x1 x3 x4 x6 md H locs ls hl hI hf
      rw [f_X13_laysArcsOf_L115] at hf
      refine lv_iload hx hb dX13_laysArcsOf_115 (lv_at hl 4 rfl) ?_
      refine lv_iload_n hx hb dX13_laysArcsOf_117 rfl (lv_at hl 1 rfl) ?_
      refine lv_icmp_ge (tgt := 187) hx hb dX13_laysArcsOf_118 (by decide) (fun h_ => ?_) (fun h_ => ?_)
      · replace hf := if_t h_ hf
        refine lv_aload_n hx hb dX13_laysArcsOf_187 rfl (lv_at hl 0 rfl) ?_
        refine lv_iload hx hb dX13_laysArcsOf_188 (lv_at hl 3 rfl) ?_
        refine p_Md_arcs X hI up_Md_arcs.l (X.fl w_1611) dX13_laysArcsOf_190 (fun H locs hI => ?_)
        generalize hz_ : (Md_arcs' md x4) = md_5 at hI hf
        clear hz_
        replace hf := lt_e hf
        cases hf
        exact end_v hQ hA X hI dX13_laysArcsOf_193
      · replace hf := if_f h_ hf
        refine lv_aload_n hx hb dX13_laysArcsOf_121 rfl (lv_at hl 0 rfl) ?_
        refine g_Md_ahead X hI has_Md.l (X.fl w_1607) dX13_laysArcsOf_122 ?_
        refine lv_aload_n hx hb dX13_laysArcsOf_125 rfl (lv_at hl 0 rfl) ?_
        refine g_Md_row X hI has_Md.l (X.fl w_1609) dX13_laysArcsOf_126 ?_
        refine lv_iload hx hb dX13_laysArcsOf_129 (lv_at hl 4 rfl) ?_
        obtain ⟨h_, hf⟩ := ck_someM hf
        refine ld_I X hI has_Md_row.l h_ dX13_laysArcsOf_131 ?_
        obtain ⟨h_, hf⟩ := ck_someM hf
        refine ld_I X hI has_Md_ahead.l h_ dX13_laysArcsOf_132 ?_
        refine lv_iload hx hb dX13_laysArcsOf_133 (lv_at hl 3 rfl) ?_
        refine lv_icmp_ne (tgt := 151) hx hb dX13_laysArcsOf_135 (by decide) (fun h_ => ?_) (fun h_ => ?_)
        · replace hf := if_f h_ hf
          exact L_151 x1 x3 x4 x6 md _ _ _ _ hl hI hf (fun z_0 z_1 z_2 z_3 z_4 _ _ _ hl hI hf => ih z_0 z_1 z_2 z_3 z_4 _ _ _ hl hI hf)
        · replace hf := if_t h_ hf
          refine lv_aload_n hx hb dX13_laysArcsOf_138 rfl (lv_at hl 0 rfl) ?_
          refine g_Md_ahead X hI has_Md.l (X.fl w_1607) dX13_laysArcsOf_139 ?_
          refine lv_aload_n hx hb dX13_laysArcsOf_142 rfl (lv_at hl 0 rfl) ?_
          refine g_Md_row X hI has_Md.l (X.fl w_1609) dX13_laysArcsOf_143 ?_
          refine lv_iload hx hb dX13_laysArcsOf_146 (lv_at hl 4 rfl) ?_
          obtain ⟨h_, hf⟩ := ck_someM hf
          refine ld_I X hI has_Md_row.l h_ dX13_laysArcsOf_148 ?_
          refine lv_iload_n hx hb dX13_laysArcsOf_149 rfl (lv_at hl 2 rfl) ?_
          obtain ⟨h_, hf⟩ := ck_someM hf
          refine st_I X hI up_Md_ahead.l h_ dX13_laysArcsOf_150 (fun H locs hI => ?_)
          generalize hz_ : (Md_ahead' md (upd (Md_ahead md) (Int32.toNatClampNeg (Md_row md (Int32.toNatClampNeg x6))) x3)) = md_6 at hI hf
          clear hz_
          replace hf := lt_e hf
          exact L_151 x1 x3 x4 x6 md_6 _ _ _ _ hl hI hf (fun z_0 z_1 z_2 z_3 z_4 _ _ _ hl hI hf => ih z_0 z_1 z_2 z_3 z_4 _ _ _ hl hI hf)
  have L_17 : ∀ (n_ : Nat) (x1 : Int32) (x2 : Int32) (x3 : Int32) (x4 : Int32) (x5 : Int32) (x6 : Int32) (md : MdS) (H : Heap) (locs : List Loc) (ls : Array Slot), lv_has ls 8 [(0, .ref (a_md 0)), (1, .int x1), (2, .int x2), (3, .int x3), (4, .int x4), (5, .int x5), (6, .int x6)] → In g A s.heap s (wMd g a_md q_md_tangle q_md_read md ++ []) H locs → f_X13_laysArcsOf_L17 n_ x1 x2 x3 x4 x5 x6 md = some (o_md) → W p l e rm_X13_laysArcsOf s m args below meth c H locs 0 0 Q (F0 m 17 ls []) := by
    intro n_
    induction n_ with
    | zero =>
      intro x1 x2 x3 x4 x5 x6 md H locs ls hl hI hf
      rw [f_X13_laysArcsOf_L17] at hf
      cases hf
    | succ n_ ih =>
      intro x1 x2 x3 x4 x5 x6 md H locs ls hl hI hf
      rw [f_X13_laysArcsOf_L17] at hf
      refine lv_iload hx hb dX13_laysArcsOf_17 (lv_at hl 6 rfl) ?_
      refine lv_iload_n hx hb dX13_laysArcsOf_19 rfl (lv_at hl 1 rfl) ?_
      refine lv_icmp_ge (tgt := 94) hx hb dX13_laysArcsOf_20 (by decide) (fun h_ => ?_) (fun h_ => ?_)
      · replace hf := if_t h_ hf
        refine lv_iload_n hx hb dX13_laysArcsOf_94 rfl (lv_at hl 2 rfl) ?_
        refine lv_if_ne (tgt := 103) hx hb dX13_laysArcsOf_95 (by decide) (fun h_ => ?_) (fun h_ => ?_)
        · replace hf := if_f h_ hf
          exact L_103 x4 md _ _ _ (lv_sub hl [0, 4] rfl) hI hf
        · replace hf := if_t h_ hf
          refine lv_iload hx hb dX13_laysArcsOf_98 (lv_at hl 5 rfl) ?_
          refine lv_if_ne (tgt := 112) hx hb dX13_laysArcsOf_100 (by decide) (fun h_ => ?_) (fun h_ => ?_)
          · replace hf := if_f h_ hf
            refine lv_iconst (v := 0) hx hb dX13_laysArcsOf_112 (by decide) ?_
            refine lv_istore (lv' := [(6, .int (0 : Int32)), (0, .ref (a_md 0)), (1, .int x1), (2, .int x2), (3, .int x3), (4, .int x4), (5, .int x5)]) hx hb dX13_laysArcsOf_113 hl (by decide) rfl (fun ls hl => ?_)
            exact L_115 FU x1 x3 x4 (0 : Int32) md _ _ _ (lv_sub hl [1, 2, 4, 5, 0] rfl) hI hf
          · replace hf := if_t h_ hf
            exact L_103 x4 md _ _ _ (lv_sub hl [0, 4] rfl) hI hf
      · replace hf := if_f h_ hf
        refine lv_aload_n hx hb dX13_laysArcsOf_23 rfl (lv_at hl 0 rfl) ?_
        refine g_Md_now X hI has_Md.l (X.fl w_1598) dX13_laysArcsOf_24 ?_
        refine lv_aload_n hx hb dX13_laysArcsOf_27 rfl (lv_at hl 0 rfl) ?_
        refine g_Md_row X hI has_Md.l (X.fl w_1609) dX13_laysArcsOf_28 ?_
        refine lv_iload hx hb dX13_laysArcsOf_31 (lv_at hl 6 rfl) ?_
        obtain ⟨h_, hf⟩ := ck_someM hf
        refine ld_I X hI has_Md_row.l h_ dX13_laysArcsOf_33 ?_
        obtain ⟨r_3, hc_, hf⟩ := bd1_some hf
        refine call_Si X hI Cj.nil (c_X13_at l g (Md_now md) (Md_row md (Int32.toNatClampNeg x6)) r_3 hc_) ⟨rfl, rfl⟩ ⟨ht _ w_2051, w_2053, ht _ w_155, lk_X13_at⟩ w_2052 rfl hl rfl rfl dX13_laysArcsOf_34 rfl rfl rfl rfl (fun H locs hI => ?_)
        refine lv_iconst (v := 1) hx hb dX13_laysArcsOf_37 (by decide) ?_
        refine lv_iand hx hb dX13_laysArcsOf_38 ?_
        refine lv_if_ne (tgt := 46) hx hb dX13_laysArcsOf_39 (by decide) (fun h_ => ?_) (fun h_ => ?_)
        · replace hf := if_f h_ hf
          refine lv_iconst (v := 0) hx hb dX13_laysArcsOf_46 (by decide) ?_
          exact L_47 x1 x2 x3 x4 x5 x6 (0 : Int32) md _ _ _ _ hl hI hf (fun z_0 z_1 z_2 z_3 z_4 z_5 z_6 _ _ _ hl hI hf => ih z_0 z_1 z_2 z_3 z_4 z_5 z_6 _ _ _ hl hI hf)
        · replace hf := if_t h_ hf
          refine lv_iconst (v := 1) hx hb dX13_laysArcsOf_42 (by decide) ?_
          refine lv_goto (tgt := 47) hx hb dX13_laysArcsOf_43 (by decide) ?_
          exact L_47 x1 x2 x3 x4 x5 x6 (1 : Int32) md _ _ _ _ hl hI hf (fun z_0 z_1 z_2 z_3 z_4 z_5 z_6 _ _ _ hl hI hf => ih z_0 z_1 z_2 z_3 z_4 z_5 z_6 _ _ _ hl hI hf)
  unfold f_X13_laysArcsOf at hf
  refine lv_aload_n hx hb dX13_laysArcsOf_0 rfl (lv_at hl 0 rfl) ?_
  refine g_Md_arcs X hI has_Md.l (X.fl w_1611) dX13_laysArcsOf_1 ?_
  refine lv_topi (fun v_1 e_ => ?_)
  replace hf := lt_to e_ hf
  clear e_
  refine lv_istore_n (lv' := [(3, .int v_1), (0, .ref (a_md 0)), (1, .int p1), (2, .int p2)]) hx hb dX13_laysArcsOf_4 rfl hl (by decide) rfl (fun ls hl => ?_)
  refine lv_aload_n hx hb dX13_laysArcsOf_5 rfl (lv_at hl 1 rfl) ?_
  refine g_Md_arcs X hI has_Md.l (X.fl w_1611) dX13_laysArcsOf_6 ?_
  refine lv_topi (fun v_2 e_ => ?_)
  replace hf := lt_to e_ hf
  clear e_
  refine lv_istore (lv' := [(4, .int v_2), (3, .int v_1), (0, .ref (a_md 0)), (1, .int p1), (2, .int p2)]) hx hb dX13_laysArcsOf_9 hl (by decide) rfl (fun ls hl => ?_)
  refine lv_iconst (v := 0) hx hb dX13_laysArcsOf_11 (by decide) ?_
  refine lv_istore (lv' := [(5, .int (0 : Int32)), (4, .int v_2), (3, .int v_1), (0, .ref (a_md 0)), (1, .int p1), (2, .int p2)]) hx hb dX13_laysArcsOf_12 hl (by decide) rfl (fun ls hl => ?_)
  refine lv_iconst (v := 0) hx hb dX13_laysArcsOf_14 (by decide) ?_
  refine lv_istore (lv' := [(6, .int (0 : Int32)), (5, .int (0 : Int32)), (4, .int v_2), (3, .int v_1), (0, .ref (a_md 0)), (1, .int p1), (2, .int p2)]) hx hb dX13_laysArcsOf_15 hl (by decide) rfl (fun ls hl => ?_)
  exact L_17 FU p1 p2 v_1 v_2 (0 : Int32) (0 : Int32) md _ _ _ (lv_sub hl [4, 5, 6, 3, 2, 1, 0] rfl) hI hf
abbrev rm_X13_laysArcs : Room := { frames := 2, cells := 0, slots := 0, locals := 49 }
set_option maxRecDepth 20000 in
theorem c_X13_laysArcs (l : Launch) (g : GT) (a_md : Nat → Nat) (a_tn : Nat → Nat) (q_md_read : Option Nat) (md : MdS) (tn : TnS) (o_md : MdS) (hf : f_X13_laysArcs md tn = some (o_md)) : CV l yX13_laysArcs cX13_laysArcs 7 none rm_X13_laysArcs g [.ref (a_md 0)] (wMd g a_md (some (a_tn 0)) q_md_read md ++ (wTn g a_tn tn ++ [])) (wMd g a_md (some (a_tn 0)) q_md_read o_md ++ (wTn g a_tn tn ++ [])) := by
  refine start2 (y := yX13_laysArcs) (cc := cX13_laysArcs) (n := 7) (av := [.ref (a_md 0)]) (ws := (wMd g a_md (some (a_tn 0)) q_md_read md ++ (wTn g a_tn tn ++ []))) (Qc := fun sz => QV g (wMd g a_md (some (a_tn 0)) q_md_read md ++ (wTn g a_tn tn ++ [])) (wMd g a_md (some (a_tn 0)) q_md_read o_md ++ (wTn g a_tn tn ++ [])) sz) (by decide) rfl ?_
  intro p e s m args below meth c ls Q A ha hQ hA X hl hI hin
  have X : Cx p s m args meth c cX13_laysArcs 7 RX13 none := X
  have hl : lv_has ls 7 [(0, .ref (a_md 0))] := hl
  obtain ⟨hx, hb, hml, hown, ht, hr, hlk⟩ := id X
  clear ha hin
  have L_179 : ∀ (x1 : Int32) (x2 : Int32) (x3 : Int32) (x4 : Int32) (x5 : Int32) (md : MdS) (k63 : (Int32) → (Int32) → (Int32) → (Int32) → (Int32) → (MdS) → (TnS) → Option ((MdS))) (H : Heap) (locs : List Loc) (ls : Array Slot), lv_has ls 7 [(0, .ref (a_md 0)), (1, .int x1), (2, .int x2), (3, .int x3), (4, .int x4), (5, .int x5)] → In g A s.heap s (wMd g a_md (some (a_tn 0)) q_md_read md ++ (wTn g a_tn tn ++ [])) H locs → f_X13_laysArcs_L179 x1 x2 x3 x4 x5 md tn k63 = some (o_md) → (∀ (x1 : Int32) (x2 : Int32) (x3 : Int32) (x4 : Int32) (x5 : Int32) (md : MdS) (H : Heap) (locs : List Loc) (ls : Array Slot), lv_has ls 7 [(0, .ref (a_md 0)), (1, .int x1), (2, .int x2), (3, .int x3), (4, .int x4), (5, .int x5)] → In g A s.heap s (wMd g a_md (some (a_tn 0)) q_md_read md ++ (wTn g a_tn tn ++ [])) H locs → k63 x1 x2 x3 x4 x5 md tn = some (o_md) → W p l e rm_X13_laysArcs s m args below meth c H locs 0 0 Q (F0 m 63 ls [])) → W p l e rm_X13_laysArcs s m args below meth c H locs 0 0 Q (F0 m 179 ls []) := by
    intro x1 x2 x3 x4 x5 md k63 H locs ls hl hI hf hk63
    unfold f_X13_laysArcs_L179 at hf
    obtain ⟨v_6, e_⟩ : ∃ y : Int32, y = (x5 + (1 : Int32)) := ⟨_, rfl⟩
    replace hf := lt_to e_ hf
    refine lv_iinc (v := v_6) (lv' := [(5, .int v_6), (0, .ref (a_md 0)), (1, .int x1), (2, .int x2), (3, .int x3), (4, .int x4)]) hx hb dX13_laysArcs_179 hl (k := 5) rfl (by rw [e_]; rfl) (by decide) rfl (fun ls hl => ?_)
    clear e_
    refine lv_goto (tgt := 63) hx hb dX13_laysArcs_182 (by decide) ?_
    exact hk63 x1 x2 x3 x4 v_6 md _ _ _ (lv_sub hl [1, 2, 3, 4, 5, 0] rfl) hI hf
  have L_162 : ∀ (x1 : Int32) (x2 : Int32) (x3 : Int32) (x4 : Int32) (x5 : Int32) (t0i : Int32) (t1i : Int32) (md : MdS) (k63 : (Int32) → (Int32) → (Int32) → (Int32) → (Int32) → (MdS) → (TnS) → Option ((MdS))) (H : Heap) (locs : List Loc) (ls : Array Slot), lv_has ls 7 [(0, .ref (a_md 0)), (1, .int x1), (2, .int x2), (3, .int x3), (4, .int x4), (5, .int x5)] → In g A s.heap s (wMd g a_md (some (a_tn 0)) q_md_read md ++ (wTn g a_tn tn ++ [])) H locs → f_X13_laysArcs_L162 x1 x2 x3 x4 x5 t0i t1i md tn k63 = some (o_md) → (∀ (x1 : Int32) (x2 : Int32) (x3 : Int32) (x4 : Int32) (x5 : Int32) (md : MdS) (H : Heap) (locs : List Loc) (ls : Array Slot), lv_has ls 7 [(0, .ref (a_md 0)), (1, .int x1), (2, .int x2), (3, .int x3), (4, .int x4), (5, .int x5)] → In g A s.heap s (wMd g a_md (some (a_tn 0)) q_md_read md ++ (wTn g a_tn tn ++ [])) H locs → k63 x1 x2 x3 x4 x5 md tn = some (o_md) → W p l e rm_X13_laysArcs s m args below meth c H locs 0 0 Q (F0 m 63 ls [])) → W p l e rm_X13_laysArcs s m args below meth c H locs 0 0 Q (F0 m 162 ls [.int t1i, .int t0i]) := by
    intro x1 x2 x3 x4 x5 t0i t1i md k63 H locs ls hl hI hf hk63
    unfold f_X13_laysArcs_L162 at hf
    refine lv_icmp_eq (tgt := 168) hx hb dX13_laysArcs_162 (by decide) (fun h_ => ?_) (fun h_ => ?_)
    · replace hf := if_t h_ hf
      refine lv_aload_n hx hb dX13_laysArcs_168 rfl (lv_at hl 0 rfl) ?_
      refine g_Md_row X hI has_Md.l (X.fl w_1609) dX13_laysArcs_169 ?_
      refine lv_iload_n hx hb dX13_laysArcs_172 rfl (lv_at hl 3 rfl) ?_
      refine lv_iload hx hb dX13_laysArcs_173 (lv_at hl 5 rfl) ?_
      obtain ⟨h_, hf⟩ := ck_someM hf
      refine st_I X hI up_Md_row.l h_ dX13_laysArcs_175 (fun H locs hI => ?_)
      generalize hz_ : (Md_row' md (upd (Md_row md) (Int32.toNatClampNeg x3) x5)) = md_7 at hI hf
      clear hz_
      replace hf := lt_e hf
      obtain ⟨v_8, e_⟩ : ∃ y : Int32, y = (x3 + (1 : Int32)) := ⟨_, rfl⟩
      replace hf := lt_to e_ hf
      refine lv_iinc (v := v_8) (lv' := [(3, .int v_8), (0, .ref (a_md 0)), (1, .int x1), (2, .int x2), (4, .int x4), (5, .int x5)]) hx hb dX13_laysArcs_176 hl (k := 3) rfl (by rw [e_]; rfl) (by decide) rfl (fun ls hl => ?_)
      clear e_
      exact L_179 x1 x2 v_8 x4 x5 md_7 _ _ _ _ (lv_sub hl [1, 2, 3, 0, 4, 5] rfl) hI hf hk63
    · replace hf := if_f h_ hf
      refine lv_goto (tgt := 179) hx hb dX13_laysArcs_165 (by decide) ?_
      exact L_179 x1 x2 x3 x4 x5 md _ _ _ _ hl hI hf hk63
  have L_148 : ∀ (x1 : Int32) (x2 : Int32) (x3 : Int32) (x4 : Int32) (x5 : Int32) (t0i : Int32) (md : MdS) (k63 : (Int32) → (Int32) → (Int32) → (Int32) → (Int32) → (MdS) → (TnS) → Option ((MdS))) (H : Heap) (locs : List Loc) (ls : Array Slot), lv_has ls 7 [(0, .ref (a_md 0)), (1, .int x1), (2, .int x2), (3, .int x3), (4, .int x4), (5, .int x5)] → In g A s.heap s (wMd g a_md (some (a_tn 0)) q_md_read md ++ (wTn g a_tn tn ++ [])) H locs → f_X13_laysArcs_L148 x1 x2 x3 x4 x5 t0i md tn k63 = some (o_md) → (∀ (x1 : Int32) (x2 : Int32) (x3 : Int32) (x4 : Int32) (x5 : Int32) (md : MdS) (H : Heap) (locs : List Loc) (ls : Array Slot), lv_has ls 7 [(0, .ref (a_md 0)), (1, .int x1), (2, .int x2), (3, .int x3), (4, .int x4), (5, .int x5)] → In g A s.heap s (wMd g a_md (some (a_tn 0)) q_md_read md ++ (wTn g a_tn tn ++ [])) H locs → k63 x1 x2 x3 x4 x5 md tn = some (o_md) → W p l e rm_X13_laysArcs s m args below meth c H locs 0 0 Q (F0 m 63 ls [])) → W p l e rm_X13_laysArcs s m args below meth c H locs 0 0 Q (F0 m 148 ls [.int t0i]) := by
    intro x1 x2 x3 x4 x5 t0i md k63 H locs ls hl hI hf hk63
    unfold f_X13_laysArcs_L148 at hf
    refine lv_istore (lv' := [(6, .int t0i), (0, .ref (a_md 0)), (1, .int x1), (2, .int x2), (3, .int x3), (4, .int x4), (5, .int x5)]) hx hb dX13_laysArcs_148 hl (by decide) rfl (fun ls hl => ?_)
    refine lv_iload hx hb dX13_laysArcs_150 (lv_at hl 0 rfl) ?_
    refine lv_iload hx hb dX13_laysArcs_152 (lv_at hl 5 rfl) ?_
    refine lv_if_ne (tgt := 161) hx hb dX13_laysArcs_154 (by decide) (fun h_ => ?_) (fun h_ => ?_)
    · replace hf := if_f h_ hf
      refine lv_iconst (v := 0) hx hb dX13_laysArcs_161 (by decide) ?_
      exact L_162 x1 x2 x3 x4 x5 t0i (0 : Int32) md _ _ _ _ (lv_sub hl [1, 2, 3, 4, 5, 6] rfl) hI hf hk63
    · replace hf := if_t h_ hf
      refine lv_iconst (v := 1) hx hb dX13_laysArcs_157 (by decide) ?_
      refine lv_goto (tgt := 162) hx hb dX13_laysArcs_158 (by decide) ?_
      exact L_162 x1 x2 x3 x4 x5 t0i (1 : Int32) md _ _ _ _ (lv_sub hl [1, 2, 3, 4, 5, 6] rfl) hI hf hk63
  have L_143 : ∀ (x1 : Int32) (x2 : Int32) (x3 : Int32) (x4 : Int32) (x5 : Int32) (md : MdS) (k63 : (Int32) → (Int32) → (Int32) → (Int32) → (Int32) → (MdS) → (TnS) → Option ((MdS))) (H : Heap) (locs : List Loc) (ls : Array Slot), lv_has ls 7 [(0, .ref (a_md 0)), (1, .int x1), (2, .int x2), (3, .int x3), (4, .int x4), (5, .int x5)] → In g A s.heap s (wMd g a_md (some (a_tn 0)) q_md_read md ++ (wTn g a_tn tn ++ [])) H locs → f_X13_laysArcs_L143 x1 x2 x3 x4 x5 md tn k63 = some (o_md) → (∀ (x1 : Int32) (x2 : Int32) (x3 : Int32) (x4 : Int32) (x5 : Int32) (md : MdS) (H : Heap) (locs : List Loc) (ls : Array Slot), lv_has ls 7 [(0, .ref (a_md 0)), (1, .int x1), (2, .int x2), (3, .int x3), (4, .int x4), (5, .int x5)] → In g A s.heap s (wMd g a_md (some (a_tn 0)) q_md_read md ++ (wTn g a_tn tn ++ [])) H locs → k63 x1 x2 x3 x4 x5 md tn = some (o_md) → W p l e rm_X13_laysArcs s m args below meth c H locs 0 0 Q (F0 m 63 ls [])) → W p l e rm_X13_laysArcs s m args below meth c H locs 0 0 Q (F0 m 143 ls []) := by
    intro x1 x2 x3 x4 x5 md k63 H locs ls hl hI hf hk63
    unfold f_X13_laysArcs_L143 at hf
    refine lv_iconst (v := 1) hx hb dX13_laysArcs_143 (by decide) ?_
    refine lv_goto (tgt := 148) hx hb dX13_laysArcs_144 (by decide) ?_
    exact L_148 x1 x2 x3 x4 x5 (1 : Int32) md _ _ _ _ hl hI hf hk63
  have L_63 : ∀ (n_ : Nat) (x1 : Int32) (x2 : Int32) (x3 : Int32) (x4 : Int32) (x5 : Int32) (md : MdS) (k54 : (Int32) → (Int32) → (Int32) → (Int32) → (MdS) → (TnS) → Option ((MdS))) (H : Heap) (locs : List Loc) (ls : Array Slot), lv_has ls 7 [(0, .ref (a_md 0)), (1, .int x1), (2, .int x2), (3, .int x3), (4, .int x4), (5, .int x5)] → In g A s.heap s (wMd g a_md (some (a_tn 0)) q_md_read md ++ (wTn g a_tn tn ++ [])) H locs → f_X13_laysArcs_L63 n_ x1 x2 x3 x4 x5 md tn k54 = some (o_md) → (∀ (x1 : Int32) (x2 : Int32) (x3 : Int32) (x4 : Int32) (md : MdS) (H : Heap) (locs : List Loc) (ls : Array Slot), lv_has ls 7 [(0, .ref (a_md 0)), (1, .int x1), (2, .int x2), (3, .int x3), (4, .int x4)] → In g A s.heap s (wMd g a_md (some (a_tn 0)) q_md_read md ++ (wTn g a_tn tn ++ [])) H locs → k54 x1 x2 x3 x4 md tn = some (o_md) → W p l e rm_X13_laysArcs s m args below meth c H locs 0 0 Q (F0 m 54 ls [])) → W p l e rm_X13_laysArcs s m args below meth c H locs 0 0 Q (F0 m 63 ls []) := by
    intro n_
    induction n_ with
    | zero =>
      intro x1 x2 x3 x4 x5 md k54 H locs ls hl hI hf hk54
      rw [f_X13_laysArcs_L63] at hf
      cases hf
    | succ n_ ih =>
      intro x1 x2 x3 x4 x5 md k54 H locs ls hl hI hf hk54
      rw [f_X13_laysArcs_L63] at hf
      refine lv_iload hx hb dX13_laysArcs_63 (lv_at hl 5 rfl) ?_
      refine lv_aload_n hx hb dX13_laysArcs_65 rfl (lv_at hl 0 rfl) ?_
      refine g_Md_tangle_S X hI has_Md.l (X.fl w_1586) dX13_laysArcs_66 ?_
      refine g_Tn_standings X hI has_Tn.l.r (hI.fn (List.mem_of_getElem? (i := 85) rfl)) dX13_laysArcs_69 ?_
      refine lv_icmp_ge (tgt := 185) hx hb dX13_laysArcs_72 (by decide) (fun h_ => ?_) (fun h_ => ?_)
      · replace hf := if_t h_ hf
        obtain ⟨v_4, e_⟩ : ∃ y : Int32, y = (x4 + (1 : Int32)) := ⟨_, rfl⟩
        replace hf := lt_to e_ hf
        refine lv_iinc (v := v_4) (lv' := [(4, .int v_4), (0, .ref (a_md 0)), (1, .int x1), (2, .int x2), (3, .int x3), (5, .int x5)]) hx hb dX13_laysArcs_185 hl (k := 4) rfl (by rw [e_]; rfl) (by decide) rfl (fun ls hl => ?_)
        clear e_
        refine lv_goto (tgt := 54) hx hb dX13_laysArcs_188 (by decide) ?_
        exact hk54 x1 x2 x3 v_4 md _ _ _ (lv_sub hl [1, 2, 3, 4, 0] rfl) hI hf
      · replace hf := if_f h_ hf
        refine lv_aload_n hx hb dX13_laysArcs_75 rfl (lv_at hl 0 rfl) ?_
        refine g_Md_tangle_S X hI has_Md.l (X.fl w_1586) dX13_laysArcs_76 ?_
        refine g_Tn_standRing X hI has_Tn.l.r (hI.fn (List.mem_of_getElem? (i := 108) rfl)) dX13_laysArcs_79 ?_
        refine lv_iload hx hb dX13_laysArcs_82 (lv_at hl 5 rfl) ?_
        obtain ⟨h_, hf⟩ := ck_someM hf
        refine ld_I X hI has_Tn_standRing.l.r h_ dX13_laysArcs_84 ?_
        refine lv_iload_n hx hb dX13_laysArcs_85 rfl (lv_at hl 1 rfl) ?_
        refine lv_icmp_ne (tgt := 179) hx hb dX13_laysArcs_86 (by decide) (fun h_ => ?_) (fun h_ => ?_)
        · replace hf := if_f h_ hf
          exact L_179 x1 x2 x3 x4 x5 md _ _ _ _ hl hI hf (fun z_0 z_1 z_2 z_3 z_4 z_5 _ _ _ hl hI hf => ih z_0 z_1 z_2 z_3 z_4 z_5 k54 _ _ _ hl hI hf hk54)
        · replace hf := if_t h_ hf
          refine lv_aload_n hx hb dX13_laysArcs_89 rfl (lv_at hl 0 rfl) ?_
          refine g_Md_now X hI has_Md.l (X.fl w_1598) dX13_laysArcs_90 ?_
          refine lv_iload hx hb dX13_laysArcs_93 (lv_at hl 5 rfl) ?_
          obtain ⟨r_5, hc_, hf⟩ := bd1_some hf
          refine call_Si X hI Cj.nil (c_X13_at l g (Md_now md) x5 r_5 hc_) ⟨rfl, rfl⟩ ⟨ht _ w_2051, w_2053, ht _ w_155, lk_X13_at⟩ w_2052 rfl hl rfl rfl dX13_laysArcs_95 rfl rfl rfl rfl (fun H locs hI => ?_)
          refine lv_bipush (v := 15) hx hb dX13_laysArcs_98 (by decide) ?_
          refine lv_icmp_ne (tgt := 106) hx hb dX13_laysArcs_100 (by decide) (fun h_ => ?_) (fun h_ => ?_)
          · replace hf := if_f h_ hf
            refine lv_iload_n hx hb dX13_laysArcs_106 rfl (lv_at hl 2 rfl) ?_
            refine lv_if_eq (tgt := 143) hx hb dX13_laysArcs_107 (by decide) (fun h_ => ?_) (fun h_ => ?_)
            · replace hf := if_t h_ hf
              exact L_143 x1 x2 x3 x4 x5 md _ _ _ _ hl hI hf (fun z_0 z_1 z_2 z_3 z_4 z_5 _ _ _ hl hI hf => ih z_0 z_1 z_2 z_3 z_4 z_5 k54 _ _ _ hl hI hf hk54)
            · replace hf := if_f h_ hf
              refine lv_aload_n hx hb dX13_laysArcs_110 rfl (lv_at hl 0 rfl) ?_
              refine g_Md_tangle_S X hI has_Md.l (X.fl w_1586) dX13_laysArcs_111 ?_
              refine g_Tn_linkRow X hI has_Tn.l.r (hI.fn (List.mem_of_getElem? (i := 104) rfl)) dX13_laysArcs_114 ?_
              refine lv_aload_n hx hb dX13_laysArcs_117 rfl (lv_at hl 0 rfl) ?_
              refine g_Md_tangle_S X hI has_Md.l (X.fl w_1586) dX13_laysArcs_118 ?_
              refine g_Tn_standLink X hI has_Tn.l.r (hI.fn (List.mem_of_getElem? (i := 109) rfl)) dX13_laysArcs_121 ?_
              refine lv_iload hx hb dX13_laysArcs_124 (lv_at hl 5 rfl) ?_
              obtain ⟨h_, hf⟩ := ck_someM hf
              refine ld_I X hI has_Tn_standLink.l.r h_ dX13_laysArcs_126 ?_
              obtain ⟨h_, hf⟩ := ck_someM hf
              refine ld_I X hI has_Tn_linkRow.l.r h_ dX13_laysArcs_127 ?_
              refine lv_aload_n hx hb dX13_laysArcs_128 rfl (lv_at hl 0 rfl) ?_
              refine g_Md_tangle_S X hI has_Md.l (X.fl w_1586) dX13_laysArcs_129 ?_
              refine g_Tn_linkRow X hI has_Tn.l.r (hI.fn (List.mem_of_getElem? (i := 104) rfl)) dX13_laysArcs_132 ?_
              refine lv_aload_n hx hb dX13_laysArcs_135 rfl (lv_at hl 0 rfl) ?_
              refine g_Md_parted X hI has_Md.l (X.fl w_1599) dX13_laysArcs_136 ?_
              obtain ⟨h_, hf⟩ := ck_someM hf
              refine ld_I X hI has_Tn_linkRow.l.r h_ dX13_laysArcs_139 ?_
              refine lv_icmp_le (tgt := 147) hx hb dX13_laysArcs_140 (by decide) (fun h_ => ?_) (fun h_ => ?_)
              · replace hf := if_t h_ hf
                refine lv_iconst (v := 0) hx hb dX13_laysArcs_147 (by decide) ?_
                exact L_148 x1 x2 x3 x4 x5 (0 : Int32) md _ _ _ _ hl hI hf (fun z_0 z_1 z_2 z_3 z_4 z_5 _ _ _ hl hI hf => ih z_0 z_1 z_2 z_3 z_4 z_5 k54 _ _ _ hl hI hf hk54)
              · replace hf := if_f h_ hf
                exact L_143 x1 x2 x3 x4 x5 md _ _ _ _ hl hI hf (fun z_0 z_1 z_2 z_3 z_4 z_5 _ _ _ hl hI hf => ih z_0 z_1 z_2 z_3 z_4 z_5 k54 _ _ _ hl hI hf hk54)
          · replace hf := if_t h_ hf
            refine lv_goto (tgt := 179) hx hb dX13_laysArcs_103 (by decide) ?_
            exact L_179 x1 x2 x3 x4 x5 md _ _ _ _ hl hI hf (fun z_0 z_1 z_2 z_3 z_4 z_5 _ _ _ hl hI hf => ih z_0 z_1 z_2 z_3 z_4 z_5 k54 _ _ _ hl hI hf hk54)
  have L_54 : ∀ (n_ : Nat) (x1 : Int32) (x2 : Int32) (x3 : Int32) (x4 : Int32) (md : MdS) (k7 : (Int32) → (MdS) → (TnS) → Option ((MdS))) (H : Heap) (locs : List Loc) (ls : Array Slot), lv_has ls 7 [(0, .ref (a_md 0)), (1, .int x1), (2, .int x2), (3, .int x3), (4, .int x4)] → In g A s.heap s (wMd g a_md (some (a_tn 0)) q_md_read md ++ (wTn g a_tn tn ++ [])) H locs → f_X13_laysArcs_L54 n_ x1 x2 x3 x4 md tn k7 = some (o_md) → (∀ (x1 : Int32) (md : MdS) (H : Heap) (locs : List Loc) (ls : Array Slot), lv_has ls 7 [(0, .ref (a_md 0)), (1, .int x1)] → In g A s.heap s (wMd g a_md (some (a_tn 0)) q_md_read md ++ (wTn g a_tn tn ++ [])) H locs → k7 x1 md tn = some (o_md) → W p l e rm_X13_laysArcs s m args below meth c H locs 0 0 Q (F0 m 7 ls [])) → W p l e rm_X13_laysArcs s m args below meth c H locs 0 0 Q (F0 m 54 ls []) := by
    intro n_
    induction n_ with
    | zero =>
      intro x1 x2 x3 x4 md k7 H locs ls hl hI hf hk7
      rw [f_X13_laysArcs_L54] at hf
      cases hf
    | succ n_ ih =>
      intro x1 x2 x3 x4 md k7 H locs ls hl hI hf hk7
      rw [f_X13_laysArcs_L54] at hf
      refine lv_iload hx hb dX13_laysArcs_54 (lv_at hl 4 rfl) ?_
      refine lv_iconst (v := 2) hx hb dX13_laysArcs_56 (by decide) ?_
      refine lv_icmp_ge (tgt := 191) hx hb dX13_laysArcs_57 (by decide) (fun h_ => ?_) (fun h_ => ?_)
      · replace hf := if_t h_ hf
        refine lv_aload_n hx hb dX13_laysArcs_191 rfl (lv_at hl 0 rfl) ?_
        refine lv_iload_n hx hb dX13_laysArcs_192 rfl (lv_at hl 3 rfl) ?_
        refine lv_iload_n hx hb dX13_laysArcs_193 rfl (lv_at hl 2 rfl) ?_
        obtain ⟨md_2, hc_, hf⟩ := bd1_some hf
        refine call_Vv X hI (Cj.keep Cj.nil) (c_X13_laysArcsOf l g a_md (some (a_tn 0)) q_md_read md x3 x2 md_2 hc_) ⟨rfl, rfl⟩ ⟨ht _ w_2220, w_2223, ht _ w_155, lk_X13_laysArcsOf⟩ w_2222 w_122 rfl rfl rfl hl rfl rfl dX13_laysArcs_194 rfl rfl rfl rfl (fun H locs hI => ?_)
        obtain ⟨v_3, e_⟩ : ∃ y : Int32, y = (x1 + (1 : Int32)) := ⟨_, rfl⟩
        replace hf := lt_to e_ hf
        refine lv_iinc (v := v_3) (lv' := [(1, .int v_3), (0, .ref (a_md 0)), (2, .int x2), (3, .int x3), (4, .int x4)]) hx hb dX13_laysArcs_197 hl (k := 1) rfl (by rw [e_]; rfl) (by decide) rfl (fun ls hl => ?_)
        clear e_
        refine lv_goto (tgt := 7) hx hb dX13_laysArcs_200 (by decide) ?_
        exact hk7 v_3 md_2 _ _ _ (lv_sub hl [1, 0] rfl) hI hf
      · replace hf := if_f h_ hf
        refine lv_iconst (v := 0) hx hb dX13_laysArcs_60 (by decide) ?_
        refine lv_istore (lv' := [(5, .int (0 : Int32)), (0, .ref (a_md 0)), (1, .int x1), (2, .int x2), (3, .int x3), (4, .int x4)]) hx hb dX13_laysArcs_61 hl (by decide) rfl (fun ls hl => ?_)
        exact L_63 FU x1 x2 x3 x4 (0 : Int32) md _ _ _ _ (lv_sub hl [1, 2, 3, 4, 5, 0] rfl) hI hf (fun z_0 z_1 z_2 z_3 z_4 _ _ _ hl hI hf => ih z_0 z_1 z_2 z_3 z_4 k7 _ _ _ hl hI hf hk7)
  have L_48 : ∀ (x1 : Int32) (t0i : Int32) (md : MdS) (k7 : (Int32) → (MdS) → (TnS) → Option ((MdS))) (H : Heap) (locs : List Loc) (ls : Array Slot), lv_has ls 7 [(0, .ref (a_md 0)), (1, .int x1)] → In g A s.heap s (wMd g a_md (some (a_tn 0)) q_md_read md ++ (wTn g a_tn tn ++ [])) H locs → f_X13_laysArcs_L48 x1 t0i md tn k7 = some (o_md) → (∀ (x1 : Int32) (md : MdS) (H : Heap) (locs : List Loc) (ls : Array Slot), lv_has ls 7 [(0, .ref (a_md 0)), (1, .int x1)] → In g A s.heap s (wMd g a_md (some (a_tn 0)) q_md_read md ++ (wTn g a_tn tn ++ [])) H locs → k7 x1 md tn = some (o_md) → W p l e rm_X13_laysArcs s m args below meth c H locs 0 0 Q (F0 m 7 ls [])) → W p l e rm_X13_laysArcs s m args below meth c H locs 0 0 Q (F0 m 48 ls [.int t0i]) := by
    intro x1 t0i md k7 H locs ls hl hI hf hk7
    unfold f_X13_laysArcs_L48 at hf
    refine lv_istore_n (lv' := [(2, .int t0i), (0, .ref (a_md 0)), (1, .int x1)]) hx hb dX13_laysArcs_48 rfl hl (by decide) rfl (fun ls hl => ?_)
    refine lv_iconst (v := 0) hx hb dX13_laysArcs_49 (by decide) ?_
    refine lv_istore_n (lv' := [(3, .int (0 : Int32)), (2, .int t0i), (0, .ref (a_md 0)), (1, .int x1)]) hx hb dX13_laysArcs_50 rfl hl (by decide) rfl (fun ls hl => ?_)
    refine lv_iconst (v := 0) hx hb dX13_laysArcs_51 (by decide) ?_
    refine lv_istore (lv' := [(4, .int (0 : Int32)), (3, .int (0 : Int32)), (2, .int t0i), (0, .ref (a_md 0)), (1, .int x1)]) hx hb dX13_laysArcs_52 hl (by decide) rfl (fun ls hl => ?_)
    exact L_54 FU x1 t0i (0 : Int32) (0 : Int32) md _ _ _ _ (lv_sub hl [3, 4, 2, 1, 0] rfl) hI hf hk7
  have L_47 : ∀ (x1 : Int32) (md : MdS) (k7 : (Int32) → (MdS) → (TnS) → Option ((MdS))) (H : Heap) (locs : List Loc) (ls : Array Slot), lv_has ls 7 [(0, .ref (a_md 0)), (1, .int x1)] → In g A s.heap s (wMd g a_md (some (a_tn 0)) q_md_read md ++ (wTn g a_tn tn ++ [])) H locs → f_X13_laysArcs_L47 x1 md tn k7 = some (o_md) → (∀ (x1 : Int32) (md : MdS) (H : Heap) (locs : List Loc) (ls : Array Slot), lv_has ls 7 [(0, .ref (a_md 0)), (1, .int x1)] → In g A s.heap s (wMd g a_md (some (a_tn 0)) q_md_read md ++ (wTn g a_tn tn ++ [])) H locs → k7 x1 md tn = some (o_md) → W p l e rm_X13_laysArcs s m args below meth c H locs 0 0 Q (F0 m 7 ls [])) → W p l e rm_X13_laysArcs s m args below meth c H locs 0 0 Q (F0 m 47 ls []) := by
    intro x1 md k7 H locs ls hl hI hf hk7
    unfold f_X13_laysArcs_L47 at hf
    refine lv_iconst (v := 0) hx hb dX13_laysArcs_47 (by decide) ?_
    exact L_48 x1 (0 : Int32) md _ _ _ _ hl hI hf hk7
  have L_7 : ∀ (n_ : Nat) (x1 : Int32) (md : MdS) (H : Heap) (locs : List Loc) (ls : Array Slot), lv_has ls 7 [(0, .ref (a_md 0)), (1, .int x1)] → In g A s.heap s (wMd g a_md (some (a_tn 0)) q_md_read md ++ (wTn g a_tn tn ++ [])) H locs → f_X13_laysArcs_L7 n_ x1 md tn = some (o_md) → W p l e rm_X13_laysArcs s m args below meth c H locs 0 0 Q (F0 m 7 ls []) := by
    intro n_
    induction n_ with
    | zero =>
      intro x1 md H locs ls hl hI hf
      rw [f_X13_laysArcs_L7] at hf
      cases hf
    | succ n_ ih =>
      intro x1 md H locs ls hl hI hf
      rw [f_X13_laysArcs_L7] at hf
      refine lv_iload_n hx hb dX13_laysArcs_7 rfl (lv_at hl 1 rfl) ?_
      refine lv_aload_n hx hb dX13_laysArcs_8 rfl (lv_at hl 0 rfl) ?_
      refine g_Md_tangle_S X hI has_Md.l (X.fl w_1586) dX13_laysArcs_9 ?_
      refine g_Tn_rings X hI has_Tn.l.r (hI.fn (List.mem_of_getElem? (i := 84) rfl)) dX13_laysArcs_12 ?_
      refine lv_icmp_ge (tgt := 203) hx hb dX13_laysArcs_15 (by decide) (fun h_ => ?_) (fun h_ => ?_)
      · replace hf := if_t h_ hf
        cases hf
        exact end_v hQ hA X hI dX13_laysArcs_203
      · replace hf := if_f h_ hf
        refine lv_aload_n hx hb dX13_laysArcs_18 rfl (lv_at hl 0 rfl) ?_
        refine g_Md_parted X hI has_Md.l (X.fl w_1599) dX13_laysArcs_19 ?_
        refine lv_bipush (v := (-2)) hx hb dX13_laysArcs_22 (by decide) ?_
        refine lv_icmp_eq (tgt := 47) hx hb dX13_laysArcs_24 (by decide) (fun h_ => ?_) (fun h_ => ?_)
        · replace hf := if_t h_ hf
          exact L_47 x1 md _ _ _ _ hl hI hf (fun z_0 z_1 _ _ _ hl hI hf => ih z_0 z_1 _ _ _ hl hI hf)
        · replace hf := if_f h_ hf
          refine lv_aload_n hx hb dX13_laysArcs_27 rfl (lv_at hl 0 rfl) ?_
          refine g_Md_tangle_S X hI has_Md.l (X.fl w_1586) dX13_laysArcs_28 ?_
          refine g_Tn_linkRing X hI has_Tn.l.r (hI.fn (List.mem_of_getElem? (i := 103) rfl)) dX13_laysArcs_31 ?_
          refine lv_aload_n hx hb dX13_laysArcs_34 rfl (lv_at hl 0 rfl) ?_
          refine g_Md_parted X hI has_Md.l (X.fl w_1599) dX13_laysArcs_35 ?_
          obtain ⟨h_, hf⟩ := ck_someM hf
          refine ld_I X hI has_Tn_linkRing.l.r h_ dX13_laysArcs_38 ?_
          refine lv_iload_n hx hb dX13_laysArcs_39 rfl (lv_at hl 1 rfl) ?_
          refine lv_icmp_ne (tgt := 47) hx hb dX13_laysArcs_40 (by decide) (fun h_ => ?_) (fun h_ => ?_)
          · replace hf := if_f h_ hf
            exact L_47 x1 md _ _ _ _ hl hI hf (fun z_0 z_1 _ _ _ hl hI hf => ih z_0 z_1 _ _ _ hl hI hf)
          · replace hf := if_t h_ hf
            refine lv_iconst (v := 1) hx hb dX13_laysArcs_43 (by decide) ?_
            refine lv_goto (tgt := 48) hx hb dX13_laysArcs_44 (by decide) ?_
            exact L_48 x1 (1 : Int32) md _ _ _ _ hl hI hf (fun z_0 z_1 _ _ _ hl hI hf => ih z_0 z_1 _ _ _ hl hI hf)
  unfold f_X13_laysArcs at hf
  refine lv_aload_n hx hb dX13_laysArcs_0 rfl (lv_at hl 0 rfl) ?_
  refine lv_iconst (v := 0) hx hb dX13_laysArcs_1 (by decide) ?_
  refine p_Md_arcs X hI up_Md_arcs.l (X.fl w_1611) dX13_laysArcs_2 (fun H locs hI => ?_)
  generalize hz_ : (Md_arcs' md (0 : Int32)) = md_1 at hI hf
  clear hz_
  replace hf := lt_e hf
  refine lv_iconst (v := 0) hx hb dX13_laysArcs_5 (by decide) ?_
  refine lv_istore_n (lv' := [(1, .int (0 : Int32)), (0, .ref (a_md 0))]) hx hb dX13_laysArcs_6 rfl hl (by decide) rfl (fun ls hl => ?_)
  exact L_7 FU (0 : Int32) md_1 _ _ _ (lv_sub hl [1, 0] rfl) hI hf
