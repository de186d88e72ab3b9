abbrev rm_X7_forget : Room := { frames := 0, cells := 0, slots := 0, locals := 0 }
set_option maxRecDepth 20000 in
theorem c_X7_forget (l : Launch) (g : GT) (a_se : Nat → Nat) (q_se_board : Nat) (se : SeS) (o_se : SeS) (hf : f_X7_forget se = some (o_se)) : CV l yX7_forget cX7_forget 2 none rm_X7_forget g [.ref (a_se 0)] (wSe g a_se q_se_board se ++ []) (wSe g a_se q_se_board o_se ++ []) := by
  refine start2 (y := yX7_forget) (cc := cX7_forget) (n := 2) (av := [.ref (a_se 0)]) (ws := (wSe g a_se q_se_board se ++ [])) (Qc := fun sz => QV g (wSe g a_se q_se_board se ++ []) (wSe g a_se q_se_board o_se ++ []) sz) (by decide) rfl ?_
  intro p e s m args below meth c ls Q A ha hQ hA X hl hI hin
  have X : Cx p s m args meth c cX7_forget 2 RX7 none := X
  have hl : lv_has ls 2 [(0, .ref (a_se 0))] := hl
  obtain ⟨hx, hb, hml, hown, ht, hr, hlk⟩ := id X
  clear ha hin
  have L_2 : ∀ (n_ : Nat) (x1 : Int32) (se : SeS) (H : Heap) (locs : List Loc) (ls : Array Slot), lv_has ls 2 [(0, .ref (a_se 0)), (1, .int x1)] → In g A s.heap s (wSe g a_se q_se_board se ++ []) H locs → f_X7_forget_L2 n_ x1 se = some (o_se) → W p l e rm_X7_forget s m args below meth c H locs 0 0 Q (F0 m 2 ls []) := by
    intro n_
    induction n_ with
    | zero =>
      intro x1 se H locs ls hl hI hf
      rw [f_X7_forget_L2] at hf
      cases hf
    | succ n_ ih =>
      intro x1 se H locs ls hl hI hf
      rw [f_X7_forget_L2] at hf
      refine lv_iload_n hx hb dX7_forget_2 rfl (lv_at hl 1 rfl) ?_
      refine lv_aload_n hx hb dX7_forget_3 rfl (lv_at hl 0 rfl) ?_
      refine g_Se_count X hI has_Se.l (X.fl w_601) dX7_forget_4 ?_
      refine lv_icmp_ge (tgt := 28) hx hb dX7_forget_7 (by decide) (fun h_ => ?_) (fun h_ => ?_)
      · replace hf := if_t h_ hf
        refine lv_aload_n hx hb dX7_forget_28 rfl (lv_at hl 0 rfl) ?_
        refine lv_iconst (v := 0) hx hb dX7_forget_29 (by decide) ?_
        refine p_Se_count X hI up_Se_count.l (X.fl w_601) dX7_forget_30 (fun H locs hI => ?_)
        generalize hz_ : (Se_count' se (0 : Int32)) = se_1 at hI hf
        clear hz_
        replace hf := lt_e hf
        refine lv_aload_n hx hb dX7_forget_33 rfl (lv_at hl 0 rfl) ?_
        refine lv_iconst (v := (-1)) hx hb dX7_forget_34 (by decide) ?_
        refine p_Se_looseAt X hI up_Se_looseAt.l (X.fl w_602) dX7_forget_35 (fun H locs hI => ?_)
        generalize hz_ : (Se_looseAt' se_1 (-1 : Int32)) = se_2 at hI hf
        clear hz_
        replace hf := lt_e hf
        refine lv_aload_n hx hb dX7_forget_38 rfl (lv_at hl 0 rfl) ?_
        refine lv_iconst (v := 0) hx hb dX7_forget_39 (by decide) ?_
        refine p_Se_over X hI up_Se_over.l (X.fl w_603) (by decide) dX7_forget_40 (fun H locs hI => ?_)
        generalize hz_ : (Se_over' se_2 (0 : Int32)) = se_3 at hI hf
        clear hz_
        replace hf := lt_e hf
        cases hf
        exact end_v hQ hA X hI dX7_forget_43
      · replace hf := if_f h_ hf
        refine lv_aload_n hx hb dX7_forget_10 rfl (lv_at hl 0 rfl) ?_
        refine g_Se_table X hI has_Se.l (X.fl w_600) dX7_forget_11 ?_
        refine lv_aload_n hx hb dX7_forget_14 rfl (lv_at hl 0 rfl) ?_
        refine g_Se_slots X hI has_Se.l (X.fl w_599) dX7_forget_15 ?_
        refine lv_iload_n hx hb dX7_forget_18 rfl (lv_at hl 1 rfl) ?_
        obtain ⟨h_, hf⟩ := ck_someM hf
        refine ld_I X hI has_Se_slots.l h_ dX7_forget_19 ?_
        refine lv_iconst (v := 0) hx hb dX7_forget_20 (by decide) ?_
        obtain ⟨h_, hf⟩ := ck_someM hf
        refine st_I X hI up_Se_table.l h_ dX7_forget_21 (fun H locs hI => ?_)
        generalize hz_ : (Se_table' se (upd (Se_table se) (Int32.toNatClampNeg (Se_slots se (Int32.toNatClampNeg x1))) (0 : Int32))) = se_4 at hI hf
        clear hz_
        replace hf := lt_e hf
        obtain ⟨v_5, e_⟩ : ∃ y : Int32, y = (x1 + (1 : Int32)) := ⟨_, rfl⟩
        replace hf := lt_to e_ hf
        refine lv_iinc (v := v_5) (lv' := [(1, .int v_5), (0, .ref (a_se 0))]) hx hb dX7_forget_22 hl (k := 1) rfl (by rw [e_]; rfl) (by decide) rfl (fun ls hl => ?_)
        clear e_
        refine lv_goto (tgt := 2) hx hb dX7_forget_25 (by decide) ?_
        exact ih v_5 se_4 _ _ _ (lv_sub hl [1, 0] rfl) hI hf
  unfold f_X7_forget at hf
  refine lv_iconst (v := 0) hx hb dX7_forget_0 (by decide) ?_
  refine lv_istore_n (lv' := [(1, .int (0 : Int32)), (0, .ref (a_se 0))]) hx hb dX7_forget_1 rfl hl (by decide) rfl (fun ls hl => ?_)
  exact L_2 FU (0 : Int32) se _ _ _ (lv_sub hl [1, 0] rfl) hI hf
abbrev rm_X7_slotFor : Room := { frames := 0, cells := 0, slots := 0, locals := 0 }
set_option maxRecDepth 20000 in
theorem c_X7_slotFor (l : Launch) (g : GT) (a_se : Nat → Nat) (q_se_board : Nat) (se : SeS) (p1 : Int64) (r_ : Int32) (hf : f_X7_slotFor se p1 = some (r_)) : CI l yX7_slotFor cX7_slotFor 6 (some .int) rm_X7_slotFor g [.ref (a_se 0), .long p1] (wSe g a_se q_se_board se ++ []) (wSe g a_se q_se_board se ++ []) r_ := by
  refine start2 (y := yX7_slotFor) (cc := cX7_slotFor) (n := 6) (av := [.ref (a_se 0), .long p1]) (ws := (wSe g a_se q_se_board se ++ [])) (Qc := fun sz => QI g (wSe g a_se q_se_board se ++ []) (wSe g a_se q_se_board se ++ []) r_ sz) (by decide) rfl ?_
  intro p e s m args below meth c ls Q A ha hQ hA X hl hI hin
  have X : Cx p s m args meth c cX7_slotFor 6 RX7 (some .int) := X
  have hl : lv_has ls 6 [(0, .ref (a_se 0)), (1, .long p1)] := hl
  obtain ⟨hx, hb, hml, hown, ht, hr, hlk⟩ := id X
  clear ha hin
  have L_13 : ∀ (n_ : Nat) (x1 : Int64) (x3 : Int32) (x4 : Int32) (H : Heap) (locs : List Loc) (ls : Array Slot), lv_has ls 6 [(0, .ref (a_se 0)), (1, .long x1), (3, .int x3), (4, .int x4)] → In g A s.heap s (wSe g a_se q_se_board se ++ []) H locs → f_X7_slotFor_L13 n_ x1 x3 x4 se = some (r_) → W p l e rm_X7_slotFor s m args below meth c H locs 0 0 Q (F0 m 13 ls []) := by
    intro n_
    induction n_ with
    | zero =>
      intro x1 x3 x4 H locs ls hl hI hf
      rw [f_X7_slotFor_L13] at hf
      cases hf
    | succ n_ ih =>
      intro x1 x3 x4 H locs ls hl hI hf
      rw [f_X7_slotFor_L13] at hf
      refine lv_iload hx hb dX7_slotFor_13 (lv_at hl 3 rfl) ?_
      refine lv_sipush (v := 8192) hx hb dX7_slotFor_15 (by decide) ?_
      refine lv_icmp_ge (tgt := 65) hx hb dX7_slotFor_18 (by decide) (fun h_ => ?_) (fun h_ => ?_)
      · replace hf := if_t h_ hf
        refine lv_iload_n hx hb dX7_slotFor_65 rfl (lv_at hl 2 rfl) ?_
        cases hf
        exact end_i hQ hA X hI dX7_slotFor_66
      · replace hf := if_f h_ hf
        refine lv_aload_n hx hb dX7_slotFor_21 rfl (lv_at hl 0 rfl) ?_
        refine g_Se_table X hI has_Se.l (X.fl w_600) dX7_slotFor_22 ?_
        refine lv_iload_n hx hb dX7_slotFor_25 rfl (lv_at hl 2 rfl) ?_
        obtain ⟨h_, hf⟩ := ck_someM hf
        refine ld_I X hI has_Se_table.l h_ dX7_slotFor_26 ?_
        refine lv_iconst (v := 1) hx hb dX7_slotFor_27 (by decide) ?_
        refine lv_isub hx hb dX7_slotFor_28 ?_
        refine lv_topi (fun v_2 e_ => ?_)
        replace hf := lt_to e_ hf
        clear e_
        refine lv_istore (lv' := [(5, .int v_2), (0, .ref (a_se 0)), (1, .long x1), (3, .int x3), (4, .int x4)]) hx hb dX7_slotFor_29 hl (by decide) rfl (fun ls hl => ?_)
        refine lv_iload hx hb dX7_slotFor_31 (lv_at hl 0 rfl) ?_
        refine lv_if_lt (tgt := 65) hx hb dX7_slotFor_33 (by decide) (fun h_ => ?_) (fun h_ => ?_)
        · replace hf := if_t h_ hf
          refine lv_iload_n hx hb dX7_slotFor_65 rfl (lv_at hl 3 rfl) ?_
          cases hf
          exact end_i hQ hA X hI dX7_slotFor_66
        · replace hf := if_f h_ hf
          refine lv_aload_n hx hb dX7_slotFor_36 rfl (lv_at hl 1 rfl) ?_
          refine g_Se_keys X hI has_Se.l (X.fl w_597) dX7_slotFor_37 ?_
          refine lv_iload hx hb dX7_slotFor_40 (lv_at hl 0 rfl) ?_
          obtain ⟨h_, hf⟩ := ck_someM hf
          refine ld_J X hI has_Se_keys.l h_ dX7_slotFor_42 ?_
          refine lv_lload_n hx hb dX7_slotFor_43 rfl (lv_at hl 2 rfl) ?_
          refine W.lcmp hx hb dX7_slotFor_44 ?_
          refine lv_if_ne (tgt := 51) hx hb dX7_slotFor_45 (by decide) (fun h_ => ?_) (fun h_ => ?_)
          · replace hf := if_f h_ hf
            refine lv_iload_n hx hb dX7_slotFor_51 rfl (lv_at hl 3 rfl) ?_
            refine lv_iconst (v := 1) hx hb dX7_slotFor_52 (by decide) ?_
            refine lv_iadd hx hb dX7_slotFor_53 ?_
            refine lv_sipush (v := 8191) hx hb dX7_slotFor_54 (by decide) ?_
            refine lv_iand hx hb dX7_slotFor_57 ?_
            refine lv_topi (fun v_3 e_ => ?_)
            replace hf := lt_to e_ hf
            clear e_
            refine lv_istore_n (lv' := [(3, .int v_3), (5, .int v_2), (0, .ref (a_se 0)), (1, .long x1), (4, .int x4)]) hx hb dX7_slotFor_58 rfl hl (by decide) rfl (fun ls hl => ?_)
            obtain ⟨v_4, e_⟩ : ∃ y : Int32, y = (x4 + (1 : Int32)) := ⟨_, rfl⟩
            replace hf := lt_to e_ hf
            refine lv_iinc (v := v_4) (lv' := [(4, .int v_4), (3, .int v_3), (5, .int v_2), (0, .ref (a_se 0)), (1, .long x1)]) hx hb dX7_slotFor_59 hl (k := 4) rfl (by rw [e_]; rfl) (by decide) rfl (fun ls hl => ?_)
            clear e_
            refine lv_goto (tgt := 13) hx hb dX7_slotFor_62 (by decide) ?_
            exact ih x1 v_3 v_4 _ _ _ (lv_sub hl [3, 4, 1, 0] rfl) hI hf
          · replace hf := if_t h_ hf
            refine lv_goto (tgt := 65) hx hb dX7_slotFor_48 (by decide) ?_
            refine lv_iload_n hx hb dX7_slotFor_65 rfl (lv_at hl 3 rfl) ?_
            cases hf
            exact end_i hQ hA X hI dX7_slotFor_66
  unfold f_X7_slotFor at hf
  refine lv_lload_n hx hb dX7_slotFor_0 rfl (lv_at hl 1 rfl) ?_
  refine lv_ldc2 (v := (-7046029254386353131)) hx hb hown (ht _ w_1157) dX7_slotFor_1 ?_
  refine lv_lmul hx hb dX7_slotFor_4 ?_
  refine lv_bipush (v := 51) hx hb dX7_slotFor_5 (by decide) ?_
  refine lv_lushr hx hb dX7_slotFor_7 rfl ?_
  refine lv_l2i hx hb dX7_slotFor_8 rfl ?_
  refine lv_topi (fun v_1 e_ => ?_)
  replace hf := lt_to e_ hf
  clear e_
  refine lv_istore_n (lv' := [(3, .int v_1), (0, .ref (a_se 0)), (1, .long p1)]) hx hb dX7_slotFor_9 rfl hl (by decide) rfl (fun ls hl => ?_)
  refine lv_iconst (v := 0) hx hb dX7_slotFor_10 (by decide) ?_
  refine lv_istore (lv' := [(4, .int (0 : Int32)), (3, .int v_1), (0, .ref (a_se 0)), (1, .long p1)]) hx hb dX7_slotFor_11 hl (by decide) rfl (fun ls hl => ?_)
  exact L_13 FU p1 v_1 (0 : Int32) _ _ _ (lv_sub hl [2, 3, 1, 0] rfl) hI hf
abbrev rm_X7_add : Room := { frames := 1, cells := 0, slots := 0, locals := 25 }
set_option maxRecDepth 20000 in
theorem c_X7_add (l : Launch) (g : GT) (a_se : Nat → Nat) (q_se_board : Nat) (se : SeS) (p1 : Int64) (p3 : Int32) (o_se : SeS) (hf : f_X7_add se p1 p3 = some (o_se)) : CV l yX7_add cX7_add 5 none rm_X7_add g [.ref (a_se 0), .long p1, .int p3] (wSe g a_se q_se_board se ++ []) (wSe g a_se q_se_board o_se ++ []) := by
  refine start2 (y := yX7_add) (cc := cX7_add) (n := 5) (av := [.ref (a_se 0), .long p1, .int p3]) (ws := (wSe g a_se q_se_board se ++ [])) (Qc := fun sz => QV g (wSe g a_se q_se_board se ++ []) (wSe g a_se q_se_board o_se ++ []) sz) (by decide) rfl ?_
  intro p e s m args below meth c ls Q A ha hQ hA X hl hI hin
  have X : Cx p s m args meth c cX7_add 5 RX7 none := X
  have hl : lv_has ls 5 [(0, .ref (a_se 0)), (1, .long p1), (3, .int p3)] := hl
  obtain ⟨hx, hb, hml, hown, ht, hr, hlk⟩ := id X
  clear ha hin
  have L_81 : ∀ (x4 : Int32) (se : SeS) (H : Heap) (locs : List Loc) (ls : Array Slot), lv_has ls 5 [(0, .ref (a_se 0)), (4, .int x4)] → In g A s.heap s (wSe g a_se q_se_board se ++ []) H locs → f_X7_add_L81 x4 se = some (o_se) → W p l e rm_X7_add s m args below meth c H locs 0 0 Q (F0 m 81 ls []) := by
    intro x4 se H locs ls hl hI hf
    unfold f_X7_add_L81 at hf
    refine lv_aload_n hx hb dX7_add_81 rfl (lv_at hl 0 rfl) ?_
    refine lv_dup hx hb dX7_add_82 rfl ?_
    refine g_Se_count X hI has_Se.l (X.fl w_601) dX7_add_83 ?_
    refine lv_iconst (v := 1) hx hb dX7_add_86 (by decide) ?_
    refine lv_iadd hx hb dX7_add_87 ?_
    refine p_Se_count X hI up_Se_count.l (X.fl w_601) dX7_add_88 (fun H locs hI => ?_)
    generalize hz_ : (Se_count' se ((Se_count se) + (1 : Int32))) = se_7 at hI hf
    clear hz_
    replace hf := lt_e hf
    refine lv_aload_n hx hb dX7_add_91 rfl (lv_at hl 0 rfl) ?_
    refine g_Se_table X hI has_Se.l (X.fl w_600) dX7_add_92 ?_
    refine lv_iload hx hb dX7_add_95 (lv_at hl 1 rfl) ?_
    refine lv_aload_n hx hb dX7_add_97 rfl (lv_at hl 0 rfl) ?_
    refine g_Se_count X hI has_Se.l (X.fl w_601) dX7_add_98 ?_
    obtain ⟨h_, hf⟩ := ck_someM hf
    refine st_I X hI up_Se_table.l h_ dX7_add_101 (fun H locs hI => ?_)
    generalize hz_ : (Se_table' se_7 (upd (Se_table se_7) (Int32.toNatClampNeg x4) (Se_count se_7))) = se_8 at hI hf
    clear hz_
    replace hf := lt_e hf
    cases hf
    exact end_v hQ hA X hI dX7_add_102
  unfold f_X7_add at hf
  refine lv_aload_n hx hb dX7_add_0 rfl (lv_at hl 0 rfl) ?_
  refine lv_lload_n hx hb dX7_add_1 rfl (lv_at hl 1 rfl) ?_
  obtain ⟨r_1, hc_, hf⟩ := bd1_some hf
  refine call_Vi X hI (Cj.keep Cj.id) (c_X7_slotFor l g a_se q_se_board se p1 r_1 hc_) ⟨rfl, rfl⟩ ⟨ht _ w_1153, w_1156, ht _ w_151, lk_X7_slotFor⟩ w_1155 w_48 rfl rfl rfl hl rfl rfl dX7_add_2 rfl rfl rfl rfl (fun H locs hI => ?_)
  refine lv_istore (lv' := [(4, .int r_1), (0, .ref (a_se 0)), (1, .long p1), (3, .int p3)]) hx hb dX7_add_5 hl (by decide) rfl (fun ls hl => ?_)
  refine lv_aload_n hx hb dX7_add_7 rfl (lv_at hl 1 rfl) ?_
  refine g_Se_table X hI has_Se.l (X.fl w_600) dX7_add_8 ?_
  refine lv_iload hx hb dX7_add_11 (lv_at hl 0 rfl) ?_
  obtain ⟨h_, hf⟩ := ck_someM hf
  refine ld_I X hI has_Se_table.l h_ dX7_add_13 ?_
  refine lv_if_eq (tgt := 18) hx hb dX7_add_14 (by decide) (fun h_ => ?_) (fun h_ => ?_)
  · replace hf := if_t h_ hf
    refine lv_aload_n hx hb dX7_add_18 rfl (lv_at hl 1 rfl) ?_
    refine g_Se_count X hI has_Se.l (X.fl w_601) dX7_add_19 ?_
    refine lv_sipush (v := 4000) hx hb dX7_add_22 (by decide) ?_
    refine lv_icmp_lt (tgt := 36) hx hb dX7_add_25 (by decide) (fun h_ => ?_) (fun h_ => ?_)
    · replace hf := if_t h_ hf
      refine lv_aload_n hx hb dX7_add_36 rfl (lv_at hl 1 rfl) ?_
      refine g_Se_keys X hI has_Se.l (X.fl w_597) dX7_add_37 ?_
      refine lv_aload_n hx hb dX7_add_40 rfl (lv_at hl 1 rfl) ?_
      refine g_Se_count X hI has_Se.l (X.fl w_601) dX7_add_41 ?_
      refine lv_lload_n hx hb dX7_add_44 rfl (lv_at hl 2 rfl) ?_
      obtain ⟨h_, hf⟩ := ck_someM hf
      refine st_J X hI up_Se_keys.l h_ dX7_add_45 (fun H locs hI => ?_)
      generalize hz_ : (Se_keys' se (vp_updL (Se_keys se) (Int32.toNatClampNeg (Se_count se)) p1)) = se_2 at hI hf
      clear hz_
      replace hf := lt_e hf
      refine lv_aload_n hx hb dX7_add_46 rfl (lv_at hl 1 rfl) ?_
      refine g_Se_firsts X hI has_Se.l (X.fl w_598) dX7_add_47 ?_
      refine lv_aload_n hx hb dX7_add_50 rfl (lv_at hl 1 rfl) ?_
      refine g_Se_count X hI has_Se.l (X.fl w_601) dX7_add_51 ?_
      refine lv_iload_n hx hb dX7_add_54 rfl (lv_at hl 3 rfl) ?_
      obtain ⟨h_, hf⟩ := ck_someM hf
      refine st_I X hI up_Se_firsts.l h_ dX7_add_55 (fun H locs hI => ?_)
      generalize hz_ : (Se_firsts' se_2 (upd (Se_firsts se_2) (Int32.toNatClampNeg (Se_count se_2)) p3)) = se_3 at hI hf
      clear hz_
      replace hf := lt_e hf
      refine lv_aload_n hx hb dX7_add_56 rfl (lv_at hl 1 rfl) ?_
      refine g_Se_slots X hI has_Se.l (X.fl w_599) dX7_add_57 ?_
      refine lv_aload_n hx hb dX7_add_60 rfl (lv_at hl 1 rfl) ?_
      refine g_Se_count X hI has_Se.l (X.fl w_601) dX7_add_61 ?_
      refine lv_iload hx hb dX7_add_64 (lv_at hl 0 rfl) ?_
      obtain ⟨h_, hf⟩ := ck_someM hf
      refine st_I X hI up_Se_slots.l h_ dX7_add_66 (fun H locs hI => ?_)
      generalize hz_ : (Se_slots' se_3 (upd (Se_slots se_3) (Int32.toNatClampNeg (Se_count se_3)) r_1)) = se_4 at hI hf
      clear hz_
      replace hf := lt_e hf
      refine lv_lload_n hx hb dX7_add_67 rfl (lv_at hl 2 rfl) ?_
      refine lv_lconst (v := 0) hx hb dX7_add_68 (by decide) ?_
      refine W.lcmp hx hb dX7_add_69 ?_
      refine lv_if_ne (tgt := 81) hx hb dX7_add_70 (by decide) (fun h_ => ?_) (fun h_ => ?_)
      · replace hf := if_f h_ hf
        exact L_81 r_1 se_4 _ _ _ (lv_sub hl [1, 0] rfl) hI hf
      · replace hf := if_t h_ hf
        refine lv_aload_n hx hb dX7_add_73 rfl (lv_at hl 1 rfl) ?_
        refine lv_aload_n hx hb dX7_add_74 rfl (lv_at hl 1 rfl) ?_
        refine g_Se_count X hI has_Se.l (X.fl w_601) dX7_add_75 ?_
        refine p_Se_looseAt X hI up_Se_looseAt.l (X.fl w_602) dX7_add_78 (fun H locs hI => ?_)
        generalize hz_ : (Se_looseAt' se_4 (Se_count se_4)) = se_5 at hI hf
        clear hz_
        replace hf := lt_e hf
        exact L_81 r_1 se_5 _ _ _ (lv_sub hl [1, 0] rfl) hI hf
    · replace hf := if_f h_ hf
      refine lv_aload_n hx hb dX7_add_28 rfl (lv_at hl 1 rfl) ?_
      refine lv_iconst (v := 1) hx hb dX7_add_29 (by decide) ?_
      refine p_Se_over X hI up_Se_over.l (X.fl w_603) (by decide) dX7_add_30 (fun H locs hI => ?_)
      generalize hz_ : (Se_over' se (1 : Int32)) = se_6 at hI hf
      clear hz_
      replace hf := lt_e hf
      refine lv_goto (tgt := 102) hx hb dX7_add_33 (by decide) ?_
      cases hf
      exact end_v hQ hA X hI dX7_add_102
  · replace hf := if_f h_ hf
    cases hf
    exact end_v hQ hA X hI dX7_add_17
abbrev rm_X7_spreadFrom : Room := { frames := 4, cells := 0, slots := 0, locals := 96 }
set_option maxRecDepth 20000 in
theorem c_X7_spreadFrom (l : Launch) (g : GT) (a_se : Nat → Nat) (a_sb : Nat → Nat) (a_fm : Nat → Nat) (a_ri : Nat → Nat) (se : SeS) (sb : BoS) (fm : MoS) (ri : RiS) (p1 : Int32) (o_se : SeS) (o_sb : BoS) (hf : f_X7_spreadFrom se sb fm ri p1 = some (o_se, o_sb)) : CV l yX7_spreadFrom cX7_spreadFrom 5 none rm_X7_spreadFrom g [.ref (a_se 0), .int p1, .ref (a_fm 0)] (wSe g a_se (a_sb 0) se ++ (wBo g a_sb (a_ri 0) sb ++ (wMo g a_fm fm ++ (wRi g a_ri ri ++ [])))) (wSe g a_se (a_sb 0) o_se ++ (wBo g a_sb (a_ri 0) o_sb ++ (wMo g a_fm fm ++ (wRi g a_ri ri ++ [])))) := by
  refine start2 (y := yX7_spreadFrom) (cc := cX7_spreadFrom) (n := 5) (av := [.ref (a_se 0), .int p1, .ref (a_fm 0)]) (ws := (wSe g a_se (a_sb 0) se ++ (wBo g a_sb (a_ri 0) sb ++ (wMo g a_fm fm ++ (wRi g a_ri ri ++ []))))) (Qc := fun sz => QV g (wSe g a_se (a_sb 0) se ++ (wBo g a_sb (a_ri 0) sb ++ (wMo g a_fm fm ++ (wRi g a_ri ri ++ [])))) (wSe g a_se (a_sb 0) o_se ++ (wBo g a_sb (a_ri 0) o_sb ++ (wMo g a_fm fm ++ (wRi g a_ri ri ++ [])))) sz) (by decide) rfl ?_
  intro p e s m args below meth c ls Q A ha hQ hA X hl hI hin
  have X : Cx p s m args meth c cX7_spreadFrom 5 RX7 none := X
  have hl : lv_has ls 5 [(0, .ref (a_se 0)), (1, .int p1), (2, .ref (a_fm 0))] := hl
  obtain ⟨hx, hb, hml, hown, ht, hr, hlk⟩ := id X
  clear ha hin
  have L_77 : ∀ (x1 : Int32) (x3 : Int32) (t1j : Int64) (t2i : Int32) (se : SeS) (sb : BoS) (k23 : (Int32) → (Int32) → (SeS) → (BoS) → Option ((SeS) × (BoS))) (H : Heap) (locs : List Loc) (ls : Array Slot), lv_has ls 5 [(0, .ref (a_se 0)), (1, .int x1), (3, .int x3)] → In g A s.heap s (wSe g a_se (a_sb 0) se ++ (wBo g a_sb (a_ri 0) sb ++ (wMo g a_fm fm ++ (wRi g a_ri ri ++ [])))) H locs → f_X7_spreadFrom_L77 x1 x3 t1j t2i se sb k23 = some (o_se, o_sb) → (∀ (x1 : Int32) (x3 : Int32) (se : SeS) (sb : BoS) (H : Heap) (locs : List Loc) (ls : Array Slot), lv_has ls 5 [(0, .ref (a_se 0)), (1, .int x1), (3, .int x3)] → In g A s.heap s (wSe g a_se (a_sb 0) se ++ (wBo g a_sb (a_ri 0) sb ++ (wMo g a_fm fm ++ (wRi g a_ri ri ++ [])))) H locs → k23 x1 x3 se sb = some (o_se, o_sb) → W p l e rm_X7_spreadFrom s m args below meth c H locs 0 0 Q (F0 m 23 ls [])) → W p l e rm_X7_spreadFrom s m args below meth c H locs 0 0 Q (F0 m 77 ls [.int t2i, .long t1j, .ref (a_se 0)]) := by
    intro x1 x3 t1j t2i se sb k23 H locs ls hl hI hf hk23
    unfold f_X7_spreadFrom_L77 at hf
    obtain ⟨se_4, hc_, hf⟩ := bd1_some hf
    refine call_Vv X hI (Cj.keep Cj.nil) (c_X7_add l g a_se (a_sb 0) se t1j t2i se_4 hc_) ⟨rfl, rfl⟩ ⟨ht _ w_1149, w_1152, ht _ w_151, lk_X7_add⟩ w_1151 w_47 rfl rfl rfl hl rfl rfl dX7_spreadFrom_77 rfl rfl rfl rfl (fun H locs hI => ?_)
    obtain ⟨v_5, e_⟩ : ∃ y : Int32, y = (x3 + (1 : Int32)) := ⟨_, rfl⟩
    replace hf := lt_to e_ hf
    refine lv_iinc (v := v_5) (lv' := [(3, .int v_5), (0, .ref (a_se 0)), (1, .int x1)]) hx hb dX7_spreadFrom_80 hl (k := 2) rfl (by rw [e_]; rfl) (by decide) rfl (fun ls hl => ?_)
    clear e_
    refine lv_goto (tgt := 23) hx hb dX7_spreadFrom_83 (by decide) ?_
    exact hk23 x1 v_5 se_4 sb _ _ _ (lv_sub hl [1, 2, 0] rfl) hI hf
  have L_23 : ∀ (n_ : Nat) (x1 : Int32) (x3 : Int32) (se : SeS) (sb : BoS) (H : Heap) (locs : List Loc) (ls : Array Slot), lv_has ls 5 [(0, .ref (a_se 0)), (1, .int x1), (3, .int x3)] → In g A s.heap s (wSe g a_se (a_sb 0) se ++ (wBo g a_sb (a_ri 0) sb ++ (wMo g a_fm fm ++ (wRi g a_ri ri ++ [])))) H locs → f_X7_spreadFrom_L23 n_ x1 x3 se sb = some (o_se, o_sb) → W p l e rm_X7_spreadFrom s m args below meth c H locs 0 0 Q (F0 m 23 ls []) := by
    intro n_
    induction n_ with
    | zero =>
      intro x1 x3 se sb H locs ls hl hI hf
      rw [f_X7_spreadFrom_L23] at hf
      cases hf
    | succ n_ ih =>
      intro x1 x3 se sb H locs ls hl hI hf
      rw [f_X7_spreadFrom_L23] at hf
      refine lv_iload_n hx hb dX7_spreadFrom_23 rfl (lv_at hl 2 rfl) ?_
      refine lv_aload_n hx hb dX7_spreadFrom_24 rfl (lv_at hl 0 rfl) ?_
      refine g_Se_board X hI has_Se.l (X.fl w_596) dX7_spreadFrom_25 ?_
      refine g_Bo_count X hI has_Bo.l.r (hI.fn (List.mem_of_getElem? (i := 77) rfl)) dX7_spreadFrom_28 ?_
      refine lv_icmp_ge (tgt := 86) hx hb dX7_spreadFrom_31 (by decide) (fun h_ => ?_) (fun h_ => ?_)
      · replace hf := if_t h_ hf
        cases hf
        exact end_v hQ hA X hI dX7_spreadFrom_86
      · replace hf := if_f h_ hf
        refine lv_aload_n hx hb dX7_spreadFrom_34 rfl (lv_at hl 0 rfl) ?_
        refine g_Se_over X hI has_Se.l (X.fl w_603) dX7_spreadFrom_35 ?_
        refine lv_if_ne (tgt := 86) hx hb dX7_spreadFrom_38 (by decide) (fun h_ => ?_) (fun h_ => ?_)
        · replace hf := if_f h_ hf
          cases hf
          exact end_v hQ hA X hI dX7_spreadFrom_86
        · replace hf := if_t h_ hf
          refine lv_aload_n hx hb dX7_spreadFrom_41 rfl (lv_at hl 0 rfl) ?_
          refine g_Se_board X hI has_Se.l (X.fl w_596) dX7_spreadFrom_42 ?_
          refine g_Bo_numbers X hI has_Bo.l.r (hI.fn (List.mem_of_getElem? (i := 74) rfl)) dX7_spreadFrom_45 ?_
          refine lv_iload_n hx hb dX7_spreadFrom_48 rfl (lv_at hl 2 rfl) ?_
          obtain ⟨h_, hf⟩ := ck_someM hf
          refine ld_I X hI has_Bo_numbers.l.r h_ dX7_spreadFrom_49 ?_
          refine lv_topi (fun v_2 e_ => ?_)
          replace hf := lt_to e_ hf
          clear e_
          refine lv_istore (lv' := [(4, .int v_2), (0, .ref (a_se 0)), (1, .int x1), (3, .int x3)]) hx hb dX7_spreadFrom_50 hl (by decide) rfl (fun ls hl => ?_)
          refine lv_aload_n hx hb dX7_spreadFrom_52 rfl (lv_at hl 1 rfl) ?_
          refine lv_aload_n hx hb dX7_spreadFrom_53 rfl (lv_at hl 1 rfl) ?_
          refine g_Se_board X hI has_Se.l (X.fl w_596) dX7_spreadFrom_54 ?_
          refine lv_iload hx hb dX7_spreadFrom_57 (lv_at hl 0 rfl) ?_
          obtain ⟨r_3, hc_, hf⟩ := bd1_some hf
          refine call_Vl X hI (Cj.skip (Cj.keep Cj.nil)) (c_X0_after l g a_sb (a_ri 0) sb v_2 r_3 hc_) ⟨rfl, rfl⟩ ⟨ht _ w_1163, w_1166, ht _ w_150, lk_X0_after⟩ w_1164 w_1165 rfl rfl rfl hl rfl rfl dX7_spreadFrom_59 rfl rfl rfl rfl (fun H locs hI => ?_)
          refine lv_iload_n hx hb dX7_spreadFrom_62 rfl (lv_at hl 2 rfl) ?_
          refine lv_if_ne (tgt := 71) hx hb dX7_spreadFrom_63 (by decide) (fun h_ => ?_) (fun h_ => ?_)
          · replace hf := if_f h_ hf
            refine lv_aload_n hx hb dX7_spreadFrom_71 rfl (lv_at hl 1 rfl) ?_
            refine g_Se_firsts X hI has_Se.l (X.fl w_598) dX7_spreadFrom_72 ?_
            refine lv_iload_n hx hb dX7_spreadFrom_75 rfl (lv_at hl 2 rfl) ?_
            obtain ⟨h_, hf⟩ := ck_someM hf
            refine ld_I X hI has_Se_firsts.l h_ dX7_spreadFrom_76 ?_
            exact L_77 x1 x3 r_3 (Se_firsts se (Int32.toNatClampNeg x1)) se sb _ _ _ _ (lv_sub hl [1, 2, 3] rfl) hI hf (fun z_0 z_1 z_2 z_3 _ _ _ hl hI hf => ih z_0 z_1 z_2 z_3 _ _ _ hl hI hf)
          · replace hf := if_t h_ hf
            refine lv_iload hx hb dX7_spreadFrom_66 (lv_at hl 0 rfl) ?_
            refine lv_goto (tgt := 77) hx hb dX7_spreadFrom_68 (by decide) ?_
            exact L_77 x1 x3 r_3 v_2 se sb _ _ _ _ (lv_sub hl [1, 2, 3] rfl) hI hf (fun z_0 z_1 z_2 z_3 _ _ _ hl hI hf => ih z_0 z_1 z_2 z_3 _ _ _ hl hI hf)
  unfold f_X7_spreadFrom at hf
  refine lv_aload_n hx hb dX7_spreadFrom_0 rfl (lv_at hl 0 rfl) ?_
  refine g_Se_board X hI has_Se.l (X.fl w_596) dX7_spreadFrom_1 ?_
  refine lv_aload_n hx hb dX7_spreadFrom_4 rfl (lv_at hl 0 rfl) ?_
  refine g_Se_keys X hI has_Se.l (X.fl w_597) dX7_spreadFrom_5 ?_
  refine lv_iload_n hx hb dX7_spreadFrom_8 rfl (lv_at hl 1 rfl) ?_
  obtain ⟨h_, hf⟩ := ck_someM hf
  refine ld_J X hI has_Se_keys.l h_ dX7_spreadFrom_9 ?_
  refine lv_aload_n hx hb dX7_spreadFrom_10 rfl (lv_at hl 2 rfl) ?_
  refine g_Mo_plus X hI has_Mo.l.r.r (hI.fn (List.mem_of_getElem? (i := 60) rfl)) dX7_spreadFrom_11 ?_
  refine lv_aload_n hx hb dX7_spreadFrom_14 rfl (lv_at hl 2 rfl) ?_
  refine g_Mo_parted X hI has_Mo.l.r.r (hI.fn (List.mem_of_getElem? (i := 63) rfl)) dX7_spreadFrom_15 ?_
  obtain ⟨sb_1, hc_, hf⟩ := bd1_some hf
  refine call_Vv X hI (Cj.skip (Cj.keep (Cj.skip (Cj.keep Cj.id)))) (c_X0_layOut l g a_sb a_ri sb ri (Se_keys se (Int32.toNatClampNeg p1)) (Mo_plus fm) (Mo_parted fm) sb_1 hc_) ⟨rfl, rfl⟩ ⟨ht _ w_1162, w_943, ht _ w_150, lk_X0_layOut⟩ w_941 w_942 rfl rfl rfl hl rfl rfl dX7_spreadFrom_18 rfl rfl rfl rfl (fun H locs hI => ?_)
  refine lv_iconst (v := 0) hx hb dX7_spreadFrom_21 (by decide) ?_
  refine lv_istore_n (lv' := [(3, .int (0 : Int32)), (0, .ref (a_se 0)), (1, .int p1), (2, .ref (a_fm 0))]) hx hb dX7_spreadFrom_22 rfl hl (by decide) rfl (fun ls hl => ?_)
  exact L_23 FU p1 (0 : Int32) se sb_1 _ _ _ (lv_sub hl [1, 2, 0] rfl) hI hf
abbrev rm_X7_grow : Room := { frames := 5, cells := 0, slots := 0, locals := 120 }
set_option maxRecDepth 20000 in
theorem c_X7_grow (l : Launch) (g : GT) (a_se : Nat → Nat) (a_sb : Nat → Nat) (a_fm : Nat → Nat) (a_ri : Nat → Nat) (se : SeS) (sb : BoS) (fm : MoS) (ri : RiS) (p2 : Int32) (p3 : Int32) (r_ : Int32) (o_se : SeS) (o_sb : BoS) (hf : f_X7_grow se sb fm ri p2 p3 = some (r_, o_se, o_sb)) : CI l yX7_grow cX7_grow 8 (some .int) rm_X7_grow g [.ref (a_se 0), .ref (a_fm 0), .int p2, .int p3] (wSe g a_se (a_sb 0) se ++ (wBo g a_sb (a_ri 0) sb ++ (wMo g a_fm fm ++ (wRi g a_ri ri ++ [])))) (wSe g a_se (a_sb 0) o_se ++ (wBo g a_sb (a_ri 0) o_sb ++ (wMo g a_fm fm ++ (wRi g a_ri ri ++ [])))) r_ := by
  refine start2 (y := yX7_grow) (cc := cX7_grow) (n := 8) (av := [.ref (a_se 0), .ref (a_fm 0), .int p2, .int p3]) (ws := (wSe g a_se (a_sb 0) se ++ (wBo g a_sb (a_ri 0) sb ++ (wMo g a_fm fm ++ (wRi g a_ri ri ++ []))))) (Qc := fun sz => QI g (wSe g a_se (a_sb 0) se ++ (wBo g a_sb (a_ri 0) sb ++ (wMo g a_fm fm ++ (wRi g a_ri ri ++ [])))) (wSe g a_se (a_sb 0) o_se ++ (wBo g a_sb (a_ri 0) o_sb ++ (wMo g a_fm fm ++ (wRi g a_ri ri ++ [])))) r_ sz) (by decide) rfl ?_
  intro p e s m args below meth c ls Q A ha hQ hA X hl hI hin
  have X : Cx p s m args meth c cX7_grow 8 RX7 (some .int) := X
  have hl : lv_has ls 8 [(0, .ref (a_se 0)), (1, .ref (a_fm 0)), (2, .int p2), (3, .int p3)] := hl
  obtain ⟨hx, hb, hml, hown, ht, hr, hlk⟩ := id X
  clear ha hin
  have L_110 : ∀ (x2 : Int32) (x3 : Int32) (x5 : Int32) (x6 : Int32) (se : SeS) (sb : BoS) (k33 : (Int32) → (Int32) → (Int32) → (Int32) → (SeS) → (BoS) → (MoS) → (RiS) → Option (Int32 × (SeS) × (BoS))) (H : Heap) (locs : List Loc) (ls : Array Slot), lv_has ls 8 [(0, .ref (a_se 0)), (1, .ref (a_fm 0)), (2, .int x2), (3, .int x3), (5, .int x5), (6, .int x6)] → In g A s.heap s (wSe g a_se (a_sb 0) se ++ (wBo g a_sb (a_ri 0) sb ++ (wMo g a_fm fm ++ (wRi g a_ri ri ++ [])))) H locs → f_X7_grow_L110 x2 x3 x5 x6 se sb fm ri k33 = some (r_, o_se, o_sb) → (∀ (x2 : Int32) (x3 : Int32) (x4 : Int32) (x5 : Int32) (se : SeS) (sb : BoS) (H : Heap) (locs : List Loc) (ls : Array Slot), lv_has ls 8 [(0, .ref (a_se 0)), (1, .ref (a_fm 0)), (2, .int x2), (3, .int x3), (4, .int x4), (5, .int x5)] → In g A s.heap s (wSe g a_se (a_sb 0) se ++ (wBo g a_sb (a_ri 0) sb ++ (wMo g a_fm fm ++ (wRi g a_ri ri ++ [])))) H locs → k33 x2 x3 x4 x5 se sb fm ri = some (r_, o_se, o_sb) → W p l e rm_X7_grow s m args below meth c H locs 0 0 Q (F0 m 33 ls [])) → W p l e rm_X7_grow s m args below meth c H locs 0 0 Q (F0 m 110 ls []) := by
    intro x2 x3 x5 x6 se sb k33 H locs ls hl hI hf hk33
    unfold f_X7_grow_L110 at hf
    refine lv_iload hx hb dX7_grow_110 (lv_at hl 5 rfl) ?_
    refine lv_istore (lv' := [(4, .int x6), (0, .ref (a_se 0)), (1, .ref (a_fm 0)), (2, .int x2), (3, .int x3), (5, .int x5), (6, .int x6)]) hx hb dX7_grow_112 hl (by decide) rfl (fun ls hl => ?_)
    obtain ⟨v_7, e_⟩ : ∃ y : Int32, y = (x5 + (1 : Int32)) := ⟨_, rfl⟩
    replace hf := lt_to e_ hf
    refine lv_iinc (v := v_7) (lv' := [(5, .int v_7), (4, .int x6), (0, .ref (a_se 0)), (1, .ref (a_fm 0)), (2, .int x2), (3, .int x3), (6, .int x6)]) hx hb dX7_grow_114 hl (k := 5) rfl (by rw [e_]; rfl) (by decide) rfl (fun ls hl => ?_)
    clear e_
    refine lv_goto (tgt := 33) hx hb dX7_grow_117 (by decide) ?_
    exact hk33 x2 x3 x6 v_7 se sb _ _ _ (lv_sub hl [2, 3, 4, 5, 1, 0] rfl) hI hf
  have L_85 : ∀ (x2 : Int32) (x3 : Int32) (x5 : Int32) (x6 : Int32) (se : SeS) (sb : BoS) (k33 : (Int32) → (Int32) → (Int32) → (Int32) → (SeS) → (BoS) → (MoS) → (RiS) → Option (Int32 × (SeS) × (BoS))) (H : Heap) (locs : List Loc) (ls : Array Slot), lv_has ls 8 [(0, .ref (a_se 0)), (1, .ref (a_fm 0)), (2, .int x2), (3, .int x3), (5, .int x5), (6, .int x6)] → In g A s.heap s (wSe g a_se (a_sb 0) se ++ (wBo g a_sb (a_ri 0) sb ++ (wMo g a_fm fm ++ (wRi g a_ri ri ++ [])))) H locs → f_X7_grow_L85 x2 x3 x5 x6 se sb fm ri k33 = some (r_, o_se, o_sb) → (∀ (x2 : Int32) (x3 : Int32) (x4 : Int32) (x5 : Int32) (se : SeS) (sb : BoS) (H : Heap) (locs : List Loc) (ls : Array Slot), lv_has ls 8 [(0, .ref (a_se 0)), (1, .ref (a_fm 0)), (2, .int x2), (3, .int x3), (4, .int x4), (5, .int x5)] → In g A s.heap s (wSe g a_se (a_sb 0) se ++ (wBo g a_sb (a_ri 0) sb ++ (wMo g a_fm fm ++ (wRi g a_ri ri ++ [])))) H locs → k33 x2 x3 x4 x5 se sb fm ri = some (r_, o_se, o_sb) → W p l e rm_X7_grow s m args below meth c H locs 0 0 Q (F0 m 33 ls [])) → W p l e rm_X7_grow s m args below meth c H locs 0 0 Q (F0 m 85 ls []) := by
    intro x2 x3 x5 x6 se sb k33 H locs ls hl hI hf hk33
    unfold f_X7_grow_L85 at hf
    refine lv_aload_n hx hb dX7_grow_85 rfl (lv_at hl 0 rfl) ?_
    refine g_Se_over X hI has_Se.l (X.fl w_603) dX7_grow_86 ?_
    refine lv_if_eq (tgt := 95) hx hb dX7_grow_89 (by decide) (fun h_ => ?_) (fun h_ => ?_)
    · replace hf := if_t h_ hf
      refine lv_iload_n hx hb dX7_grow_95 rfl (lv_at hl 3 rfl) ?_
      refine lv_if_eq (tgt := 110) hx hb dX7_grow_96 (by decide) (fun h_ => ?_) (fun h_ => ?_)
      · replace hf := if_t h_ hf
        exact L_110 x2 x3 x5 x6 se sb _ _ _ _ hl hI hf hk33
      · replace hf := if_f h_ hf
        refine lv_aload_n hx hb dX7_grow_99 rfl (lv_at hl 0 rfl) ?_
        refine g_Se_looseAt X hI has_Se.l (X.fl w_602) dX7_grow_100 ?_
        refine lv_iconst (v := (-1)) hx hb dX7_grow_103 (by decide) ?_
        refine lv_icmp_eq (tgt := 110) hx hb dX7_grow_104 (by decide) (fun h_ => ?_) (fun h_ => ?_)
        · replace hf := if_t h_ hf
          exact L_110 x2 x3 x5 x6 se sb _ _ _ _ hl hI hf hk33
        · replace hf := if_f h_ hf
          refine lv_iload hx hb dX7_grow_107 (lv_at hl 4 rfl) ?_
          cases hf
          exact end_i hQ hA X hI dX7_grow_109
    · replace hf := if_f h_ hf
      refine lv_bipush (v := (-3)) hx hb dX7_grow_92 (by decide) ?_
      cases hf
      exact end_i hQ hA X hI dX7_grow_94
  have L_58 : ∀ (n_ : Nat) (x2 : Int32) (x3 : Int32) (x5 : Int32) (x6 : Int32) (x7 : Int32) (se : SeS) (sb : BoS) (k33 : (Int32) → (Int32) → (Int32) → (Int32) → (SeS) → (BoS) → (MoS) → (RiS) → Option (Int32 × (SeS) × (BoS))) (H : Heap) (locs : List Loc) (ls : Array Slot), lv_has ls 8 [(0, .ref (a_se 0)), (1, .ref (a_fm 0)), (2, .int x2), (3, .int x3), (5, .int x5), (6, .int x6), (7, .int x7)] → In g A s.heap s (wSe g a_se (a_sb 0) se ++ (wBo g a_sb (a_ri 0) sb ++ (wMo g a_fm fm ++ (wRi g a_ri ri ++ [])))) H locs → f_X7_grow_L58 n_ x2 x3 x5 x6 x7 se sb fm ri k33 = some (r_, o_se, o_sb) → (∀ (x2 : Int32) (x3 : Int32) (x4 : Int32) (x5 : Int32) (se : SeS) (sb : BoS) (H : Heap) (locs : List Loc) (ls : Array Slot), lv_has ls 8 [(0, .ref (a_se 0)), (1, .ref (a_fm 0)), (2, .int x2), (3, .int x3), (4, .int x4), (5, .int x5)] → In g A s.heap s (wSe g a_se (a_sb 0) se ++ (wBo g a_sb (a_ri 0) sb ++ (wMo g a_fm fm ++ (wRi g a_ri ri ++ [])))) H locs → k33 x2 x3 x4 x5 se sb fm ri = some (r_, o_se, o_sb) → W p l e rm_X7_grow s m args below meth c H locs 0 0 Q (F0 m 33 ls [])) → W p l e rm_X7_grow s m args below meth c H locs 0 0 Q (F0 m 58 ls []) := by
    intro n_
    induction n_ with
    | zero =>
      intro x2 x3 x5 x6 x7 se sb k33 H locs ls hl hI hf hk33
      rw [f_X7_grow_L58] at hf
      cases hf
    | succ n_ ih =>
      intro x2 x3 x5 x6 x7 se sb k33 H locs ls hl hI hf hk33
      rw [f_X7_grow_L58] at hf
      refine lv_iload hx hb dX7_grow_58 (lv_at hl 6 rfl) ?_
      refine lv_iload hx hb dX7_grow_60 (lv_at hl 5 rfl) ?_
      refine lv_icmp_ge (tgt := 85) hx hb dX7_grow_62 (by decide) (fun h_ => ?_) (fun h_ => ?_)
      · replace hf := if_t h_ hf
        exact L_85 x2 x3 x5 x6 se sb _ _ _ _ (lv_sub hl [0, 1, 2, 3, 4, 5] rfl) hI hf hk33
      · replace hf := if_f h_ hf
        refine lv_aload_n hx hb dX7_grow_65 rfl (lv_at hl 0 rfl) ?_
        refine g_Se_over X hI has_Se.l (X.fl w_603) dX7_grow_66 ?_
        refine lv_if_ne (tgt := 85) hx hb dX7_grow_69 (by decide) (fun h_ => ?_) (fun h_ => ?_)
        · replace hf := if_f h_ hf
          exact L_85 x2 x3 x5 x6 se sb _ _ _ _ (lv_sub hl [0, 1, 2, 3, 4, 5] rfl) hI hf hk33
        · replace hf := if_t h_ hf
          refine lv_aload_n hx hb dX7_grow_72 rfl (lv_at hl 0 rfl) ?_
          refine lv_iload hx hb dX7_grow_73 (lv_at hl 6 rfl) ?_
          refine lv_aload_n hx hb dX7_grow_75 rfl (lv_at hl 1 rfl) ?_
          obtain ⟨se_4, sb_5, hc_, hf⟩ := bd2_some hf
          refine call_Vv X hI (Cj.keep (Cj.keep (Cj.keep (Cj.keep Cj.id)))) (c_X7_spreadFrom l g a_se a_sb a_fm a_ri se sb fm ri x7 se_4 sb_5 hc_) ⟨rfl, rfl⟩ ⟨ht _ w_1158, w_1161, ht _ w_151, lk_X7_spreadFrom⟩ w_1160 w_49 rfl rfl rfl hl rfl rfl dX7_grow_76 rfl rfl rfl rfl (fun H locs hI => ?_)
          obtain ⟨v_6, e_⟩ : ∃ y : Int32, y = (x7 + (1 : Int32)) := ⟨_, rfl⟩
          replace hf := lt_to e_ hf
          refine lv_iinc (v := v_6) (lv' := [(7, .int v_6), (0, .ref (a_se 0)), (1, .ref (a_fm 0)), (2, .int x2), (3, .int x3), (5, .int x5), (6, .int x6)]) hx hb dX7_grow_79 hl (k := 6) rfl (by rw [e_]; rfl) (by decide) rfl (fun ls hl => ?_)
          clear e_
          refine lv_goto (tgt := 58) hx hb dX7_grow_82 (by decide) ?_
          exact ih x2 x3 x5 x6 v_6 se_4 sb_5 k33 _ _ _ (lv_sub hl [1, 2, 3, 4, 5, 6, 0] rfl) hI hf hk33
  have L_33 : ∀ (n_ : Nat) (x2 : Int32) (x3 : Int32) (x4 : Int32) (x5 : Int32) (se : SeS) (sb : BoS) (H : Heap) (locs : List Loc) (ls : Array Slot), lv_has ls 8 [(0, .ref (a_se 0)), (1, .ref (a_fm 0)), (2, .int x2), (3, .int x3), (4, .int x4), (5, .int x5)] → In g A s.heap s (wSe g a_se (a_sb 0) se ++ (wBo g a_sb (a_ri 0) sb ++ (wMo g a_fm fm ++ (wRi g a_ri ri ++ [])))) H locs → f_X7_grow_L33 n_ x2 x3 x4 x5 se sb fm ri = some (r_, o_se, o_sb) → W p l e rm_X7_grow s m args below meth c H locs 0 0 Q (F0 m 33 ls []) := by
    intro n_
    induction n_ with
    | zero =>
      intro x2 x3 x4 x5 se sb H locs ls hl hI hf
      rw [f_X7_grow_L33] at hf
      cases hf
    | succ n_ ih =>
      intro x2 x3 x4 x5 se sb H locs ls hl hI hf
      rw [f_X7_grow_L33] at hf
      refine lv_iload hx hb dX7_grow_33 (lv_at hl 5 rfl) ?_
      refine lv_iload_n hx hb dX7_grow_35 rfl (lv_at hl 2 rfl) ?_
      refine lv_icmp_gt (tgt := 120) hx hb dX7_grow_36 (by decide) (fun h_ => ?_) (fun h_ => ?_)
      · replace hf := if_t h_ hf
        refine lv_bipush (v := (-2)) hx hb dX7_grow_120 (by decide) ?_
        cases hf
        exact end_i hQ hA X hI dX7_grow_122
      · replace hf := if_f h_ hf
        refine lv_iload hx hb dX7_grow_39 (lv_at hl 4 rfl) ?_
        refine lv_aload_n hx hb dX7_grow_41 rfl (lv_at hl 0 rfl) ?_
        refine g_Se_count X hI has_Se.l (X.fl w_601) dX7_grow_42 ?_
        refine lv_icmp_ge (tgt := 120) hx hb dX7_grow_45 (by decide) (fun h_ => ?_) (fun h_ => ?_)
        · replace hf := if_t h_ hf
          refine lv_bipush (v := (-2)) hx hb dX7_grow_120 (by decide) ?_
          cases hf
          exact end_i hQ hA X hI dX7_grow_122
        · replace hf := if_f h_ hf
          refine lv_aload_n hx hb dX7_grow_48 rfl (lv_at hl 0 rfl) ?_
          refine g_Se_count X hI has_Se.l (X.fl w_601) dX7_grow_49 ?_
          refine lv_topi (fun v_3 e_ => ?_)
          replace hf := lt_to e_ hf
          clear e_
          refine lv_istore (lv' := [(6, .int v_3), (0, .ref (a_se 0)), (1, .ref (a_fm 0)), (2, .int x2), (3, .int x3), (4, .int x4), (5, .int x5)]) hx hb dX7_grow_52 hl (by decide) rfl (fun ls hl => ?_)
          refine lv_iload hx hb dX7_grow_54 (lv_at hl 5 rfl) ?_
          refine lv_istore (lv' := [(7, .int x4), (6, .int v_3), (0, .ref (a_se 0)), (1, .ref (a_fm 0)), (2, .int x2), (3, .int x3), (4, .int x4), (5, .int x5)]) hx hb dX7_grow_56 hl (by decide) rfl (fun ls hl => ?_)
          exact L_58 FU x2 x3 x5 v_3 x4 se sb _ _ _ _ (lv_sub hl [2, 3, 4, 5, 7, 1, 0] rfl) hI hf (fun z_0 z_1 z_2 z_3 z_4 z_5 _ _ _ hl hI hf => ih z_0 z_1 z_2 z_3 z_4 z_5 _ _ _ hl hI hf)
  have L_27 : ∀ (x2 : Int32) (x3 : Int32) (se : SeS) (sb : BoS) (H : Heap) (locs : List Loc) (ls : Array Slot), lv_has ls 8 [(0, .ref (a_se 0)), (1, .ref (a_fm 0)), (2, .int x2), (3, .int x3)] → In g A s.heap s (wSe g a_se (a_sb 0) se ++ (wBo g a_sb (a_ri 0) sb ++ (wMo g a_fm fm ++ (wRi g a_ri ri ++ [])))) H locs → f_X7_grow_L27 x2 x3 se sb fm ri = some (r_, o_se, o_sb) → W p l e rm_X7_grow s m args below meth c H locs 0 0 Q (F0 m 27 ls []) := by
    intro x2 x3 se sb H locs ls hl hI hf
    unfold f_X7_grow_L27 at hf
    refine lv_iconst (v := 0) hx hb dX7_grow_27 (by decide) ?_
    refine lv_istore (lv' := [(4, .int (0 : Int32)), (0, .ref (a_se 0)), (1, .ref (a_fm 0)), (2, .int x2), (3, .int x3)]) hx hb dX7_grow_28 hl (by decide) rfl (fun ls hl => ?_)
    refine lv_iconst (v := 1) hx hb dX7_grow_30 (by decide) ?_
    refine lv_istore (lv' := [(5, .int (1 : Int32)), (4, .int (0 : Int32)), (0, .ref (a_se 0)), (1, .ref (a_fm 0)), (2, .int x2), (3, .int x3)]) hx hb dX7_grow_31 hl (by decide) rfl (fun ls hl => ?_)
    exact L_33 FU x2 x3 (0 : Int32) (1 : Int32) se sb _ _ _ (lv_sub hl [2, 3, 4, 5, 1, 0] rfl) hI hf
  unfold f_X7_grow at hf
  refine lv_aload_n hx hb dX7_grow_0 rfl (lv_at hl 0 rfl) ?_
  obtain ⟨se_1, hc_, hf⟩ := bd1_some hf
  refine call_Vv X hI (Cj.keep Cj.nil) (c_X7_forget l g a_se (a_sb 0) se se_1 hc_) ⟨rfl, rfl⟩ ⟨ht _ w_1145, w_1148, ht _ w_151, lk_X7_forget⟩ w_1147 w_46 rfl rfl rfl hl rfl rfl dX7_grow_1 rfl rfl rfl rfl (fun H locs hI => ?_)
  refine lv_aload_n hx hb dX7_grow_4 rfl (lv_at hl 0 rfl) ?_
  refine lv_aload_n hx hb dX7_grow_5 rfl (lv_at hl 1 rfl) ?_
  refine g_Mo_key X hI has_Mo.l.r.r (hI.fn (List.mem_of_getElem? (i := 56) rfl)) dX7_grow_6 ?_
  refine lv_iconst (v := (-1)) hx hb dX7_grow_9 (by decide) ?_
  obtain ⟨se_2, hc_, hf⟩ := bd1_some hf
  refine call_Vv X hI (Cj.keep Cj.nil) (c_X7_add l g a_se (a_sb 0) se_1 (Mo_key fm) (-1 : Int32) se_2 hc_) ⟨rfl, rfl⟩ ⟨ht _ w_1149, w_1152, ht _ w_151, lk_X7_add⟩ w_1151 w_47 rfl rfl rfl hl rfl rfl dX7_grow_10 rfl rfl rfl rfl (fun H locs hI => ?_)
  refine lv_iload_n hx hb dX7_grow_13 rfl (lv_at hl 3 rfl) ?_
  refine lv_if_eq (tgt := 27) hx hb dX7_grow_14 (by decide) (fun h_ => ?_) (fun h_ => ?_)
  · replace hf := if_t h_ hf
    exact L_27 p2 p3 se_2 sb _ _ _ hl hI hf
  · replace hf := if_f h_ hf
    refine lv_aload_n hx hb dX7_grow_17 rfl (lv_at hl 0 rfl) ?_
    refine g_Se_looseAt X hI has_Se.l (X.fl w_602) dX7_grow_18 ?_
    refine lv_iconst (v := (-1)) hx hb dX7_grow_21 (by decide) ?_
    refine lv_icmp_eq (tgt := 27) hx hb dX7_grow_22 (by decide) (fun h_ => ?_) (fun h_ => ?_)
    · replace hf := if_t h_ hf
      exact L_27 p2 p3 se_2 sb _ _ _ hl hI hf
    · replace hf := if_f h_ hf
      refine lv_iconst (v := 0) hx hb dX7_grow_25 (by decide) ?_
      cases hf
      exact end_i hQ hA X hI dX7_grow_26
abbrev rm_X7_firstToLoose : Room := { frames := 6, cells := 0, slots := 0, locals := 147 }
set_option maxRecDepth 20000 in
theorem c_X7_firstToLoose (l : Launch) (g : GT) (a_se : Nat → Nat) (a_sb : Nat → Nat) (a_fm : Nat → Nat) (a_ri : Nat → Nat) (se : SeS) (sb : BoS) (fm : MoS) (ri : RiS) (p2 : Int32) (r_ : Int32) (o_se : SeS) (o_sb : BoS) (hf : f_X7_firstToLoose se sb fm ri p2 = some (r_, o_se, o_sb)) : CI l yX7_firstToLoose cX7_firstToLoose 4 (some .int) rm_X7_firstToLoose g [.ref (a_se 0), .ref (a_fm 0), .int p2] (wSe g a_se (a_sb 0) se ++ (wBo g a_sb (a_ri 0) sb ++ (wMo g a_fm fm ++ (wRi g a_ri ri ++ [])))) (wSe g a_se (a_sb 0) o_se ++ (wBo g a_sb (a_ri 0) o_sb ++ (wMo g a_fm fm ++ (wRi g a_ri ri ++ [])))) r_ := by
  refine start2 (y := yX7_firstToLoose) (cc := cX7_firstToLoose) (n := 4) (av := [.ref (a_se 0), .ref (a_fm 0), .int p2]) (ws := (wSe g a_se (a_sb 0) se ++ (wBo g a_sb (a_ri 0) sb ++ (wMo g a_fm fm ++ (wRi g a_ri ri ++ []))))) (Qc := fun sz => QI g (wSe g a_se (a_sb 0) se ++ (wBo g a_sb (a_ri 0) sb ++ (wMo g a_fm fm ++ (wRi g a_ri ri ++ [])))) (wSe g a_se (a_sb 0) o_se ++ (wBo g a_sb (a_ri 0) o_sb ++ (wMo g a_fm fm ++ (wRi g a_ri ri ++ [])))) r_ sz) (by decide) rfl ?_
  intro p e s m args below meth c ls Q A ha hQ hA X hl hI hin
  have X : Cx p s m args meth c cX7_firstToLoose 4 RX7 (some .int) := X
  have hl : lv_has ls 4 [(0, .ref (a_se 0)), (1, .ref (a_fm 0)), (2, .int p2)] := hl
  obtain ⟨hx, hb, hml, hown, ht, hr, hlk⟩ := id X
  clear ha hin
  unfold f_X7_firstToLoose at hf
  refine lv_aload_n hx hb dX7_firstToLoose_0 rfl (lv_at hl 0 rfl) ?_
  refine lv_aload_n hx hb dX7_firstToLoose_1 rfl (lv_at hl 1 rfl) ?_
  refine lv_iload_n hx hb dX7_firstToLoose_2 rfl (lv_at hl 2 rfl) ?_
  refine lv_iconst (v := 1) hx hb dX7_firstToLoose_3 (by decide) ?_
  obtain ⟨r_1, se_2, sb_3, hc_, hf⟩ := bd3_some hf
  refine call_Vi X hI (Cj.keep (Cj.keep (Cj.keep (Cj.keep Cj.id)))) (c_X7_grow l g a_se a_sb a_fm a_ri se sb fm ri p2 (1 : Int32) r_1 se_2 sb_3 hc_) ⟨rfl, rfl⟩ ⟨ht _ w_1185, w_1144, ht _ w_151, lk_X7_grow⟩ w_1142 w_1143 rfl rfl rfl hl rfl rfl dX7_firstToLoose_4 rfl rfl rfl rfl (fun H locs hI => ?_)
  refine lv_istore_n (lv' := [(3, .int r_1), (0, .ref (a_se 0)), (1, .ref (a_fm 0)), (2, .int p2)]) hx hb dX7_firstToLoose_7 rfl hl (by decide) rfl (fun ls hl => ?_)
  refine lv_iload_n hx hb dX7_firstToLoose_8 rfl (lv_at hl 0 rfl) ?_
  refine lv_bipush (v := (-3)) hx hb dX7_firstToLoose_9 (by decide) ?_
  refine lv_icmp_ne (tgt := 17) hx hb dX7_firstToLoose_11 (by decide) (fun h_ => ?_) (fun h_ => ?_)
  · replace hf := if_f h_ hf
    refine lv_iload_n hx hb dX7_firstToLoose_17 rfl (lv_at hl 0 rfl) ?_
    refine lv_if_le (tgt := 40) hx hb dX7_firstToLoose_18 (by decide) (fun h_ => ?_) (fun h_ => ?_)
    · replace hf := if_t h_ hf
      refine lv_bipush (v := (-2)) hx hb dX7_firstToLoose_40 (by decide) ?_
      cases hf
      exact end_i hQ hA X hI dX7_firstToLoose_42
    · replace hf := if_f h_ hf
      refine lv_aload_n hx hb dX7_firstToLoose_21 rfl (lv_at hl 1 rfl) ?_
      refine g_Se_looseAt X hI has_Se.l (X.fl w_602) dX7_firstToLoose_22 ?_
      refine lv_if_lt (tgt := 40) hx hb dX7_firstToLoose_25 (by decide) (fun h_ => ?_) (fun h_ => ?_)
      · replace hf := if_t h_ hf
        refine lv_bipush (v := (-2)) hx hb dX7_firstToLoose_40 (by decide) ?_
        cases hf
        exact end_i hQ hA X hI dX7_firstToLoose_42
      · replace hf := if_f h_ hf
        refine lv_aload_n hx hb dX7_firstToLoose_28 rfl (lv_at hl 1 rfl) ?_
        refine g_Se_firsts X hI has_Se.l (X.fl w_598) dX7_firstToLoose_29 ?_
        refine lv_aload_n hx hb dX7_firstToLoose_32 rfl (lv_at hl 1 rfl) ?_
        refine g_Se_looseAt X hI has_Se.l (X.fl w_602) dX7_firstToLoose_33 ?_
        obtain ⟨h_, hf⟩ := ck_someM hf
        refine ld_I X hI has_Se_firsts.l h_ dX7_firstToLoose_36 ?_
        refine lv_goto (tgt := 42) hx hb dX7_firstToLoose_37 (by decide) ?_
        cases hf
        exact end_i hQ hA X hI dX7_firstToLoose_42
  · replace hf := if_t h_ hf
    refine lv_bipush (v := (-3)) hx hb dX7_firstToLoose_14 (by decide) ?_
    cases hf
    exact end_i hQ hA X hI dX7_firstToLoose_16
abbrev rm_X7_countReached : Room := { frames := 6, cells := 0, slots := 0, locals := 147 }
set_option maxRecDepth 20000 in
theorem c_X7_countReached (l : Launch) (g : GT) (a_se : Nat → Nat) (a_sb : Nat → Nat) (a_fm : Nat → Nat) (a_ri : Nat → Nat) (se : SeS) (sb : BoS) (fm : MoS) (ri : RiS) (p2 : Int32) (r_ : Int32) (o_se : SeS) (o_sb : BoS) (hf : f_X7_countReached se sb fm ri p2 = some (r_, o_se, o_sb)) : CI l yX7_countReached cX7_countReached 3 (some .int) rm_X7_countReached g [.ref (a_se 0), .ref (a_fm 0), .int p2] (wSe g a_se (a_sb 0) se ++ (wBo g a_sb (a_ri 0) sb ++ (wMo g a_fm fm ++ (wRi g a_ri ri ++ [])))) (wSe g a_se (a_sb 0) o_se ++ (wBo g a_sb (a_ri 0) o_sb ++ (wMo g a_fm fm ++ (wRi g a_ri ri ++ [])))) r_ := by
  refine start2 (y := yX7_countReached) (cc := cX7_countReached) (n := 3) (av := [.ref (a_se 0), .ref (a_fm 0), .int p2]) (ws := (wSe g a_se (a_sb 0) se ++ (wBo g a_sb (a_ri 0) sb ++ (wMo g a_fm fm ++ (wRi g a_ri ri ++ []))))) (Qc := fun sz => QI g (wSe g a_se (a_sb 0) se ++ (wBo g a_sb (a_ri 0) sb ++ (wMo g a_fm fm ++ (wRi g a_ri ri ++ [])))) (wSe g a_se (a_sb 0) o_se ++ (wBo g a_sb (a_ri 0) o_sb ++ (wMo g a_fm fm ++ (wRi g a_ri ri ++ [])))) r_ sz) (by decide) rfl ?_
  intro p e s m args below meth c ls Q A ha hQ hA X hl hI hin
  have X : Cx p s m args meth c cX7_countReached 3 RX7 (some .int) := X
  have hl : lv_has ls 3 [(0, .ref (a_se 0)), (1, .ref (a_fm 0)), (2, .int p2)] := hl
  obtain ⟨hx, hb, hml, hown, ht, hr, hlk⟩ := id X
  clear ha hin
  unfold f_X7_countReached at hf
  refine lv_aload_n hx hb dX7_countReached_0 rfl (lv_at hl 0 rfl) ?_
  refine lv_aload_n hx hb dX7_countReached_1 rfl (lv_at hl 1 rfl) ?_
  refine lv_iload_n hx hb dX7_countReached_2 rfl (lv_at hl 2 rfl) ?_
  refine lv_iconst (v := 0) hx hb dX7_countReached_3 (by decide) ?_
  obtain ⟨r_1, se_2, sb_3, hc_, hf⟩ := bd3_some hf
  refine call_Vi X hI (Cj.keep (Cj.keep (Cj.keep (Cj.keep Cj.id)))) (c_X7_grow l g a_se a_sb a_fm a_ri se sb fm ri p2 (0 : Int32) r_1 se_2 sb_3 hc_) ⟨rfl, rfl⟩ ⟨ht _ w_1185, w_1144, ht _ w_151, lk_X7_grow⟩ w_1142 w_1143 rfl rfl rfl hl rfl rfl dX7_countReached_4 rfl rfl rfl rfl (fun H locs hI => ?_)
  refine lv_bipush (v := (-3)) hx hb dX7_countReached_7 (by decide) ?_
  refine lv_icmp_ne (tgt := 17) hx hb dX7_countReached_9 (by decide) (fun h_ => ?_) (fun h_ => ?_)
  · replace hf := if_f h_ hf
    refine lv_aload_n hx hb dX7_countReached_17 rfl (lv_at hl 0 rfl) ?_
    refine g_Se_count X hI has_Se.l (X.fl w_601) dX7_countReached_18 ?_
    cases hf
    exact end_i hQ hA X hI dX7_countReached_21
  · replace hf := if_t h_ hf
    refine lv_bipush (v := (-3)) hx hb dX7_countReached_12 (by decide) ?_
    refine lv_goto (tgt := 21) hx hb dX7_countReached_14 (by decide) ?_
    cases hf
    exact end_i hQ hA X hI dX7_countReached_21
abbrev rm_X7_crossingsIn : Room := { frames := 1, cells := 0, slots := 0, locals := 22 }
set_option maxRecDepth 20000 in
theorem c_X7_crossingsIn (l : Launch) (g : GT) (p0 : Int64) (r_ : Int32) (hf : f_X7_crossingsIn p0 = some (r_)) : CI l yX7_crossingsIn cX7_crossingsIn 4 (some .int) rm_X7_crossingsIn g [.long p0] ([]) ([]) r_ := by
  refine start2 (y := yX7_crossingsIn) (cc := cX7_crossingsIn) (n := 4) (av := [.long p0]) (ws := ([])) (Qc := fun sz => QI g ([]) ([]) r_ sz) (by decide) rfl ?_
  intro p e s m args below meth c ls Q A ha hQ hA X hl hI hin
  have X : Cx p s m args meth c cX7_crossingsIn 4 RX7 (some .int) := X
  have hl : lv_has ls 4 [(0, .long p0)] := hl
  obtain ⟨hx, hb, hml, hown, ht, hr, hlk⟩ := id X
  clear ha hin
  have L_25 : ∀ (x0 : Int64) (x3 : Int32) (t0i : Int32) (t1i : Int32) (k4 : (Int64) → (Int32) → (Int32) → Option (Int32)) (H : Heap) (locs : List Loc) (ls : Array Slot), lv_has ls 4 [(0, .long x0), (3, .int x3)] → In g A s.heap s ([]) H locs → f_X7_crossingsIn_L25 x0 x3 t0i t1i k4 = some (r_) → (∀ (x0 : Int64) (x2 : Int32) (x3 : Int32) (H : Heap) (locs : List Loc) (ls : Array Slot), lv_has ls 4 [(0, .long x0), (2, .int x2), (3, .int x3)] → In g A s.heap s ([]) H locs → k4 x0 x2 x3 = some (r_) → W p l e rm_X7_crossingsIn s m args below meth c H locs 0 0 Q (F0 m 4 ls [])) → W p l e rm_X7_crossingsIn s m args below meth c H locs 0 0 Q (F0 m 25 ls [.int t1i, .int t0i]) := by
    intro x0 x3 t0i t1i k4 H locs ls hl hI hf hk4
    unfold f_X7_crossingsIn_L25 at hf
    refine lv_iadd hx hb dX7_crossingsIn_25 ?_
    refine lv_topi (fun v_2 e_ => ?_)
    replace hf := lt_to e_ hf
    clear e_
    refine lv_istore_n (lv' := [(2, .int v_2), (0, .long x0), (3, .int x3)]) hx hb dX7_crossingsIn_26 rfl hl (by decide) rfl (fun ls hl => ?_)
    obtain ⟨v_3, e_⟩ : ∃ y : Int32, y = (x3 + (1 : Int32)) := ⟨_, rfl⟩
    replace hf := lt_to e_ hf
    refine lv_iinc (v := v_3) (lv' := [(3, .int v_3), (2, .int v_2), (0, .long x0)]) hx hb dX7_crossingsIn_27 hl (k := 2) rfl (by rw [e_]; rfl) (by decide) rfl (fun ls hl => ?_)
    clear e_
    refine lv_goto (tgt := 4) hx hb dX7_crossingsIn_30 (by decide) ?_
    exact hk4 x0 v_2 v_3 _ _ _ (lv_sub hl [2, 1, 0] rfl) hI hf
  have L_4 : ∀ (n_ : Nat) (x0 : Int64) (x2 : Int32) (x3 : Int32) (H : Heap) (locs : List Loc) (ls : Array Slot), lv_has ls 4 [(0, .long x0), (2, .int x2), (3, .int x3)] → In g A s.heap s ([]) H locs → f_X7_crossingsIn_L4 n_ x0 x2 x3 = some (r_) → W p l e rm_X7_crossingsIn s m args below meth c H locs 0 0 Q (F0 m 4 ls []) := by
    intro n_
    induction n_ with
    | zero =>
      intro x0 x2 x3 H locs ls hl hI hf
      rw [f_X7_crossingsIn_L4] at hf
      cases hf
    | succ n_ ih =>
      intro x0 x2 x3 H locs ls hl hI hf
      rw [f_X7_crossingsIn_L4] at hf
      refine lv_iload_n hx hb dX7_crossingsIn_4 rfl (lv_at hl 2 rfl) ?_
      refine lv_bipush (v := 14) hx hb dX7_crossingsIn_5 (by decide) ?_
      refine lv_icmp_ge (tgt := 33) hx hb dX7_crossingsIn_7 (by decide) (fun h_ => ?_) (fun h_ => ?_)
      · replace hf := if_t h_ hf
        refine lv_iload_n hx hb dX7_crossingsIn_33 rfl (lv_at hl 1 rfl) ?_
        refine lv_iconst (v := 2) hx hb dX7_crossingsIn_34 (by decide) ?_
        refine lv_idiv hx hb dX7_crossingsIn_35 (by decide) ?_
        cases hf
        exact end_i hQ hA X hI dX7_crossingsIn_36
      · replace hf := if_f h_ hf
        refine lv_iload_n hx hb dX7_crossingsIn_10 rfl (lv_at hl 1 rfl) ?_
        refine lv_lload_n hx hb dX7_crossingsIn_11 rfl (lv_at hl 0 rfl) ?_
        refine lv_iload_n hx hb dX7_crossingsIn_12 rfl (lv_at hl 2 rfl) ?_
        obtain ⟨r_1, hc_, hf⟩ := bd1_some hf
        refine call_Si X hI Cj.nil (c_X4_passAt l g x0 x3 r_1 hc_) ⟨rfl, rfl⟩ ⟨ht _ w_1322, w_954, ht _ w_148, lk_X4_passAt⟩ w_953 rfl hl rfl rfl dX7_crossingsIn_13 rfl rfl rfl rfl (fun H locs hI => ?_)
        refine lv_iconst (v := (-1)) hx hb dX7_crossingsIn_16 (by decide) ?_
        refine lv_icmp_ne (tgt := 24) hx hb dX7_crossingsIn_17 (by decide) (fun h_ => ?_) (fun h_ => ?_)
        · replace hf := if_f h_ hf
          refine lv_iconst (v := 1) hx hb dX7_crossingsIn_24 (by decide) ?_
          exact L_25 x0 x3 x2 (1 : Int32) _ _ _ _ (lv_sub hl [0, 2] rfl) hI hf (fun z_0 z_1 z_2 _ _ _ hl hI hf => ih z_0 z_1 z_2 _ _ _ hl hI hf)
        · replace hf := if_t h_ hf
          refine lv_iconst (v := 0) hx hb dX7_crossingsIn_20 (by decide) ?_
          refine lv_goto (tgt := 25) hx hb dX7_crossingsIn_21 (by decide) ?_
          exact L_25 x0 x3 x2 (0 : Int32) _ _ _ _ (lv_sub hl [0, 2] rfl) hI hf (fun z_0 z_1 z_2 _ _ _ hl hI hf => ih z_0 z_1 z_2 _ _ _ hl hI hf)
  unfold f_X7_crossingsIn at hf
  refine lv_iconst (v := 0) hx hb dX7_crossingsIn_0 (by decide) ?_
  refine lv_istore_n (lv' := [(2, .int (0 : Int32)), (0, .long p0)]) hx hb dX7_crossingsIn_1 rfl hl (by decide) rfl (fun ls hl => ?_)
  refine lv_iconst (v := 0) hx hb dX7_crossingsIn_2 (by decide) ?_
  refine lv_istore_n (lv' := [(3, .int (0 : Int32)), (2, .int (0 : Int32)), (0, .long p0)]) hx hb dX7_crossingsIn_3 rfl hl (by decide) rfl (fun ls hl => ?_)
  exact L_4 FU p0 (0 : Int32) (0 : Int32) _ _ _ (lv_sub hl [2, 1, 0] rfl) hI hf
abbrev rm_X7_leastLeft : Room := { frames := 6, cells := 0, slots := 0, locals := 147 }
set_option maxRecDepth 20000 in
theorem c_X7_leastLeft (l : Launch) (g : GT) (a_se : Nat → Nat) (a_sb : Nat → Nat) (a_fm : Nat → Nat) (a_ri : Nat → Nat) (se : SeS) (sb : BoS) (fm : MoS) (ri : RiS) (p2 : Int32) (r_ : Int32) (o_se : SeS) (o_sb : BoS) (hf : f_X7_leastLeft se sb fm ri p2 = some (r_, o_se, o_sb)) : CI l yX7_leastLeft cX7_leastLeft 5 (some .int) rm_X7_leastLeft g [.ref (a_se 0), .ref (a_fm 0), .int p2] (wSe g a_se (a_sb 0) se ++ (wBo g a_sb (a_ri 0) sb ++ (wMo g a_fm fm ++ (wRi g a_ri ri ++ [])))) (wSe g a_se (a_sb 0) o_se ++ (wBo g a_sb (a_ri 0) o_sb ++ (wMo g a_fm fm ++ (wRi g a_ri ri ++ [])))) r_ := by
  refine start2 (y := yX7_leastLeft) (cc := cX7_leastLeft) (n := 5) (av := [.ref (a_se 0), .ref (a_fm 0), .int p2]) (ws := (wSe g a_se (a_sb 0) se ++ (wBo g a_sb (a_ri 0) sb ++ (wMo g a_fm fm ++ (wRi g a_ri ri ++ []))))) (Qc := fun sz => QI g (wSe g a_se (a_sb 0) se ++ (wBo g a_sb (a_ri 0) sb ++ (wMo g a_fm fm ++ (wRi g a_ri ri ++ [])))) (wSe g a_se (a_sb 0) o_se ++ (wBo g a_sb (a_ri 0) o_sb ++ (wMo g a_fm fm ++ (wRi g a_ri ri ++ [])))) r_ sz) (by decide) rfl ?_
  intro p e s m args below meth c ls Q A ha hQ hA X hl hI hin
  have X : Cx p s m args meth c cX7_leastLeft 5 RX7 (some .int) := X
  have hl : lv_has ls 5 [(0, .ref (a_se 0)), (1, .ref (a_fm 0)), (2, .int p2)] := hl
  obtain ⟨hx, hb, hml, hown, ht, hr, hlk⟩ := id X
  clear ha hin
  have L_21 : ∀ (n_ : Nat) (x3 : Int32) (x4 : Int32) (se : SeS) (sb : BoS) (H : Heap) (locs : List Loc) (ls : Array Slot), lv_has ls 5 [(0, .ref (a_se 0)), (3, .int x3), (4, .int x4)] → In g A s.heap s (wSe g a_se (a_sb 0) se ++ (wBo g a_sb (a_ri 0) sb ++ (wMo g a_fm fm ++ (wRi g a_ri ri ++ [])))) H locs → f_X7_leastLeft_L21 n_ x3 x4 se sb = some (r_, o_se, o_sb) → W p l e rm_X7_leastLeft s m args below meth c H locs 0 0 Q (F0 m 21 ls []) := by
    intro n_
    induction n_ with
    | zero =>
      intro x3 x4 se sb H locs ls hl hI hf
      rw [f_X7_leastLeft_L21] at hf
      cases hf
    | succ n_ ih =>
      intro x3 x4 se sb H locs ls hl hI hf
      rw [f_X7_leastLeft_L21] at hf
      refine lv_iload hx hb dX7_leastLeft_21 (lv_at hl 2 rfl) ?_
      refine lv_aload_n hx hb dX7_leastLeft_23 rfl (lv_at hl 0 rfl) ?_
      refine g_Se_count X hI has_Se.l (X.fl w_601) dX7_leastLeft_24 ?_
      refine lv_icmp_ge (tgt := 51) hx hb dX7_leastLeft_27 (by decide) (fun h_ => ?_) (fun h_ => ?_)
      · replace hf := if_t h_ hf
        refine lv_iload_n hx hb dX7_leastLeft_51 rfl (lv_at hl 1 rfl) ?_
        cases hf
        exact end_i hQ hA X hI dX7_leastLeft_52
      · replace hf := if_f h_ hf
        refine lv_iload_n hx hb dX7_leastLeft_30 rfl (lv_at hl 1 rfl) ?_
        refine lv_aload_n hx hb dX7_leastLeft_31 rfl (lv_at hl 0 rfl) ?_
        refine g_Se_keys X hI has_Se.l (X.fl w_597) dX7_leastLeft_32 ?_
        refine lv_iload hx hb dX7_leastLeft_35 (lv_at hl 2 rfl) ?_
        obtain ⟨h_, hf⟩ := ck_someM hf
        refine ld_J X hI has_Se_keys.l h_ dX7_leastLeft_37 ?_
        obtain ⟨r_4, hc_, hf⟩ := bd1_some hf
        refine call_Si X hI Cj.nil (c_X7_crossingsIn l g (Se_keys se (Int32.toNatClampNeg x4)) r_4 hc_) ⟨rfl, rfl⟩ ⟨ht _ w_1319, w_1321, ht _ w_151, lk_X7_crossingsIn⟩ w_1320 rfl hl rfl rfl dX7_leastLeft_38 rfl rfl rfl rfl (fun H locs hI => ?_)
        refine va_mmin hx hb (by rw [hml]; exact hl.1.symm) hown (ht _ w_1323) (ht _ w_742) (ht _ w_156) (ht _ w_743) (Nat.le_of_ble_eq_true rfl) (Nat.le_of_ble_eq_true rfl) (Nat.le_of_ble_eq_true rfl) (Nat.le_of_ble_eq_true rfl) dX7_leastLeft_41 ?_
        refine lv_topi (fun v_5 e_ => ?_)
        replace hf := lt_to e_ hf
        clear e_
        refine lv_istore_n (lv' := [(3, .int v_5), (0, .ref (a_se 0)), (4, .int x4)]) hx hb dX7_leastLeft_44 rfl hl (by decide) rfl (fun ls hl => ?_)
        obtain ⟨v_6, e_⟩ : ∃ y : Int32, y = (x4 + (1 : Int32)) := ⟨_, rfl⟩
        replace hf := lt_to e_ hf
        refine lv_iinc (v := v_6) (lv' := [(4, .int v_6), (3, .int v_5), (0, .ref (a_se 0))]) hx hb dX7_leastLeft_45 hl (k := 2) rfl (by rw [e_]; rfl) (by decide) rfl (fun ls hl => ?_)
        clear e_
        refine lv_goto (tgt := 21) hx hb dX7_leastLeft_48 (by decide) ?_
        exact ih v_5 v_6 se sb _ _ _ (lv_sub hl [2, 1, 0] rfl) hI hf
  unfold f_X7_leastLeft at hf
  refine lv_aload_n hx hb dX7_leastLeft_0 rfl (lv_at hl 0 rfl) ?_
  refine lv_aload_n hx hb dX7_leastLeft_1 rfl (lv_at hl 1 rfl) ?_
  refine lv_iload_n hx hb dX7_leastLeft_2 rfl (lv_at hl 2 rfl) ?_
  refine lv_iconst (v := 0) hx hb dX7_leastLeft_3 (by decide) ?_
  obtain ⟨r_1, se_2, sb_3, hc_, hf⟩ := bd3_some hf
  refine call_Vi X hI (Cj.keep (Cj.keep (Cj.keep (Cj.keep Cj.id)))) (c_X7_grow l g a_se a_sb a_fm a_ri se sb fm ri p2 (0 : Int32) r_1 se_2 sb_3 hc_) ⟨rfl, rfl⟩ ⟨ht _ w_1185, w_1144, ht _ w_151, lk_X7_grow⟩ w_1142 w_1143 rfl rfl rfl hl rfl rfl dX7_leastLeft_4 rfl rfl rfl rfl (fun H locs hI => ?_)
  refine lv_bipush (v := (-3)) hx hb dX7_leastLeft_7 (by decide) ?_
  refine lv_icmp_ne (tgt := 15) hx hb dX7_leastLeft_9 (by decide) (fun h_ => ?_) (fun h_ => ?_)
  · replace hf := if_f h_ hf
    refine lv_bipush (v := 7) hx hb dX7_leastLeft_15 (by decide) ?_
    refine lv_istore_n (lv' := [(3, .int (7 : Int32)), (0, .ref (a_se 0)), (1, .ref (a_fm 0)), (2, .int p2)]) hx hb dX7_leastLeft_17 rfl hl (by decide) rfl (fun ls hl => ?_)
    refine lv_iconst (v := 0) hx hb dX7_leastLeft_18 (by decide) ?_
    refine lv_istore (lv' := [(4, .int (0 : Int32)), (3, .int (7 : Int32)), (0, .ref (a_se 0)), (1, .ref (a_fm 0)), (2, .int p2)]) hx hb dX7_leastLeft_19 hl (by decide) rfl (fun ls hl => ?_)
    exact L_21 FU (7 : Int32) (0 : Int32) se_2 sb_3 _ _ _ (lv_sub hl [2, 1, 0] rfl) hI hf
  · replace hf := if_t h_ hf
    refine lv_bipush (v := (-3)) hx hb dX7_leastLeft_12 (by decide) ?_
    cases hf
    exact end_i hQ hA X hI dX7_leastLeft_14
