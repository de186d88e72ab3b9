abbrev rm_X6_ringWith : Room := { frames := 0, cells := 0, slots := 0, locals := 0 }
set_option maxRecDepth 20000 in
theorem c_X6_ringWith (l : Launch) (g : GT) (a_ri : Nat → Nat) (ri : RiS) (p1 : Int32) (r_ : Int32) (hf : f_X6_ringWith ri p1 = some (r_)) : CI l yX6_ringWith cX6_ringWith 3 (some .int) rm_X6_ringWith g [.ref (a_ri 0), .int p1] (wRi g a_ri ri ++ []) (wRi g a_ri ri ++ []) r_ := by
  refine start2 (y := yX6_ringWith) (cc := cX6_ringWith) (n := 3) (av := [.ref (a_ri 0), .int p1]) (ws := (wRi g a_ri ri ++ [])) (Qc := fun sz => QI g (wRi g a_ri ri ++ []) (wRi g a_ri ri ++ []) r_ sz) (by decide) rfl ?_
  intro p e s m args below meth c ls Q A ha hQ hA X hl hI hin
  have X : Cx p s m args meth c cX6_ringWith 3 RX6 (some .int) := X
  have hl : lv_has ls 3 [(0, .ref (a_ri 0)), (1, .int p1)] := hl
  obtain ⟨hx, hb, hml, hown, ht, hr, hlk⟩ := id X
  clear ha hin
  unfold f_X6_ringWith at hf
  refine lv_aload_n hx hb dX6_ringWith_0 rfl (lv_at hl 0 rfl) ?_
  refine g_Ri_linkIn X hI has_Ri.l (X.fl w_415) dX6_ringWith_1 ?_
  refine lv_iconst (v := 2) hx hb dX6_ringWith_4 (by decide) ?_
  refine lv_iload_n hx hb dX6_ringWith_5 rfl (lv_at hl 1 rfl) ?_
  refine lv_imul hx hb dX6_ringWith_6 ?_
  obtain ⟨h_, hf⟩ := ck_someM hf
  refine ld_I X hI has_Ri_linkIn.l h_ dX6_ringWith_7 ?_
  refine lv_topi (fun v_1 e_ => ?_)
  replace hf := lt_to e_ hf
  clear e_
  refine lv_istore_n (lv' := [(2, .int v_1), (0, .ref (a_ri 0)), (1, .int p1)]) hx hb dX6_ringWith_8 rfl hl (by decide) rfl (fun ls hl => ?_)
  refine lv_iload_n hx hb dX6_ringWith_9 rfl (lv_at hl 0 rfl) ?_
  refine lv_if_ge (tgt := 17) hx hb dX6_ringWith_10 (by decide) (fun h_ => ?_) (fun h_ => ?_)
  · replace hf := if_t h_ hf
    refine lv_aload_n hx hb dX6_ringWith_17 rfl (lv_at hl 1 rfl) ?_
    refine g_Ri_linkRing X hI has_Ri.l (X.fl w_419) dX6_ringWith_18 ?_
    refine lv_iload_n hx hb dX6_ringWith_21 rfl (lv_at hl 0 rfl) ?_
    obtain ⟨h_, hf⟩ := ck_someM hf
    refine ld_I X hI has_Ri_linkRing.l h_ dX6_ringWith_22 ?_
    cases hf
    exact end_i hQ hA X hI dX6_ringWith_23
  · replace hf := if_f h_ hf
    refine lv_iconst (v := (-1)) hx hb dX6_ringWith_13 (by decide) ?_
    refine lv_goto (tgt := 23) hx hb dX6_ringWith_14 (by decide) ?_
    cases hf
    exact end_i hQ hA X hI dX6_ringWith_23
abbrev rm_X6_peopleIn : Room := { frames := 0, cells := 0, slots := 0, locals := 0 }
set_option maxRecDepth 20000 in
theorem c_X6_peopleIn (l : Launch) (g : GT) (a_ri : Nat → Nat) (ri : RiS) (p1 : Int32) (r_ : Int32) (hf : f_X6_peopleIn ri p1 = some (r_)) : CI l yX6_peopleIn cX6_peopleIn 2 (some .int) rm_X6_peopleIn g [.ref (a_ri 0), .int p1] (wRi g a_ri ri ++ []) (wRi g a_ri ri ++ []) r_ := by
  refine start2 (y := yX6_peopleIn) (cc := cX6_peopleIn) (n := 2) (av := [.ref (a_ri 0), .int p1]) (ws := (wRi g a_ri ri ++ [])) (Qc := fun sz => QI g (wRi g a_ri ri ++ []) (wRi g a_ri ri ++ []) r_ sz) (by decide) rfl ?_
  intro p e s m args below meth c ls Q A ha hQ hA X hl hI hin
  have X : Cx p s m args meth c cX6_peopleIn 2 RX6 (some .int) := X
  have hl : lv_has ls 2 [(0, .ref (a_ri 0)), (1, .int p1)] := hl
  obtain ⟨hx, hb, hml, hown, ht, hr, hlk⟩ := id X
  clear ha hin
  unfold f_X6_peopleIn at hf
  refine lv_iload_n hx hb dX6_peopleIn_0 rfl (lv_at hl 1 rfl) ?_
  refine lv_if_lt (tgt := 30) hx hb dX6_peopleIn_1 (by decide) (fun h_ => ?_) (fun h_ => ?_)
  · replace hf := if_t h_ hf
    refine lv_iconst (v := 0) hx hb dX6_peopleIn_30 (by decide) ?_
    cases hf
    exact end_i hQ hA X hI dX6_peopleIn_31
  · replace hf := if_f h_ hf
    refine lv_iload_n hx hb dX6_peopleIn_4 rfl (lv_at hl 1 rfl) ?_
    refine lv_aload_n hx hb dX6_peopleIn_5 rfl (lv_at hl 0 rfl) ?_
    refine g_Ri_count X hI has_Ri.l (X.fl w_396) dX6_peopleIn_6 ?_
    refine lv_icmp_ge (tgt := 30) hx hb dX6_peopleIn_9 (by decide) (fun h_ => ?_) (fun h_ => ?_)
    · replace hf := if_t h_ hf
      refine lv_iconst (v := 0) hx hb dX6_peopleIn_30 (by decide) ?_
      cases hf
      exact end_i hQ hA X hI dX6_peopleIn_31
    · replace hf := if_f h_ hf
      refine lv_aload_n hx hb dX6_peopleIn_12 rfl (lv_at hl 0 rfl) ?_
      refine g_Ri_firstMember X hI has_Ri.l (X.fl w_409) dX6_peopleIn_13 ?_
      refine lv_iload_n hx hb dX6_peopleIn_16 rfl (lv_at hl 1 rfl) ?_
      refine lv_iconst (v := 1) hx hb dX6_peopleIn_17 (by decide) ?_
      refine lv_iadd hx hb dX6_peopleIn_18 ?_
      obtain ⟨h_, hf⟩ := ck_someM hf
      refine ld_I X hI has_Ri_firstMember.l h_ dX6_peopleIn_19 ?_
      refine lv_aload_n hx hb dX6_peopleIn_20 rfl (lv_at hl 0 rfl) ?_
      refine g_Ri_firstMember X hI has_Ri.l (X.fl w_409) dX6_peopleIn_21 ?_
      refine lv_iload_n hx hb dX6_peopleIn_24 rfl (lv_at hl 1 rfl) ?_
      obtain ⟨h_, hf⟩ := ck_someM hf
      refine ld_I X hI has_Ri_firstMember.l h_ dX6_peopleIn_25 ?_
      refine lv_isub hx hb dX6_peopleIn_26 ?_
      refine lv_goto (tgt := 31) hx hb dX6_peopleIn_27 (by decide) ?_
      cases hf
      exact end_i hQ hA X hI dX6_peopleIn_31
abbrev rm_X6_traceHands : Room := { frames := 1, cells := 0, slots := 0, locals := 21 }
set_option maxRecDepth 20000 in
theorem c_X6_traceHands (l : Launch) (g : GT) (a_ri : Nat → Nat) (a_to : Nat → Nat) (ri : RiS) (to : ToS) (p2 : Int32) (o_ri : RiS) (hf : f_X6_traceHands ri to p2 = some (o_ri)) : CV l yX6_traceHands cX6_traceHands 7 none rm_X6_traceHands g [.ref (a_ri 0), .ref (a_to 0), .int p2] (wRi g a_ri ri ++ (wTo g a_to to ++ [])) (wRi g a_ri o_ri ++ (wTo g a_to to ++ [])) := by
  refine start2 (y := yX6_traceHands) (cc := cX6_traceHands) (n := 7) (av := [.ref (a_ri 0), .ref (a_to 0), .int p2]) (ws := (wRi g a_ri ri ++ (wTo g a_to to ++ []))) (Qc := fun sz => QV g (wRi g a_ri ri ++ (wTo g a_to to ++ [])) (wRi g a_ri o_ri ++ (wTo g a_to to ++ [])) sz) (by decide) rfl ?_
  intro p e s m args below meth c ls Q A ha hQ hA X hl hI hin
  have X : Cx p s m args meth c cX6_traceHands 7 RX6 none := X
  have hl : lv_has ls 7 [(0, .ref (a_ri 0)), (1, .ref (a_to 0)), (2, .int p2)] := hl
  obtain ⟨hx, hb, hml, hown, ht, hr, hlk⟩ := id X
  clear ha hin
  have L_119 : ∀ (t1i : Int32) (t2i : Int32) (ri : RiS) (H : Heap) (locs : List Loc) (ls : Array Slot), lv_has ls 7 [] → In g A s.heap s (wRi g a_ri ri ++ (wTo g a_to to ++ [])) H locs → f_X6_traceHands_L119 t1i t2i ri = some (o_ri) → W p l e rm_X6_traceHands s m args below meth c H locs 0 0 Q (F0 m 119 ls [.int t2i, .int t1i, .ref (a_ri 11)]) := by
    intro t1i t2i ri H locs ls hl hI hf
    unfold f_X6_traceHands_L119 at hf
    obtain ⟨h_, hf⟩ := ck_someM hf
    refine st_Z X hI up_Ri_linkFits.l h_ dX6_traceHands_119 (fun H locs hI => ?_)
    generalize hz_ : (Ri_linkFits' ri (upd (Ri_linkFits ri) (Int32.toNatClampNeg t1i) (vp_nar .boolean t2i))) = ri_8 at hI hf
    clear hz_
    replace hf := lt_e hf
    cases hf
    exact end_v hQ hA X hI dX6_traceHands_120
  have L_90 : ∀ (x2 : Int32) (t1i : Int32) (t2i : Int32) (ri : RiS) (H : Heap) (locs : List Loc) (ls : Array Slot), lv_has ls 7 [(0, .ref (a_ri 0)), (1, .ref (a_to 0)), (2, .int x2)] → In g A s.heap s (wRi g a_ri ri ++ (wTo g a_to to ++ [])) H locs → f_X6_traceHands_L90 x2 t1i t2i ri to = some (o_ri) → W p l e rm_X6_traceHands s m args below meth c H locs 0 0 Q (F0 m 90 ls [.int t2i, .int t1i, .ref (a_ri 9)]) := by
    intro x2 t1i t2i ri H locs ls hl hI hf
    unfold f_X6_traceHands_L90 at hf
    obtain ⟨h_, hf⟩ := ck_someM hf
    refine st_I X hI up_Ri_linkGoer.l h_ dX6_traceHands_90 (fun H locs hI => ?_)
    generalize hz_ : (Ri_linkGoer' ri (upd (Ri_linkGoer ri) (Int32.toNatClampNeg t1i) t2i)) = ri_7 at hI hf
    clear hz_
    replace hf := lt_e hf
    refine lv_aload_n hx hb dX6_traceHands_91 rfl (lv_at hl 0 rfl) ?_
    refine g_Ri_linkFits X hI has_Ri.l (X.fl w_430) dX6_traceHands_92 ?_
    refine lv_iload_n hx hb dX6_traceHands_95 rfl (lv_at hl 2 rfl) ?_
    refine lv_aload_n hx hb dX6_traceHands_96 rfl (lv_at hl 1 rfl) ?_
    refine g_To_talls X hI has_To.l.r (hI.fn (List.mem_of_getElem? (i := 18) rfl)) dX6_traceHands_97 ?_
    refine lv_aload_n hx hb dX6_traceHands_100 rfl (lv_at hl 0 rfl) ?_
    refine g_Ri_linkGoer X hI has_Ri.l (X.fl w_424) dX6_traceHands_101 ?_
    refine lv_iload_n hx hb dX6_traceHands_104 rfl (lv_at hl 2 rfl) ?_
    obtain ⟨h_, hf⟩ := ck_someM hf
    refine ld_I X hI has_Ri_linkGoer.l h_ dX6_traceHands_105 ?_
    obtain ⟨h_, hf⟩ := ck_someM hf
    refine ld_I X hI has_To_talls.l.r h_ dX6_traceHands_106 ?_
    refine lv_aload_n hx hb dX6_traceHands_107 rfl (lv_at hl 0 rfl) ?_
    refine g_Ri_tall X hI has_Ri.l (X.fl w_399) dX6_traceHands_108 ?_
    refine lv_icmp_gt (tgt := 118) hx hb dX6_traceHands_111 (by decide) (fun h_ => ?_) (fun h_ => ?_)
    · replace hf := if_t h_ hf
      refine lv_iconst (v := 0) hx hb dX6_traceHands_118 (by decide) ?_
      exact L_119 x2 (0 : Int32) ri_7 _ _ _ (lv_sub hl [] rfl) hI hf
    · replace hf := if_f h_ hf
      refine lv_iconst (v := 1) hx hb dX6_traceHands_114 (by decide) ?_
      refine lv_goto (tgt := 119) hx hb dX6_traceHands_115 (by decide) ?_
      exact L_119 x2 (1 : Int32) ri_7 _ _ _ (lv_sub hl [] rfl) hI hf
  unfold f_X6_traceHands at hf
  refine lv_aload_n hx hb dX6_traceHands_0 rfl (lv_at hl 1 rfl) ?_
  refine g_To_handAt X hI has_To.l.r (hI.fn (List.mem_of_getElem? (i := 19) rfl)) dX6_traceHands_1 ?_
  refine lv_iconst (v := 2) hx hb dX6_traceHands_4 (by decide) ?_
  refine lv_iload_n hx hb dX6_traceHands_5 rfl (lv_at hl 2 rfl) ?_
  refine lv_imul hx hb dX6_traceHands_6 ?_
  obtain ⟨h_, hf⟩ := ck_someM hf
  refine ld_I X hI has_To_handAt.l.r h_ dX6_traceHands_7 ?_
  refine lv_topi (fun v_1 e_ => ?_)
  replace hf := lt_to e_ hf
  clear e_
  refine lv_istore_n (lv' := [(3, .int v_1), (0, .ref (a_ri 0)), (1, .ref (a_to 0)), (2, .int p2)]) hx hb dX6_traceHands_8 rfl hl (by decide) rfl (fun ls hl => ?_)
  refine lv_aload_n hx hb dX6_traceHands_9 rfl (lv_at hl 2 rfl) ?_
  refine g_To_handAt X hI has_To.l.r (hI.fn (List.mem_of_getElem? (i := 19) rfl)) dX6_traceHands_10 ?_
  refine lv_iconst (v := 2) hx hb dX6_traceHands_13 (by decide) ?_
  refine lv_iload_n hx hb dX6_traceHands_14 rfl (lv_at hl 3 rfl) ?_
  refine lv_imul hx hb dX6_traceHands_15 ?_
  refine lv_iconst (v := 1) hx hb dX6_traceHands_16 (by decide) ?_
  refine lv_iadd hx hb dX6_traceHands_17 ?_
  obtain ⟨h_, hf⟩ := ck_someM hf
  refine ld_I X hI has_To_handAt.l.r h_ dX6_traceHands_18 ?_
  refine lv_topi (fun v_2 e_ => ?_)
  replace hf := lt_to e_ hf
  clear e_
  refine lv_istore (lv' := [(4, .int v_2), (3, .int v_1), (0, .ref (a_ri 0)), (1, .ref (a_to 0)), (2, .int p2)]) hx hb dX6_traceHands_19 hl (by decide) rfl (fun ls hl => ?_)
  refine lv_aload_n hx hb dX6_traceHands_21 rfl (lv_at hl 2 rfl) ?_
  refine g_Ri_partner X hI has_Ri.l (X.fl w_413) dX6_traceHands_22 ?_
  refine lv_iload_n hx hb dX6_traceHands_25 rfl (lv_at hl 1 rfl) ?_
  refine lv_iload hx hb dX6_traceHands_26 (lv_at hl 0 rfl) ?_
  obtain ⟨h_, hf⟩ := ck_someM hf
  refine st_I X hI up_Ri_partner.l h_ dX6_traceHands_28 (fun H locs hI => ?_)
  generalize hz_ : (Ri_partner' ri (upd (Ri_partner ri) (Int32.toNatClampNeg v_1) v_2)) = ri_3 at hI hf
  clear hz_
  replace hf := lt_e hf
  refine lv_aload_n hx hb dX6_traceHands_29 rfl (lv_at hl 2 rfl) ?_
  refine g_Ri_partner X hI has_Ri.l (X.fl w_413) dX6_traceHands_30 ?_
  refine lv_iload hx hb dX6_traceHands_33 (lv_at hl 0 rfl) ?_
  refine lv_iload_n hx hb dX6_traceHands_35 rfl (lv_at hl 1 rfl) ?_
  obtain ⟨h_, hf⟩ := ck_someM hf
  refine st_I X hI up_Ri_partner.l h_ dX6_traceHands_36 (fun H locs hI => ?_)
  generalize hz_ : (Ri_partner' ri_3 (upd (Ri_partner ri_3) (Int32.toNatClampNeg v_2) v_1)) = ri_4 at hI hf
  clear hz_
  replace hf := lt_e hf
  refine lv_iload_n hx hb dX6_traceHands_37 rfl (lv_at hl 1 rfl) ?_
  refine lv_iconst (v := 2) hx hb dX6_traceHands_38 (by decide) ?_
  refine lv_idiv hx hb dX6_traceHands_39 (by decide) ?_
  refine lv_iload hx hb dX6_traceHands_40 (lv_at hl 0 rfl) ?_
  refine lv_iconst (v := 2) hx hb dX6_traceHands_42 (by decide) ?_
  refine lv_idiv hx hb dX6_traceHands_43 (by decide) ?_
  refine va_mmin hx hb (by rw [hml]; exact hl.1.symm) hown (ht _ w_907) (ht _ w_742) (ht _ w_156) (ht _ w_743) (Nat.le_of_ble_eq_true rfl) (Nat.le_of_ble_eq_true rfl) (Nat.le_of_ble_eq_true rfl) (Nat.le_of_ble_eq_true rfl) dX6_traceHands_44 ?_
  refine lv_topi (fun v_5 e_ => ?_)
  replace hf := lt_to e_ hf
  clear e_
  refine lv_istore (lv' := [(5, .int v_5), (4, .int v_2), (3, .int v_1), (0, .ref (a_ri 0)), (1, .ref (a_to 0)), (2, .int p2)]) hx hb dX6_traceHands_47 hl (by decide) rfl (fun ls hl => ?_)
  refine lv_iload_n hx hb dX6_traceHands_49 rfl (lv_at hl 2 rfl) ?_
  refine lv_iconst (v := 2) hx hb dX6_traceHands_50 (by decide) ?_
  refine lv_idiv hx hb dX6_traceHands_51 (by decide) ?_
  refine lv_iload hx hb dX6_traceHands_52 (lv_at hl 1 rfl) ?_
  refine lv_iconst (v := 2) hx hb dX6_traceHands_54 (by decide) ?_
  refine lv_idiv hx hb dX6_traceHands_55 (by decide) ?_
  refine va_mmax hx hb (by rw [hml]; exact hl.1.symm) hown (ht _ w_908) (ht _ w_909) (ht _ w_156) (ht _ w_910) (Nat.le_of_ble_eq_true rfl) (Nat.le_of_ble_eq_true rfl) (Nat.le_of_ble_eq_true rfl) (Nat.le_of_ble_eq_true rfl) dX6_traceHands_56 ?_
  refine lv_topi (fun v_6 e_ => ?_)
  replace hf := lt_to e_ hf
  clear e_
  refine lv_istore (lv' := [(6, .int v_6), (5, .int v_5), (4, .int v_2), (3, .int v_1), (0, .ref (a_ri 0)), (1, .ref (a_to 0)), (2, .int p2)]) hx hb dX6_traceHands_59 hl (by decide) rfl (fun ls hl => ?_)
  refine lv_aload_n hx hb dX6_traceHands_61 rfl (lv_at hl 4 rfl) ?_
  refine g_Ri_linkGoer X hI has_Ri.l (X.fl w_424) dX6_traceHands_62 ?_
  refine lv_iload_n hx hb dX6_traceHands_65 rfl (lv_at hl 6 rfl) ?_
  refine lv_aload_n hx hb dX6_traceHands_66 rfl (lv_at hl 5 rfl) ?_
  refine g_To_talls X hI has_To.l.r (hI.fn (List.mem_of_getElem? (i := 18) rfl)) dX6_traceHands_67 ?_
  refine lv_iload hx hb dX6_traceHands_70 (lv_at hl 0 rfl) ?_
  obtain ⟨h_, hf⟩ := ck_someM hf
  refine ld_I X hI has_To_talls.l.r h_ dX6_traceHands_72 ?_
  refine lv_aload_n hx hb dX6_traceHands_73 rfl (lv_at hl 5 rfl) ?_
  refine g_To_talls X hI has_To.l.r (hI.fn (List.mem_of_getElem? (i := 18) rfl)) dX6_traceHands_74 ?_
  refine lv_iload hx hb dX6_traceHands_77 (lv_at hl 1 rfl) ?_
  obtain ⟨h_, hf⟩ := ck_someM hf
  refine ld_I X hI has_To_talls.l.r h_ dX6_traceHands_79 ?_
  refine lv_icmp_ge (tgt := 88) hx hb dX6_traceHands_80 (by decide) (fun h_ => ?_) (fun h_ => ?_)
  · replace hf := if_t h_ hf
    refine lv_iload hx hb dX6_traceHands_88 (lv_at hl 1 rfl) ?_
    exact L_90 p2 p2 v_5 ri_4 _ _ _ (lv_sub hl [4, 5, 6] rfl) hI hf
  · replace hf := if_f h_ hf
    refine lv_iload hx hb dX6_traceHands_83 (lv_at hl 0 rfl) ?_
    refine lv_goto (tgt := 90) hx hb dX6_traceHands_85 (by decide) ?_
    exact L_90 p2 p2 v_6 ri_4 _ _ _ (lv_sub hl [4, 5, 6] rfl) hI hf
abbrev rm_X6_traceSigns : Room := { frames := 0, cells := 0, slots := 0, locals := 0 }
set_option maxRecDepth 20000 in
theorem c_X6_traceSigns (l : Launch) (g : GT) (a_ri : Nat → Nat) (a_to : Nat → Nat) (ri : RiS) (to : ToS) (o_ri : RiS) (hf : f_X6_traceSigns ri to = some (o_ri)) : CV l yX6_traceSigns cX6_traceSigns 3 none rm_X6_traceSigns g [.ref (a_ri 0), .ref (a_to 0)] (wRi g a_ri ri ++ (wTo g a_to to ++ [])) (wRi g a_ri o_ri ++ (wTo g a_to to ++ [])) := by
  refine start2 (y := yX6_traceSigns) (cc := cX6_traceSigns) (n := 3) (av := [.ref (a_ri 0), .ref (a_to 0)]) (ws := (wRi g a_ri ri ++ (wTo g a_to to ++ []))) (Qc := fun sz => QV g (wRi g a_ri ri ++ (wTo g a_to to ++ [])) (wRi g a_ri o_ri ++ (wTo g a_to to ++ [])) sz) (by decide) rfl ?_
  intro p e s m args below meth c ls Q A ha hQ hA X hl hI hin
  have X : Cx p s m args meth c cX6_traceSigns 3 RX6 none := X
  have hl : lv_has ls 3 [(0, .ref (a_ri 0)), (1, .ref (a_to 0))] := hl
  obtain ⟨hx, hb, hml, hown, ht, hr, hlk⟩ := id X
  clear ha hin
  have L_55 : ∀ (x2 : Int32) (ri : RiS) (k10 : (Int32) → (RiS) → (ToS) → Option ((RiS))) (H : Heap) (locs : List Loc) (ls : Array Slot), lv_has ls 3 [(0, .ref (a_ri 0)), (1, .ref (a_to 0)), (2, .int x2)] → In g A s.heap s (wRi g a_ri ri ++ (wTo g a_to to ++ [])) H locs → f_X6_traceSigns_L55 x2 ri to k10 = some (o_ri) → (∀ (x2 : Int32) (ri : RiS) (H : Heap) (locs : List Loc) (ls : Array Slot), lv_has ls 3 [(0, .ref (a_ri 0)), (1, .ref (a_to 0)), (2, .int x2)] → In g A s.heap s (wRi g a_ri ri ++ (wTo g a_to to ++ [])) H locs → k10 x2 ri to = some (o_ri) → W p l e rm_X6_traceSigns s m args below meth c H locs 0 0 Q (F0 m 10 ls [])) → W p l e rm_X6_traceSigns s m args below meth c H locs 0 0 Q (F0 m 55 ls []) := by
    intro x2 ri k10 H locs ls hl hI hf hk10
    unfold f_X6_traceSigns_L55 at hf
    obtain ⟨v_3, e_⟩ : ∃ y : Int32, y = (x2 + (1 : Int32)) := ⟨_, rfl⟩
    replace hf := lt_to e_ hf
    refine lv_iinc (v := v_3) (lv' := [(2, .int v_3), (0, .ref (a_ri 0)), (1, .ref (a_to 0))]) hx hb dX6_traceSigns_55 hl (k := 2) rfl (by rw [e_]; rfl) (by decide) rfl (fun ls hl => ?_)
    clear e_
    refine lv_goto (tgt := 10) hx hb dX6_traceSigns_58 (by decide) ?_
    exact hk10 v_3 ri _ _ _ (lv_sub hl [1, 2, 0] rfl) hI hf
  have L_10 : ∀ (n_ : Nat) (x2 : Int32) (ri : RiS) (H : Heap) (locs : List Loc) (ls : Array Slot), lv_has ls 3 [(0, .ref (a_ri 0)), (1, .ref (a_to 0)), (2, .int x2)] → In g A s.heap s (wRi g a_ri ri ++ (wTo g a_to to ++ [])) H locs → f_X6_traceSigns_L10 n_ x2 ri to = some (o_ri) → W p l e rm_X6_traceSigns s m args below meth c H locs 0 0 Q (F0 m 10 ls []) := by
    intro n_
    induction n_ with
    | zero =>
      intro x2 ri H locs ls hl hI hf
      rw [f_X6_traceSigns_L10] at hf
      cases hf
    | succ n_ ih =>
      intro x2 ri H locs ls hl hI hf
      rw [f_X6_traceSigns_L10] at hf
      refine lv_iload_n hx hb dX6_traceSigns_10 rfl (lv_at hl 2 rfl) ?_
      refine lv_aload_n hx hb dX6_traceSigns_11 rfl (lv_at hl 0 rfl) ?_
      refine g_Ri_crossings X hI has_Ri.l (X.fl w_390) dX6_traceSigns_12 ?_
      refine lv_icmp_ge (tgt := 61) hx hb dX6_traceSigns_15 (by decide) (fun h_ => ?_) (fun h_ => ?_)
      · replace hf := if_t h_ hf
        cases hf
        exact end_v hQ hA X hI dX6_traceSigns_61
      · replace hf := if_f h_ hf
        refine lv_aload_n hx hb dX6_traceSigns_18 rfl (lv_at hl 0 rfl) ?_
        refine g_Ri_along X hI has_Ri.l (X.fl w_417) dX6_traceSigns_19 ?_
        refine lv_aload_n hx hb dX6_traceSigns_22 rfl (lv_at hl 1 rfl) ?_
        refine g_To_linkOver X hI has_To.l.r (hI.fn (List.mem_of_getElem? (i := 22) rfl)) dX6_traceSigns_23 ?_
        refine lv_iload_n hx hb dX6_traceSigns_26 rfl (lv_at hl 2 rfl) ?_
        obtain ⟨h_, hf⟩ := ck_someM hf
        refine ld_I X hI has_To_linkOver.l.r h_ dX6_traceSigns_27 ?_
        obtain ⟨h_, hf⟩ := ck_someM hf
        refine ld_I X hI has_Ri_along.l h_ dX6_traceSigns_28 ?_
        refine lv_aload_n hx hb dX6_traceSigns_29 rfl (lv_at hl 0 rfl) ?_
        refine g_Ri_along X hI has_Ri.l (X.fl w_417) dX6_traceSigns_30 ?_
        refine lv_aload_n hx hb dX6_traceSigns_33 rfl (lv_at hl 1 rfl) ?_
        refine g_To_linkUnder X hI has_To.l.r (hI.fn (List.mem_of_getElem? (i := 21) rfl)) dX6_traceSigns_34 ?_
        refine lv_iload_n hx hb dX6_traceSigns_37 rfl (lv_at hl 2 rfl) ?_
        obtain ⟨h_, hf⟩ := ck_someM hf
        refine ld_I X hI has_To_linkUnder.l.r h_ dX6_traceSigns_38 ?_
        obtain ⟨h_, hf⟩ := ck_someM hf
        refine ld_I X hI has_Ri_along.l h_ dX6_traceSigns_39 ?_
        refine lv_icmp_eq (tgt := 55) hx hb dX6_traceSigns_40 (by decide) (fun h_ => ?_) (fun h_ => ?_)
        · replace hf := if_t h_ hf
          exact L_55 x2 ri _ _ _ _ hl hI hf (fun z_0 z_1 _ _ _ hl hI hf => ih z_0 z_1 _ _ _ hl hI hf)
        · replace hf := if_f h_ hf
          refine lv_aload_n hx hb dX6_traceSigns_43 rfl (lv_at hl 0 rfl) ?_
          refine lv_dup hx hb dX6_traceSigns_44 rfl ?_
          refine g_Ri_plus X hI has_Ri.l (X.fl w_405) dX6_traceSigns_45 ?_
          refine lv_iconst (v := 1) hx hb dX6_traceSigns_48 (by decide) ?_
          refine lv_iload_n hx hb dX6_traceSigns_49 rfl (lv_at hl 2 rfl) ?_
          refine lv_ishl hx hb dX6_traceSigns_50 ?_
          refine lv_ixor hx hb dX6_traceSigns_51 ?_
          refine p_Ri_plus X hI up_Ri_plus.l (X.fl w_405) dX6_traceSigns_52 (fun H locs hI => ?_)
          generalize hz_ : (Ri_plus' ri ((Ri_plus ri) ^^^ ((1 : Int32) <<< (x2 &&& 31)))) = ri_2 at hI hf
          clear hz_
          replace hf := lt_e hf
          exact L_55 x2 ri_2 _ _ _ _ hl hI hf (fun z_0 z_1 _ _ _ hl hI hf => ih z_0 z_1 _ _ _ hl hI hf)
  unfold f_X6_traceSigns at hf
  refine lv_aload_n hx hb dX6_traceSigns_0 rfl (lv_at hl 0 rfl) ?_
  refine lv_aload_n hx hb dX6_traceSigns_1 rfl (lv_at hl 1 rfl) ?_
  refine g_To_plus X hI has_To.l.r (hI.fn (List.mem_of_getElem? (i := 17) rfl)) dX6_traceSigns_2 ?_
  refine p_Ri_plus X hI up_Ri_plus.l (X.fl w_405) dX6_traceSigns_5 (fun H locs hI => ?_)
  generalize hz_ : (Ri_plus' ri (To_plus to)) = ri_1 at hI hf
  clear hz_
  replace hf := lt_e hf
  refine lv_iconst (v := 0) hx hb dX6_traceSigns_8 (by decide) ?_
  refine lv_istore_n (lv' := [(2, .int (0 : Int32)), (0, .ref (a_ri 0)), (1, .ref (a_to 0))]) hx hb dX6_traceSigns_9 rfl hl (by decide) rfl (fun ls hl => ?_)
  exact L_10 FU (0 : Int32) ri_1 _ _ _ (lv_sub hl [1, 2, 0] rfl) hI hf
abbrev rm_X6_traceLink : Room := { frames := 2, cells := 0, slots := 0, locals := 43 }
set_option maxRecDepth 20000 in
theorem c_X6_traceLink (l : Launch) (g : GT) (a_ri : Nat → Nat) (a_to : Nat → Nat) (ri : RiS) (to : ToS) (p2 : Int32) (p3 : Int32) (o_ri : RiS) (hf : f_X6_traceLink ri to p2 p3 = some (o_ri)) : CV l yX6_traceLink cX6_traceLink 7 none rm_X6_traceLink g [.ref (a_ri 0), .ref (a_to 0), .int p2, .int p3] (wRi g a_ri ri ++ (wTo g a_to to ++ [])) (wRi g a_ri o_ri ++ (wTo g a_to to ++ [])) := by
  refine start2 (y := yX6_traceLink) (cc := cX6_traceLink) (n := 7) (av := [.ref (a_ri 0), .ref (a_to 0), .int p2, .int p3]) (ws := (wRi g a_ri ri ++ (wTo g a_to to ++ []))) (Qc := fun sz => QV g (wRi g a_ri ri ++ (wTo g a_to to ++ [])) (wRi g a_ri o_ri ++ (wTo g a_to to ++ [])) sz) (by decide) rfl ?_
  intro p e s m args below meth c ls Q A ha hQ hA X hl hI hin
  have X : Cx p s m args meth c cX6_traceLink 7 RX6 none := X
  have hl : lv_has ls 7 [(0, .ref (a_ri 0)), (1, .ref (a_to 0)), (2, .int p2), (3, .int p3)] := hl
  obtain ⟨hx, hb, hml, hown, ht, hr, hlk⟩ := id X
  clear ha hin
  have L_121 : ∀ (x2 : Int32) (x3 : Int32) (x4 : Int32) (ri : RiS) (k38 : (Int32) → (Int32) → (Int32) → (RiS) → (ToS) → Option ((RiS))) (H : Heap) (locs : List Loc) (ls : Array Slot), lv_has ls 7 [(0, .ref (a_ri 0)), (1, .ref (a_to 0)), (2, .int x2), (3, .int x3), (4, .int x4)] → In g A s.heap s (wRi g a_ri ri ++ (wTo g a_to to ++ [])) H locs → f_X6_traceLink_L121 x2 x3 x4 ri to k38 = some (o_ri) → (∀ (x2 : Int32) (x3 : Int32) (x4 : Int32) (ri : RiS) (H : Heap) (locs : List Loc) (ls : Array Slot), lv_has ls 7 [(0, .ref (a_ri 0)), (1, .ref (a_to 0)), (2, .int x2), (3, .int x3), (4, .int x4)] → In g A s.heap s (wRi g a_ri ri ++ (wTo g a_to to ++ [])) H locs → k38 x2 x3 x4 ri to = some (o_ri) → W p l e rm_X6_traceLink s m args below meth c H locs 0 0 Q (F0 m 38 ls [])) → W p l e rm_X6_traceLink s m args below meth c H locs 0 0 Q (F0 m 121 ls []) := by
    intro x2 x3 x4 ri k38 H locs ls hl hI hf hk38
    unfold f_X6_traceLink_L121 at hf
    obtain ⟨v_9, e_⟩ : ∃ y : Int32, y = (x4 + (1 : Int32)) := ⟨_, rfl⟩
    replace hf := lt_to e_ hf
    refine lv_iinc (v := v_9) (lv' := [(4, .int v_9), (0, .ref (a_ri 0)), (1, .ref (a_to 0)), (2, .int x2), (3, .int x3)]) hx hb dX6_traceLink_121 hl (k := 4) rfl (by rw [e_]; rfl) (by decide) rfl (fun ls hl => ?_)
    clear e_
    refine lv_goto (tgt := 38) hx hb dX6_traceLink_124 (by decide) ?_
    exact hk38 x2 x3 v_9 ri _ _ _ (lv_sub hl [1, 2, 3, 4, 0] rfl) hI hf
  have L_61 : ∀ (x2 : Int32) (x3 : Int32) (x4 : Int32) (t1i : Int32) (t2i : Int32) (ri : RiS) (k38 : (Int32) → (Int32) → (Int32) → (RiS) → (ToS) → Option ((RiS))) (H : Heap) (locs : List Loc) (ls : Array Slot), lv_has ls 7 [(0, .ref (a_ri 0)), (1, .ref (a_to 0)), (2, .int x2), (3, .int x3), (4, .int x4)] → In g A s.heap s (wRi g a_ri ri ++ (wTo g a_to to ++ [])) H locs → f_X6_traceLink_L61 x2 x3 x4 t1i t2i ri to k38 = some (o_ri) → (∀ (x2 : Int32) (x3 : Int32) (x4 : Int32) (ri : RiS) (H : Heap) (locs : List Loc) (ls : Array Slot), lv_has ls 7 [(0, .ref (a_ri 0)), (1, .ref (a_to 0)), (2, .int x2), (3, .int x3), (4, .int x4)] → In g A s.heap s (wRi g a_ri ri ++ (wTo g a_to to ++ [])) H locs → k38 x2 x3 x4 ri to = some (o_ri) → W p l e rm_X6_traceLink s m args below meth c H locs 0 0 Q (F0 m 38 ls [])) → W p l e rm_X6_traceLink s m args below meth c H locs 0 0 Q (F0 m 61 ls [.int t2i, .int t1i, .ref (a_to 0)]) := by
    intro x2 x3 x4 t1i t2i ri k38 H locs ls hl hI hf hk38
    unfold f_X6_traceLink_L61 at hf
    obtain ⟨r_4, hc_, hf⟩ := bd1_some hf
    refine call_Vi X hI (Cj.skip (Cj.keep Cj.id)) (c_X9_passOn l g a_to to t1i t2i r_4 hc_) ⟨rfl, rfl⟩ ⟨ht _ w_923, w_878, ht _ w_146, lk_X9_passOn⟩ w_876 w_877 rfl rfl rfl hl rfl rfl dX6_traceLink_61 rfl rfl rfl rfl (fun H locs hI => ?_)
    refine lv_i2l hx hb dX6_traceLink_64 rfl ?_
    refine lv_topl (fun v_5 e_ => ?_)
    replace hf := lt_to e_ hf
    clear e_
    refine lv_lstore (lv' := [(5, .long v_5), (0, .ref (a_ri 0)), (1, .ref (a_to 0)), (2, .int x2), (3, .int x3), (4, .int x4)]) hx hb dX6_traceLink_65 hl (by decide) rfl (fun ls hl => ?_)
    refine lv_lload hx hb dX6_traceLink_67 (lv_at hl 0 rfl) ?_
    refine lv_lconst (v := 0) hx hb dX6_traceLink_69 (by decide) ?_
    refine W.lcmp hx hb dX6_traceLink_70 ?_
    refine lv_if_eq (tgt := 121) hx hb dX6_traceLink_71 (by decide) (fun h_ => ?_) (fun h_ => ?_)
    · replace hf := if_t h_ hf
      exact L_121 x2 x3 x4 ri _ _ _ _ (lv_sub hl [1, 2, 3, 4, 5] rfl) hI hf hk38
    · replace hf := if_f h_ hf
      refine lv_aload_n hx hb dX6_traceLink_74 rfl (lv_at hl 1 rfl) ?_
      refine g_Ri_standings X hI has_Ri.l (X.fl w_393) dX6_traceLink_75 ?_
      refine lv_bipush (v := 14) hx hb dX6_traceLink_78 (by decide) ?_
      refine lv_icmp_ge (tgt := 121) hx hb dX6_traceLink_80 (by decide) (fun h_ => ?_) (fun h_ => ?_)
      · replace hf := if_t h_ hf
        exact L_121 x2 x3 x4 ri _ _ _ _ (lv_sub hl [1, 2, 3, 4, 5] rfl) hI hf hk38
      · replace hf := if_f h_ hf
        refine lv_aload_n hx hb dX6_traceLink_83 rfl (lv_at hl 1 rfl) ?_
        refine lv_dup hx hb dX6_traceLink_84 rfl ?_
        refine g_Ri_key X hI has_Ri.l (X.fl w_403) dX6_traceLink_85 ?_
        refine lv_lload hx hb dX6_traceLink_88 (lv_at hl 0 rfl) ?_
        refine lv_iconst (v := 4) hx hb dX6_traceLink_90 (by decide) ?_
        refine lv_aload_n hx hb dX6_traceLink_91 rfl (lv_at hl 1 rfl) ?_
        refine g_Ri_standings X hI has_Ri.l (X.fl w_393) dX6_traceLink_92 ?_
        refine lv_imul hx hb dX6_traceLink_95 ?_
        refine lv_lshl hx hb dX6_traceLink_96 rfl ?_
        refine lv_lor hx hb dX6_traceLink_97 ?_
        refine p_Ri_key X hI up_Ri_key.l (X.fl w_403) dX6_traceLink_98 (fun H locs hI => ?_)
        generalize hz_ : (Ri_key' ri ((Ri_key ri) ||| (v_5 <<< (Int32.toInt64 ((4 : Int32) * (Ri_standings ri)) &&& 63)))) = ri_6 at hI hf
        clear hz_
        replace hf := lt_e hf
        refine lv_aload_n hx hb dX6_traceLink_101 rfl (lv_at hl 1 rfl) ?_
        refine g_Ri_standingLink X hI has_Ri.l (X.fl w_426) dX6_traceLink_102 ?_
        refine lv_aload_n hx hb dX6_traceLink_105 rfl (lv_at hl 1 rfl) ?_
        refine g_Ri_standings X hI has_Ri.l (X.fl w_393) dX6_traceLink_106 ?_
        refine lv_iload_n hx hb dX6_traceLink_109 rfl (lv_at hl 3 rfl) ?_
        obtain ⟨h_, hf⟩ := ck_someM hf
        refine st_I X hI up_Ri_standingLink.l h_ dX6_traceLink_110 (fun H locs hI => ?_)
        generalize hz_ : (Ri_standingLink' ri_6 (upd (Ri_standingLink ri_6) (Int32.toNatClampNeg (Ri_standings ri_6)) x2)) = ri_7 at hI hf
        clear hz_
        replace hf := lt_e hf
        refine lv_aload_n hx hb dX6_traceLink_111 rfl (lv_at hl 1 rfl) ?_
        refine lv_dup hx hb dX6_traceLink_112 rfl ?_
        refine g_Ri_standings X hI has_Ri.l (X.fl w_393) dX6_traceLink_113 ?_
        refine lv_iconst (v := 1) hx hb dX6_traceLink_116 (by decide) ?_
        refine lv_iadd hx hb dX6_traceLink_117 ?_
        refine p_Ri_standings X hI up_Ri_standings.l (X.fl w_393) dX6_traceLink_118 (fun H locs hI => ?_)
        generalize hz_ : (Ri_standings' ri_7 ((Ri_standings ri_7) + (1 : Int32))) = ri_8 at hI hf
        clear hz_
        replace hf := lt_e hf
        exact L_121 x2 x3 x4 ri_8 _ _ _ _ (lv_sub hl [1, 2, 3, 4, 5] rfl) hI hf hk38
  have L_38 : ∀ (n_ : Nat) (x2 : Int32) (x3 : Int32) (x4 : Int32) (ri : RiS) (H : Heap) (locs : List Loc) (ls : Array Slot), lv_has ls 7 [(0, .ref (a_ri 0)), (1, .ref (a_to 0)), (2, .int x2), (3, .int x3), (4, .int x4)] → In g A s.heap s (wRi g a_ri ri ++ (wTo g a_to to ++ [])) H locs → f_X6_traceLink_L38 n_ x2 x3 x4 ri to = some (o_ri) → W p l e rm_X6_traceLink s m args below meth c H locs 0 0 Q (F0 m 38 ls []) := by
    intro n_
    induction n_ with
    | zero =>
      intro x2 x3 x4 ri H locs ls hl hI hf
      rw [f_X6_traceLink_L38] at hf
      cases hf
    | succ n_ ih =>
      intro x2 x3 x4 ri H locs ls hl hI hf
      rw [f_X6_traceLink_L38] at hf
      refine lv_iload hx hb dX6_traceLink_38 (lv_at hl 4 rfl) ?_
      refine lv_bipush (v := 9) hx hb dX6_traceLink_40 (by decide) ?_
      refine lv_icmp_gt (tgt := 127) hx hb dX6_traceLink_42 (by decide) (fun h_ => ?_) (fun h_ => ?_)
      · replace hf := if_t h_ hf
        cases hf
        exact end_v hQ hA X hI dX6_traceLink_127
      · replace hf := if_f h_ hf
        refine lv_aload_n hx hb dX6_traceLink_45 rfl (lv_at hl 1 rfl) ?_
        refine lv_iload_n hx hb dX6_traceLink_46 rfl (lv_at hl 2 rfl) ?_
        refine lv_iload_n hx hb dX6_traceLink_47 rfl (lv_at hl 3 rfl) ?_
        refine lv_if_eq (tgt := 56) hx hb dX6_traceLink_48 (by decide) (fun h_ => ?_) (fun h_ => ?_)
        · replace hf := if_t h_ hf
          refine lv_bipush (v := 10) hx hb dX6_traceLink_56 (by decide) ?_
          refine lv_iload hx hb dX6_traceLink_58 (lv_at hl 4 rfl) ?_
          refine lv_isub hx hb dX6_traceLink_60 ?_
          exact L_61 x2 x3 x4 x2 ((10 : Int32) - x4) ri _ _ _ _ hl hI hf (fun z_0 z_1 z_2 z_3 _ _ _ hl hI hf => ih z_0 z_1 z_2 z_3 _ _ _ hl hI hf)
        · replace hf := if_f h_ hf
          refine lv_iload hx hb dX6_traceLink_51 (lv_at hl 4 rfl) ?_
          refine lv_goto (tgt := 61) hx hb dX6_traceLink_53 (by decide) ?_
          exact L_61 x2 x3 x4 x2 x4 ri _ _ _ _ hl hI hf (fun z_0 z_1 z_2 z_3 _ _ _ hl hI hf => ih z_0 z_1 z_2 z_3 _ _ _ hl hI hf)
  have L_14 : ∀ (x2 : Int32) (x3 : Int32) (t1i : Int32) (t2i : Int32) (ri : RiS) (H : Heap) (locs : List Loc) (ls : Array Slot), lv_has ls 7 [(0, .ref (a_ri 0)), (1, .ref (a_to 0)), (2, .int x2), (3, .int x3)] → In g A s.heap s (wRi g a_ri ri ++ (wTo g a_to to ++ [])) H locs → f_X6_traceLink_L14 x2 x3 t1i t2i ri to = some (o_ri) → W p l e rm_X6_traceLink s m args below meth c H locs 0 0 Q (F0 m 14 ls [.int t2i, .int t1i, .ref (a_ri 6)]) := by
    intro x2 x3 t1i t2i ri H locs ls hl hI hf
    unfold f_X6_traceLink_L14 at hf
    obtain ⟨h_, hf⟩ := ck_someM hf
    refine st_I X hI up_Ri_along.l h_ dX6_traceLink_14 (fun H locs hI => ?_)
    generalize hz_ : (Ri_along' ri (upd (Ri_along ri) (Int32.toNatClampNeg t1i) t2i)) = ri_1 at hI hf
    clear hz_
    replace hf := lt_e hf
    refine lv_aload_n hx hb dX6_traceLink_15 rfl (lv_at hl 0 rfl) ?_
    refine g_Ri_linkRing X hI has_Ri.l (X.fl w_419) dX6_traceLink_16 ?_
    refine lv_iload_n hx hb dX6_traceLink_19 rfl (lv_at hl 2 rfl) ?_
    refine lv_aload_n hx hb dX6_traceLink_20 rfl (lv_at hl 0 rfl) ?_
    refine g_Ri_count X hI has_Ri.l (X.fl w_396) dX6_traceLink_21 ?_
    obtain ⟨h_, hf⟩ := ck_someM hf
    refine st_I X hI up_Ri_linkRing.l h_ dX6_traceLink_24 (fun H locs hI => ?_)
    generalize hz_ : (Ri_linkRing' ri_1 (upd (Ri_linkRing ri_1) (Int32.toNatClampNeg x2) (Ri_count ri_1))) = ri_2 at hI hf
    clear hz_
    replace hf := lt_e hf
    refine lv_aload_n hx hb dX6_traceLink_25 rfl (lv_at hl 0 rfl) ?_
    refine g_Ri_linkStart X hI has_Ri.l (X.fl w_422) dX6_traceLink_26 ?_
    refine lv_iload_n hx hb dX6_traceLink_29 rfl (lv_at hl 2 rfl) ?_
    refine lv_aload_n hx hb dX6_traceLink_30 rfl (lv_at hl 0 rfl) ?_
    refine g_Ri_standings X hI has_Ri.l (X.fl w_393) dX6_traceLink_31 ?_
    obtain ⟨h_, hf⟩ := ck_someM hf
    refine st_I X hI up_Ri_linkStart.l h_ dX6_traceLink_34 (fun H locs hI => ?_)
    generalize hz_ : (Ri_linkStart' ri_2 (upd (Ri_linkStart ri_2) (Int32.toNatClampNeg x2) (Ri_standings ri_2))) = ri_3 at hI hf
    clear hz_
    replace hf := lt_e hf
    refine lv_iconst (v := 1) hx hb dX6_traceLink_35 (by decide) ?_
    refine lv_istore (lv' := [(4, .int (1 : Int32)), (0, .ref (a_ri 0)), (1, .ref (a_to 0)), (2, .int x2), (3, .int x3)]) hx hb dX6_traceLink_36 hl (by decide) rfl (fun ls hl => ?_)
    exact L_38 FU x2 x3 (1 : Int32) ri_3 _ _ _ (lv_sub hl [1, 2, 3, 4, 0] rfl) hI hf
  unfold f_X6_traceLink at hf
  refine lv_aload_n hx hb dX6_traceLink_0 rfl (lv_at hl 0 rfl) ?_
  refine g_Ri_along X hI has_Ri.l (X.fl w_417) dX6_traceLink_1 ?_
  refine lv_iload_n hx hb dX6_traceLink_4 rfl (lv_at hl 2 rfl) ?_
  refine lv_iload_n hx hb dX6_traceLink_5 rfl (lv_at hl 3 rfl) ?_
  refine lv_if_eq (tgt := 13) hx hb dX6_traceLink_6 (by decide) (fun h_ => ?_) (fun h_ => ?_)
  · replace hf := if_t h_ hf
    refine lv_iconst (v := 0) hx hb dX6_traceLink_13 (by decide) ?_
    exact L_14 p2 p3 p2 (0 : Int32) ri _ _ _ hl hI hf
  · replace hf := if_f h_ hf
    refine lv_iconst (v := 1) hx hb dX6_traceLink_9 (by decide) ?_
    refine lv_goto (tgt := 14) hx hb dX6_traceLink_10 (by decide) ?_
    exact L_14 p2 p3 p2 (1 : Int32) ri _ _ _ hl hI hf
abbrev rm_X6_traceRing : Room := { frames := 3, cells := 0, slots := 0, locals := 69 }
set_option maxRecDepth 20000 in
theorem c_X6_traceRing (l : Launch) (g : GT) (a_ri : Nat → Nat) (a_to : Nat → Nat) (ri : RiS) (to : ToS) (p2 : Int32) (p3 : Int32) (r_ : Int32) (o_ri : RiS) (hf : f_X6_traceRing ri to p2 p3 = some (r_, o_ri)) : CI l yX6_traceRing cX6_traceRing 8 (some .int) rm_X6_traceRing g [.ref (a_ri 0), .ref (a_to 0), .int p2, .int p3] (wRi g a_ri ri ++ (wTo g a_to to ++ [])) (wRi g a_ri o_ri ++ (wTo g a_to to ++ [])) r_ := by
  refine start2 (y := yX6_traceRing) (cc := cX6_traceRing) (n := 8) (av := [.ref (a_ri 0), .ref (a_to 0), .int p2, .int p3]) (ws := (wRi g a_ri ri ++ (wTo g a_to to ++ []))) (Qc := fun sz => QI g (wRi g a_ri ri ++ (wTo g a_to to ++ [])) (wRi g a_ri o_ri ++ (wTo g a_to to ++ [])) r_ sz) (by decide) rfl ?_
  intro p e s m args below meth c ls Q A ha hQ hA X hl hI hin
  have X : Cx p s m args meth c cX6_traceRing 8 RX6 (some .int) := X
  have hl : lv_has ls 8 [(0, .ref (a_ri 0)), (1, .ref (a_to 0)), (2, .int p2), (3, .int p3)] := hl
  obtain ⟨hx, hb, hml, hown, ht, hr, hlk⟩ := id X
  clear ha hin
  have L_145 : ∀ (x4 : Int32) (ri : RiS) (H : Heap) (locs : List Loc) (ls : Array Slot), lv_has ls 8 [(0, .ref (a_ri 0)), (4, .int x4)] → In g A s.heap s (wRi g a_ri ri ++ (wTo g a_to to ++ [])) H locs → f_X6_traceRing_L145 x4 ri = some (r_, o_ri) → W p l e rm_X6_traceRing s m args below meth c H locs 0 0 Q (F0 m 145 ls []) := by
    intro x4 ri H locs ls hl hI hf
    unfold f_X6_traceRing_L145 at hf
    refine lv_aload_n hx hb dX6_traceRing_145 rfl (lv_at hl 0 rfl) ?_
    refine lv_dup hx hb dX6_traceRing_146 rfl ?_
    refine g_Ri_count X hI has_Ri.l (X.fl w_396) dX6_traceRing_147 ?_
    refine lv_iconst (v := 1) hx hb dX6_traceRing_150 (by decide) ?_
    refine lv_iadd hx hb dX6_traceRing_151 ?_
    refine p_Ri_count X hI up_Ri_count.l (X.fl w_396) dX6_traceRing_152 (fun H locs hI => ?_)
    generalize hz_ : (Ri_count' ri ((Ri_count ri) + (1 : Int32))) = ri_7 at hI hf
    clear hz_
    replace hf := lt_e hf
    refine lv_aload_n hx hb dX6_traceRing_155 rfl (lv_at hl 0 rfl) ?_
    refine g_Ri_firstMember X hI has_Ri.l (X.fl w_409) dX6_traceRing_156 ?_
    refine lv_aload_n hx hb dX6_traceRing_159 rfl (lv_at hl 0 rfl) ?_
    refine g_Ri_count X hI has_Ri.l (X.fl w_396) dX6_traceRing_160 ?_
    refine lv_iload hx hb dX6_traceRing_163 (lv_at hl 1 rfl) ?_
    obtain ⟨h_, hf⟩ := ck_someM hf
    refine st_I X hI up_Ri_firstMember.l h_ dX6_traceRing_165 (fun H locs hI => ?_)
    generalize hz_ : (Ri_firstMember' ri_7 (upd (Ri_firstMember ri_7) (Int32.toNatClampNeg (Ri_count ri_7)) x4)) = ri_8 at hI hf
    clear hz_
    replace hf := lt_e hf
    refine lv_aload_n hx hb dX6_traceRing_166 rfl (lv_at hl 0 rfl) ?_
    refine g_Ri_firstStanding X hI has_Ri.l (X.fl w_411) dX6_traceRing_167 ?_
    refine lv_aload_n hx hb dX6_traceRing_170 rfl (lv_at hl 0 rfl) ?_
    refine g_Ri_count X hI has_Ri.l (X.fl w_396) dX6_traceRing_171 ?_
    refine lv_aload_n hx hb dX6_traceRing_174 rfl (lv_at hl 0 rfl) ?_
    refine g_Ri_standings X hI has_Ri.l (X.fl w_393) dX6_traceRing_175 ?_
    obtain ⟨h_, hf⟩ := ck_someM hf
    refine st_I X hI up_Ri_firstStanding.l h_ dX6_traceRing_178 (fun H locs hI => ?_)
    generalize hz_ : (Ri_firstStanding' ri_8 (upd (Ri_firstStanding ri_8) (Int32.toNatClampNeg (Ri_count ri_8)) (Ri_standings ri_8))) = ri_9 at hI hf
    clear hz_
    replace hf := lt_e hf
    refine lv_iload hx hb dX6_traceRing_179 (lv_at hl 1 rfl) ?_
    cases hf
    exact end_i hQ hA X hI dX6_traceRing_181
  have L_109 : ∀ (x2 : Int32) (x4 : Int32) (x5 : Int32) (x6 : Int32) (t2i : Int32) (t3i : Int32) (ri : RiS) (k35 : (Int32) → (Int32) → (Int32) → (Int32) → (RiS) → (ToS) → Option (Int32 × (RiS))) (H : Heap) (locs : List Loc) (ls : Array Slot), lv_has ls 8 [(0, .ref (a_ri 0)), (1, .ref (a_to 0)), (2, .int x2), (4, .int x4), (5, .int x5), (6, .int x6)] → In g A s.heap s (wRi g a_ri ri ++ (wTo g a_to to ++ [])) H locs → f_X6_traceRing_L109 x2 x4 x5 x6 t2i t3i ri to k35 = some (r_, o_ri) → (∀ (x2 : Int32) (x4 : Int32) (x5 : Int32) (x6 : Int32) (ri : RiS) (H : Heap) (locs : List Loc) (ls : Array Slot), lv_has ls 8 [(0, .ref (a_ri 0)), (1, .ref (a_to 0)), (2, .int x2), (4, .int x4), (5, .int x5), (6, .int x6)] → In g A s.heap s (wRi g a_ri ri ++ (wTo g a_to to ++ [])) H locs → k35 x2 x4 x5 x6 ri to = some (r_, o_ri) → W p l e rm_X6_traceRing s m args below meth c H locs 0 0 Q (F0 m 35 ls [])) → W p l e rm_X6_traceRing s m args below meth c H locs 0 0 Q (F0 m 109 ls [.int t3i, .int t2i, .ref (a_to 0), .ref (a_ri 0)]) := by
    intro x2 x4 x5 x6 t2i t3i ri k35 H locs ls hl hI hf hk35
    unfold f_X6_traceRing_L109 at hf
    obtain ⟨ri_10, hc_, hf⟩ := bd1_some hf
    refine call_Vv X hI (Cj.keep (Cj.keep Cj.id)) (c_X6_traceLink l g a_ri a_to ri to t2i t3i ri_10 hc_) ⟨rfl, rfl⟩ ⟨ht _ w_919, w_922, ht _ w_147, lk_X6_traceLink⟩ w_921 w_25 rfl rfl rfl hl rfl rfl dX6_traceRing_109 rfl rfl rfl rfl (fun H locs hI => ?_)
    refine lv_aload_n hx hb dX6_traceRing_112 rfl (lv_at hl 0 rfl) ?_
    refine g_Ri_partner X hI has_Ri.l (X.fl w_413) dX6_traceRing_113 ?_
    refine lv_iload hx hb dX6_traceRing_116 (lv_at hl 4 rfl) ?_
    obtain ⟨h_, hf⟩ := ck_someM hf
    refine ld_I X hI has_Ri_partner.l h_ dX6_traceRing_118 ?_
    refine lv_iconst (v := 2) hx hb dX6_traceRing_119 (by decide) ?_
    refine lv_idiv hx hb dX6_traceRing_120 (by decide) ?_
    refine lv_iload_n hx hb dX6_traceRing_121 rfl (lv_at hl 2 rfl) ?_
    refine lv_icmp_ne (tgt := 128) hx hb dX6_traceRing_122 (by decide) (fun h_ => ?_) (fun h_ => ?_)
    · replace hf := if_f h_ hf
      refine lv_aload_n hx hb dX6_traceRing_128 rfl (lv_at hl 0 rfl) ?_
      refine g_Ri_partner X hI has_Ri.l (X.fl w_413) dX6_traceRing_129 ?_
      refine lv_iload hx hb dX6_traceRing_132 (lv_at hl 4 rfl) ?_
      obtain ⟨h_, hf⟩ := ck_someM hf
      refine ld_I X hI has_Ri_partner.l h_ dX6_traceRing_134 ?_
      refine lv_iconst (v := 1) hx hb dX6_traceRing_135 (by decide) ?_
      refine lv_ixor hx hb dX6_traceRing_136 ?_
      refine lv_topi (fun v_11 e_ => ?_)
      replace hf := lt_to e_ hf
      clear e_
      refine lv_istore (lv' := [(5, .int v_11), (0, .ref (a_ri 0)), (1, .ref (a_to 0)), (2, .int x2), (4, .int x4), (6, .int x6)]) hx hb dX6_traceRing_137 hl (by decide) rfl (fun ls hl => ?_)
      obtain ⟨v_12, e_⟩ : ∃ y : Int32, y = (x6 + (1 : Int32)) := ⟨_, rfl⟩
      replace hf := lt_to e_ hf
      refine lv_iinc (v := v_12) (lv' := [(6, .int v_12), (5, .int v_11), (0, .ref (a_ri 0)), (1, .ref (a_to 0)), (2, .int x2), (4, .int x4)]) hx hb dX6_traceRing_139 hl (k := 5) rfl (by rw [e_]; rfl) (by decide) rfl (fun ls hl => ?_)
      clear e_
      refine lv_goto (tgt := 35) hx hb dX6_traceRing_142 (by decide) ?_
      exact hk35 x2 x4 v_11 v_12 ri_10 _ _ _ (lv_sub hl [2, 3, 4, 5, 1, 0] rfl) hI hf
    · replace hf := if_t h_ hf
      refine lv_goto (tgt := 145) hx hb dX6_traceRing_125 (by decide) ?_
      exact L_145 x4 ri_10 _ _ _ (lv_sub hl [0, 3] rfl) hI hf
  have L_35 : ∀ (n_ : Nat) (x2 : Int32) (x4 : Int32) (x5 : Int32) (x6 : Int32) (ri : RiS) (H : Heap) (locs : List Loc) (ls : Array Slot), lv_has ls 8 [(0, .ref (a_ri 0)), (1, .ref (a_to 0)), (2, .int x2), (4, .int x4), (5, .int x5), (6, .int x6)] → In g A s.heap s (wRi g a_ri ri ++ (wTo g a_to to ++ [])) H locs → f_X6_traceRing_L35 n_ x2 x4 x5 x6 ri to = some (r_, o_ri) → W p l e rm_X6_traceRing s m args below meth c H locs 0 0 Q (F0 m 35 ls []) := by
    intro n_
    induction n_ with
    | zero =>
      intro x2 x4 x5 x6 ri H locs ls hl hI hf
      rw [f_X6_traceRing_L35] at hf
      cases hf
    | succ n_ ih =>
      intro x2 x4 x5 x6 ri H locs ls hl hI hf
      rw [f_X6_traceRing_L35] at hf
      refine lv_iload hx hb dX6_traceRing_35 (lv_at hl 5 rfl) ?_
      refine lv_aload_n hx hb dX6_traceRing_37 rfl (lv_at hl 0 rfl) ?_
      refine g_Ri_people X hI has_Ri.l (X.fl w_384) dX6_traceRing_38 ?_
      refine lv_icmp_ge (tgt := 145) hx hb dX6_traceRing_41 (by decide) (fun h_ => ?_) (fun h_ => ?_)
      · replace hf := if_t h_ hf
        exact L_145 x4 ri _ _ _ (lv_sub hl [0, 3] rfl) hI hf
      · replace hf := if_f h_ hf
        refine lv_iload hx hb dX6_traceRing_44 (lv_at hl 3 rfl) ?_
        refine lv_aload_n hx hb dX6_traceRing_46 rfl (lv_at hl 0 rfl) ?_
        refine g_Ri_people X hI has_Ri.l (X.fl w_384) dX6_traceRing_47 ?_
        refine lv_icmp_ge (tgt := 145) hx hb dX6_traceRing_50 (by decide) (fun h_ => ?_) (fun h_ => ?_)
        · replace hf := if_t h_ hf
          exact L_145 x4 ri _ _ _ (lv_sub hl [0, 3] rfl) hI hf
        · replace hf := if_f h_ hf
          refine lv_aload_n hx hb dX6_traceRing_53 rfl (lv_at hl 0 rfl) ?_
          refine g_Ri_linkIn X hI has_Ri.l (X.fl w_415) dX6_traceRing_54 ?_
          refine lv_iload hx hb dX6_traceRing_57 (lv_at hl 4 rfl) ?_
          obtain ⟨h_, hf⟩ := ck_someM hf
          refine ld_I X hI has_Ri_linkIn.l h_ dX6_traceRing_59 ?_
          refine lv_if_lt (tgt := 145) hx hb dX6_traceRing_60 (by decide) (fun h_ => ?_) (fun h_ => ?_)
          · replace hf := if_t h_ hf
            exact L_145 x4 ri _ _ _ (lv_sub hl [0, 3] rfl) hI hf
          · replace hf := if_f h_ hf
            refine lv_aload_n hx hb dX6_traceRing_63 rfl (lv_at hl 0 rfl) ?_
            refine g_Ri_members X hI has_Ri.l (X.fl w_407) dX6_traceRing_64 ?_
            refine lv_iload hx hb dX6_traceRing_67 (lv_at hl 3 rfl) ?_
            refine lv_iload hx hb dX6_traceRing_69 (lv_at hl 4 rfl) ?_
            refine lv_iconst (v := 2) hx hb dX6_traceRing_71 (by decide) ?_
            refine lv_idiv hx hb dX6_traceRing_72 (by decide) ?_
            obtain ⟨h_, hf⟩ := ck_someM hf
            refine st_I X hI up_Ri_members.l h_ dX6_traceRing_73 (fun H locs hI => ?_)
            generalize hz_ : (Ri_members' ri (upd (Ri_members ri) (Int32.toNatClampNeg x4) (x5 / (2 : Int32)))) = ri_4 at hI hf
            clear hz_
            replace hf := lt_e hf
            obtain ⟨v_5, e_⟩ : ∃ y : Int32, y = (x4 + (1 : Int32)) := ⟨_, rfl⟩
            replace hf := lt_to e_ hf
            refine lv_iinc (v := v_5) (lv' := [(4, .int v_5), (0, .ref (a_ri 0)), (1, .ref (a_to 0)), (2, .int x2), (5, .int x5), (6, .int x6)]) hx hb dX6_traceRing_74 hl (k := 3) rfl (by rw [e_]; rfl) (by decide) rfl (fun ls hl => ?_)
            clear e_
            refine lv_aload_n hx hb dX6_traceRing_77 rfl (lv_at hl 1 rfl) ?_
            refine g_Ri_linkIn X hI has_Ri.l (X.fl w_415) dX6_traceRing_78 ?_
            refine lv_iload hx hb dX6_traceRing_81 (lv_at hl 4 rfl) ?_
            obtain ⟨h_, hf⟩ := ck_someM hf
            refine ld_I X hI has_Ri_linkIn.l h_ dX6_traceRing_83 ?_
            refine lv_topi (fun v_6 e_ => ?_)
            replace hf := lt_to e_ hf
            clear e_
            refine lv_istore (lv' := [(7, .int v_6), (4, .int v_5), (0, .ref (a_ri 0)), (1, .ref (a_to 0)), (2, .int x2), (5, .int x5), (6, .int x6)]) hx hb dX6_traceRing_84 hl (by decide) rfl (fun ls hl => ?_)
            refine lv_aload_n hx hb dX6_traceRing_86 rfl (lv_at hl 2 rfl) ?_
            refine lv_aload_n hx hb dX6_traceRing_87 rfl (lv_at hl 3 rfl) ?_
            refine lv_iload hx hb dX6_traceRing_88 (lv_at hl 0 rfl) ?_
            refine lv_aload_n hx hb dX6_traceRing_90 rfl (lv_at hl 3 rfl) ?_
            refine g_To_handAt X hI has_To.l.r (hI.fn (List.mem_of_getElem? (i := 19) rfl)) dX6_traceRing_91 ?_
            refine lv_iconst (v := 2) hx hb dX6_traceRing_94 (by decide) ?_
            refine lv_iload hx hb dX6_traceRing_95 (lv_at hl 0 rfl) ?_
            refine lv_imul hx hb dX6_traceRing_97 ?_
            obtain ⟨h_, hf⟩ := ck_someM hf
            refine ld_I X hI has_To_handAt.l.r h_ dX6_traceRing_98 ?_
            refine lv_iload hx hb dX6_traceRing_99 (lv_at hl 5 rfl) ?_
            refine lv_icmp_ne (tgt := 108) hx hb dX6_traceRing_101 (by decide) (fun h_ => ?_) (fun h_ => ?_)
            · replace hf := if_f h_ hf
              refine lv_iconst (v := 0) hx hb dX6_traceRing_108 (by decide) ?_
              exact L_109 x2 v_5 x5 x6 v_6 (0 : Int32) ri_4 _ _ _ _ (lv_sub hl [2, 3, 4, 1, 5, 6] rfl) hI hf (fun z_0 z_1 z_2 z_3 z_4 _ _ _ hl hI hf => ih z_0 z_1 z_2 z_3 z_4 _ _ _ hl hI hf)
            · replace hf := if_t h_ hf
              refine lv_iconst (v := 1) hx hb dX6_traceRing_104 (by decide) ?_
              refine lv_goto (tgt := 109) hx hb dX6_traceRing_105 (by decide) ?_
              exact L_109 x2 v_5 x5 x6 v_6 (1 : Int32) ri_4 _ _ _ _ (lv_sub hl [2, 3, 4, 1, 5, 6] rfl) hI hf (fun z_0 z_1 z_2 z_3 z_4 _ _ _ hl hI hf => ih z_0 z_1 z_2 z_3 z_4 _ _ _ hl hI hf)
  unfold f_X6_traceRing at hf
  refine lv_iload_n hx hb dX6_traceRing_0 rfl (lv_at hl 3 rfl) ?_
  refine lv_istore (lv' := [(4, .int p3), (0, .ref (a_ri 0)), (1, .ref (a_to 0)), (2, .int p2), (3, .int p3)]) hx hb dX6_traceRing_1 hl (by decide) rfl (fun ls hl => ?_)
  refine lv_iconst (v := 2) hx hb dX6_traceRing_3 (by decide) ?_
  refine lv_iload_n hx hb dX6_traceRing_4 rfl (lv_at hl 3 rfl) ?_
  refine lv_imul hx hb dX6_traceRing_5 ?_
  refine lv_topi (fun v_1 e_ => ?_)
  replace hf := lt_to e_ hf
  clear e_
  refine lv_istore (lv' := [(5, .int v_1), (4, .int p3), (0, .ref (a_ri 0)), (1, .ref (a_to 0)), (2, .int p2), (3, .int p3)]) hx hb dX6_traceRing_6 hl (by decide) rfl (fun ls hl => ?_)
  refine lv_aload_n hx hb dX6_traceRing_8 rfl (lv_at hl 2 rfl) ?_
  refine g_Ri_firstMember X hI has_Ri.l (X.fl w_409) dX6_traceRing_9 ?_
  refine lv_aload_n hx hb dX6_traceRing_12 rfl (lv_at hl 2 rfl) ?_
  refine g_Ri_count X hI has_Ri.l (X.fl w_396) dX6_traceRing_13 ?_
  refine lv_iload hx hb dX6_traceRing_16 (lv_at hl 1 rfl) ?_
  obtain ⟨h_, hf⟩ := ck_someM hf
  refine st_I X hI up_Ri_firstMember.l h_ dX6_traceRing_18 (fun H locs hI => ?_)
  generalize hz_ : (Ri_firstMember' ri (upd (Ri_firstMember ri) (Int32.toNatClampNeg (Ri_count ri)) p3)) = ri_2 at hI hf
  clear hz_
  replace hf := lt_e hf
  refine lv_aload_n hx hb dX6_traceRing_19 rfl (lv_at hl 2 rfl) ?_
  refine g_Ri_firstStanding X hI has_Ri.l (X.fl w_411) dX6_traceRing_20 ?_
  refine lv_aload_n hx hb dX6_traceRing_23 rfl (lv_at hl 2 rfl) ?_
  refine g_Ri_count X hI has_Ri.l (X.fl w_396) dX6_traceRing_24 ?_
  refine lv_aload_n hx hb dX6_traceRing_27 rfl (lv_at hl 2 rfl) ?_
  refine g_Ri_standings X hI has_Ri.l (X.fl w_393) dX6_traceRing_28 ?_
  obtain ⟨h_, hf⟩ := ck_someM hf
  refine st_I X hI up_Ri_firstStanding.l h_ dX6_traceRing_31 (fun H locs hI => ?_)
  generalize hz_ : (Ri_firstStanding' ri_2 (upd (Ri_firstStanding ri_2) (Int32.toNatClampNeg (Ri_count ri_2)) (Ri_standings ri_2))) = ri_3 at hI hf
  clear hz_
  replace hf := lt_e hf
  refine lv_iconst (v := 0) hx hb dX6_traceRing_32 (by decide) ?_
  refine lv_istore (lv' := [(6, .int (0 : Int32)), (5, .int v_1), (4, .int p3), (0, .ref (a_ri 0)), (1, .ref (a_to 0)), (2, .int p2), (3, .int p3)]) hx hb dX6_traceRing_33 hl (by decide) rfl (fun ls hl => ?_)
  exact L_35 FU p2 p3 v_1 (0 : Int32) ri_3 _ _ _ (lv_sub hl [3, 4, 5, 2, 1, 0] rfl) hI hf
abbrev rm_X6_trace : Room := { frames := 4, cells := 0, slots := 0, locals := 96 }
set_option maxRecDepth 20000 in
theorem c_X6_trace (l : Launch) (g : GT) (a_ri : Nat → Nat) (a_to : Nat → Nat) (ri : RiS) (to : ToS) (o_ri : RiS) (hf : f_X6_trace ri to = some (o_ri)) : CV l yX6_trace cX6_trace 4 none rm_X6_trace g [.ref (a_ri 0), .ref (a_to 0)] (wRi g a_ri ri ++ (wTo g a_to to ++ [])) (wRi g a_ri o_ri ++ (wTo g a_to to ++ [])) := by
  refine start2 (y := yX6_trace) (cc := cX6_trace) (n := 4) (av := [.ref (a_ri 0), .ref (a_to 0)]) (ws := (wRi g a_ri ri ++ (wTo g a_to to ++ []))) (Qc := fun sz => QV g (wRi g a_ri ri ++ (wTo g a_to to ++ [])) (wRi g a_ri o_ri ++ (wTo g a_to to ++ [])) sz) (by decide) rfl ?_
  intro p e s m args below meth c ls Q A ha hQ hA X hl hI hin
  have X : Cx p s m args meth c cX6_trace 4 RX6 none := X
  have hl : lv_has ls 4 [(0, .ref (a_ri 0)), (1, .ref (a_to 0))] := hl
  obtain ⟨hx, hb, hml, hown, ht, hr, hlk⟩ := id X
  clear ha hin
  have L_132 : ∀ (x2 : Int32) (x3 : Int32) (ri : RiS) (k107 : (Int32) → (Int32) → (RiS) → (ToS) → Option ((RiS))) (H : Heap) (locs : List Loc) (ls : Array Slot), lv_has ls 4 [(0, .ref (a_ri 0)), (1, .ref (a_to 0)), (2, .int x2), (3, .int x3)] → In g A s.heap s (wRi g a_ri ri ++ (wTo g a_to to ++ [])) H locs → f_X6_trace_L132 x2 x3 ri to k107 = some (o_ri) → (∀ (x2 : Int32) (x3 : Int32) (ri : RiS) (H : Heap) (locs : List Loc) (ls : Array Slot), lv_has ls 4 [(0, .ref (a_ri 0)), (1, .ref (a_to 0)), (2, .int x2), (3, .int x3)] → In g A s.heap s (wRi g a_ri ri ++ (wTo g a_to to ++ [])) H locs → k107 x2 x3 ri to = some (o_ri) → W p l e rm_X6_trace s m args below meth c H locs 0 0 Q (F0 m 107 ls [])) → W p l e rm_X6_trace s m args below meth c H locs 0 0 Q (F0 m 132 ls []) := by
    intro x2 x3 ri k107 H locs ls hl hI hf hk107
    unfold f_X6_trace_L132 at hf
    obtain ⟨v_18, e_⟩ : ∃ y : Int32, y = (x3 + (1 : Int32)) := ⟨_, rfl⟩
    replace hf := lt_to e_ hf
    refine lv_iinc (v := v_18) (lv' := [(3, .int v_18), (0, .ref (a_ri 0)), (1, .ref (a_to 0)), (2, .int x2)]) hx hb dX6_trace_132 hl (k := 3) rfl (by rw [e_]; rfl) (by decide) rfl (fun ls hl => ?_)
    clear e_
    refine lv_goto (tgt := 107) hx hb dX6_trace_135 (by decide) ?_
    exact hk107 x2 v_18 ri _ _ _ (lv_sub hl [1, 2, 3, 0] rfl) hI hf
  have L_107 : ∀ (n_ : Nat) (x2 : Int32) (x3 : Int32) (ri : RiS) (H : Heap) (locs : List Loc) (ls : Array Slot), lv_has ls 4 [(0, .ref (a_ri 0)), (1, .ref (a_to 0)), (2, .int x2), (3, .int x3)] → In g A s.heap s (wRi g a_ri ri ++ (wTo g a_to to ++ [])) H locs → f_X6_trace_L107 n_ x2 x3 ri to = some (o_ri) → W p l e rm_X6_trace s m args below meth c H locs 0 0 Q (F0 m 107 ls []) := by
    intro n_
    induction n_ with
    | zero =>
      intro x2 x3 ri H locs ls hl hI hf
      rw [f_X6_trace_L107] at hf
      cases hf
    | succ n_ ih =>
      intro x2 x3 ri H locs ls hl hI hf
      rw [f_X6_trace_L107] at hf
      refine lv_iload_n hx hb dX6_trace_107 rfl (lv_at hl 3 rfl) ?_
      refine lv_aload_n hx hb dX6_trace_108 rfl (lv_at hl 0 rfl) ?_
      refine g_Ri_people X hI has_Ri.l (X.fl w_384) dX6_trace_109 ?_
      refine lv_icmp_ge (tgt := 138) hx hb dX6_trace_112 (by decide) (fun h_ => ?_) (fun h_ => ?_)
      · replace hf := if_t h_ hf
        refine lv_aload_n hx hb dX6_trace_138 rfl (lv_at hl 0 rfl) ?_
        refine lv_aload_n hx hb dX6_trace_139 rfl (lv_at hl 1 rfl) ?_
        obtain ⟨ri_14, hc_, hf⟩ := bd1_some hf
        refine call_Vv X hI (Cj.keep (Cj.keep Cj.id)) (c_X6_traceSigns l g a_ri a_to ri to ri_14 hc_) ⟨rfl, rfl⟩ ⟨ht _ w_924, w_927, ht _ w_147, lk_X6_traceSigns⟩ w_926 w_26 rfl rfl rfl hl rfl rfl dX6_trace_140 rfl rfl rfl rfl (fun H locs hI => ?_)
        cases hf
        exact end_v hQ hA X hI dX6_trace_143
      · replace hf := if_f h_ hf
        refine lv_aload_n hx hb dX6_trace_115 rfl (lv_at hl 0 rfl) ?_
        refine lv_iload_n hx hb dX6_trace_116 rfl (lv_at hl 3 rfl) ?_
        obtain ⟨r_15, hc_, hf⟩ := bd1_some hf
        refine call_Vi X hI (Cj.keep Cj.nil) (c_X6_ringWith l g a_ri ri x3 r_15 hc_) ⟨rfl, rfl⟩ ⟨ht _ w_911, w_914, ht _ w_147, lk_X6_ringWith⟩ w_912 w_913 rfl rfl rfl hl rfl rfl dX6_trace_117 rfl rfl rfl rfl (fun H locs hI => ?_)
        refine lv_iconst (v := (-1)) hx hb dX6_trace_120 (by decide) ?_
        refine lv_icmp_ne (tgt := 132) hx hb dX6_trace_121 (by decide) (fun h_ => ?_) (fun h_ => ?_)
        · replace hf := if_f h_ hf
          exact L_132 x2 x3 ri _ _ _ _ hl hI hf (fun z_0 z_1 z_2 _ _ _ hl hI hf => ih z_0 z_1 z_2 _ _ _ hl hI hf)
        · replace hf := if_t h_ hf
          refine lv_aload_n hx hb dX6_trace_124 rfl (lv_at hl 0 rfl) ?_
          refine lv_aload_n hx hb dX6_trace_125 rfl (lv_at hl 1 rfl) ?_
          refine lv_iload_n hx hb dX6_trace_126 rfl (lv_at hl 3 rfl) ?_
          refine lv_iload_n hx hb dX6_trace_127 rfl (lv_at hl 2 rfl) ?_
          obtain ⟨r_16, ri_17, hc_, hf⟩ := bd2_some hf
          refine call_Vi X hI (Cj.keep (Cj.keep Cj.id)) (c_X6_traceRing l g a_ri a_to ri to x3 x2 r_16 ri_17 hc_) ⟨rfl, rfl⟩ ⟨ht _ w_915, w_918, ht _ w_147, lk_X6_traceRing⟩ w_917 w_24 rfl rfl rfl hl rfl rfl dX6_trace_128 rfl rfl rfl rfl (fun H locs hI => ?_)
          refine lv_istore_n (lv' := [(2, .int r_16), (0, .ref (a_ri 0)), (1, .ref (a_to 0)), (3, .int x3)]) hx hb dX6_trace_131 rfl hl (by decide) rfl (fun ls hl => ?_)
          exact L_132 r_16 x3 ri_17 _ _ _ _ (lv_sub hl [1, 2, 0, 3] rfl) hI hf (fun z_0 z_1 z_2 _ _ _ hl hI hf => ih z_0 z_1 z_2 _ _ _ hl hI hf)
  have L_83 : ∀ (n_ : Nat) (x2 : Int32) (ri : RiS) (H : Heap) (locs : List Loc) (ls : Array Slot), lv_has ls 4 [(0, .ref (a_ri 0)), (1, .ref (a_to 0)), (2, .int x2)] → In g A s.heap s (wRi g a_ri ri ++ (wTo g a_to to ++ [])) H locs → f_X6_trace_L83 n_ x2 ri to = some (o_ri) → W p l e rm_X6_trace s m args below meth c H locs 0 0 Q (F0 m 83 ls []) := by
    intro n_
    induction n_ with
    | zero =>
      intro x2 ri H locs ls hl hI hf
      rw [f_X6_trace_L83] at hf
      cases hf
    | succ n_ ih =>
      intro x2 ri H locs ls hl hI hf
      rw [f_X6_trace_L83] at hf
      refine lv_iload_n hx hb dX6_trace_83 rfl (lv_at hl 2 rfl) ?_
      refine lv_aload_n hx hb dX6_trace_84 rfl (lv_at hl 0 rfl) ?_
      refine g_Ri_links X hI has_Ri.l (X.fl w_387) dX6_trace_85 ?_
      refine lv_icmp_ge (tgt := 103) hx hb dX6_trace_88 (by decide) (fun h_ => ?_) (fun h_ => ?_)
      · replace hf := if_t h_ hf
        refine lv_iconst (v := 0) hx hb dX6_trace_103 (by decide) ?_
        refine lv_istore_n (lv' := [(2, .int (0 : Int32)), (0, .ref (a_ri 0)), (1, .ref (a_to 0))]) hx hb dX6_trace_104 rfl hl (by decide) rfl (fun ls hl => ?_)
        refine lv_iconst (v := 0) hx hb dX6_trace_105 (by decide) ?_
        refine lv_istore_n (lv' := [(3, .int (0 : Int32)), (2, .int (0 : Int32)), (0, .ref (a_ri 0)), (1, .ref (a_to 0))]) hx hb dX6_trace_106 rfl hl (by decide) rfl (fun ls hl => ?_)
        exact L_107 FU (0 : Int32) (0 : Int32) ri _ _ _ (lv_sub hl [2, 3, 1, 0] rfl) hI hf
      · replace hf := if_f h_ hf
        refine lv_aload_n hx hb dX6_trace_91 rfl (lv_at hl 0 rfl) ?_
        refine lv_aload_n hx hb dX6_trace_92 rfl (lv_at hl 1 rfl) ?_
        refine lv_iload_n hx hb dX6_trace_93 rfl (lv_at hl 2 rfl) ?_
        obtain ⟨ri_12, hc_, hf⟩ := bd1_some hf
        refine call_Vv X hI (Cj.keep (Cj.keep Cj.id)) (c_X6_traceHands l g a_ri a_to ri to x2 ri_12 hc_) ⟨rfl, rfl⟩ ⟨ht _ w_903, w_906, ht _ w_147, lk_X6_traceHands⟩ w_905 w_23 rfl rfl rfl hl rfl rfl dX6_trace_94 rfl rfl rfl rfl (fun H locs hI => ?_)
        obtain ⟨v_13, e_⟩ : ∃ y : Int32, y = (x2 + (1 : Int32)) := ⟨_, rfl⟩
        replace hf := lt_to e_ hf
        refine lv_iinc (v := v_13) (lv' := [(2, .int v_13), (0, .ref (a_ri 0)), (1, .ref (a_to 0))]) hx hb dX6_trace_97 hl (k := 2) rfl (by rw [e_]; rfl) (by decide) rfl (fun ls hl => ?_)
        clear e_
        refine lv_goto (tgt := 83) hx hb dX6_trace_100 (by decide) ?_
        exact ih v_13 ri_12 _ _ _ (lv_sub hl [1, 2, 0] rfl) hI hf
  unfold f_X6_trace at hf
  refine lv_aload_n hx hb dX6_trace_0 rfl (lv_at hl 0 rfl) ?_
  refine lv_aload_n hx hb dX6_trace_1 rfl (lv_at hl 1 rfl) ?_
  refine g_To_people X hI has_To.l.r (hI.fn (List.mem_of_getElem? (i := 11) rfl)) dX6_trace_2 ?_
  refine p_Ri_people X hI up_Ri_people.l (X.fl w_384) dX6_trace_5 (fun H locs hI => ?_)
  generalize hz_ : (Ri_people' ri (To_people to)) = ri_1 at hI hf
  clear hz_
  replace hf := lt_e hf
  refine lv_aload_n hx hb dX6_trace_8 rfl (lv_at hl 0 rfl) ?_
  refine lv_aload_n hx hb dX6_trace_9 rfl (lv_at hl 1 rfl) ?_
  refine g_To_links X hI has_To.l.r (hI.fn (List.mem_of_getElem? (i := 13) rfl)) dX6_trace_10 ?_
  refine p_Ri_links X hI up_Ri_links.l (X.fl w_387) dX6_trace_13 (fun H locs hI => ?_)
  generalize hz_ : (Ri_links' ri_1 (To_links to)) = ri_2 at hI hf
  clear hz_
  replace hf := lt_e hf
  refine lv_aload_n hx hb dX6_trace_16 rfl (lv_at hl 0 rfl) ?_
  refine lv_aload_n hx hb dX6_trace_17 rfl (lv_at hl 1 rfl) ?_
  refine g_To_crossings X hI has_To.l.r (hI.fn (List.mem_of_getElem? (i := 15) rfl)) dX6_trace_18 ?_
  refine p_Ri_crossings X hI up_Ri_crossings.l (X.fl w_390) dX6_trace_21 (fun H locs hI => ?_)
  generalize hz_ : (Ri_crossings' ri_2 (To_crossings to)) = ri_3 at hI hf
  clear hz_
  replace hf := lt_e hf
  refine lv_aload_n hx hb dX6_trace_24 rfl (lv_at hl 0 rfl) ?_
  refine lv_aload_n hx hb dX6_trace_25 rfl (lv_at hl 1 rfl) ?_
  refine g_To_tall X hI has_To.l.r (hI.fn (List.mem_of_getElem? (i := 9) rfl)) dX6_trace_26 ?_
  refine p_Ri_tall X hI up_Ri_tall.l (X.fl w_399) dX6_trace_29 (fun H locs hI => ?_)
  generalize hz_ : (Ri_tall' ri_3 (To_tall to)) = ri_4 at hI hf
  clear hz_
  replace hf := lt_e hf
  refine lv_aload_n hx hb dX6_trace_32 rfl (lv_at hl 0 rfl) ?_
  refine lv_aload_n hx hb dX6_trace_33 rfl (lv_at hl 1 rfl) ?_
  refine g_To_once X hI has_To.l.r (hI.fn (List.mem_of_getElem? (i := 7) rfl)) dX6_trace_34 ?_
  obtain ⟨h_, hf⟩ := zb_some hf
  refine p_Ri_once X hI up_Ri_once.l (X.fl w_401) h_ dX6_trace_37 (fun H locs hI => ?_)
  generalize hz_ : (Ri_once' ri_4 (To_once to)) = ri_5 at hI hf
  clear hz_
  replace hf := lt_e hf
  refine lv_aload_n hx hb dX6_trace_40 rfl (lv_at hl 0 rfl) ?_
  refine lv_iconst (v := 0) hx hb dX6_trace_41 (by decide) ?_
  refine p_Ri_standings X hI up_Ri_standings.l (X.fl w_393) dX6_trace_42 (fun H locs hI => ?_)
  generalize hz_ : (Ri_standings' ri_5 (0 : Int32)) = ri_6 at hI hf
  clear hz_
  replace hf := lt_e hf
  refine lv_aload_n hx hb dX6_trace_45 rfl (lv_at hl 0 rfl) ?_
  refine lv_iconst (v := 0) hx hb dX6_trace_46 (by decide) ?_
  refine p_Ri_count X hI up_Ri_count.l (X.fl w_396) dX6_trace_47 (fun H locs hI => ?_)
  generalize hz_ : (Ri_count' ri_6 (0 : Int32)) = ri_7 at hI hf
  clear hz_
  replace hf := lt_e hf
  refine lv_aload_n hx hb dX6_trace_50 rfl (lv_at hl 0 rfl) ?_
  refine lv_lconst (v := 0) hx hb dX6_trace_51 (by decide) ?_
  refine p_Ri_key X hI up_Ri_key.l (X.fl w_403) dX6_trace_52 (fun H locs hI => ?_)
  generalize hz_ : (Ri_key' ri_7 (0 : Int64)) = ri_8 at hI hf
  clear hz_
  replace hf := lt_e hf
  refine lv_aload_n hx hb dX6_trace_55 rfl (lv_at hl 1 rfl) ?_
  refine g_To_linkIn X hI has_To.l.r (hI.fn (List.mem_of_getElem? (i := 20) rfl)) dX6_trace_56 ?_
  refine lv_iconst (v := 0) hx hb dX6_trace_59 (by decide) ?_
  refine lv_aload_n hx hb dX6_trace_60 rfl (lv_at hl 0 rfl) ?_
  refine g_Ri_linkIn X hI has_Ri.l (X.fl w_415) dX6_trace_61 ?_
  refine lv_iconst (v := 0) hx hb dX6_trace_64 (by decide) ?_
  refine lv_aload_n hx hb dX6_trace_65 rfl (lv_at hl 0 rfl) ?_
  refine g_Ri_linkIn X hI has_Ri.l (X.fl w_415) dX6_trace_66 ?_
  refine al_n (t0 := 0) (v := 16) 0 X hI has_Ri_linkIn.l rfl (by decide) dX6_trace_69 ?_
  obtain ⟨h_, hf⟩ := ckc_some hf
  refine cp_I X hI has_To_linkIn.l.r up_Ri_linkIn.l h_ (ht _ w_acL) (ht _ w_acN) (ht _ w_acS) (ht _ w_acI) hl rfl rfl dX6_trace_70 (fun H locs hI => ?_)
  generalize hz_ : (Ri_linkIn' ri_8 (va_cpy (To_linkIn to) (Ri_linkIn ri_8) (Int32.toNatClampNeg (0 : Int32)) (Int32.toNatClampNeg (0 : Int32)) (Int32.toNatClampNeg (16 : Int32)))) = ri_9 at hI hf
  clear hz_
  replace hf := lt_e hf
  refine lv_aload_n hx hb dX6_trace_73 rfl (lv_at hl 0 rfl) ?_
  refine g_Ri_linkRing X hI has_Ri.l (X.fl w_419) dX6_trace_74 ?_
  refine lv_iconst (v := (-1)) hx hb dX6_trace_77 (by decide) ?_
  obtain ⟨ra_10, hc_, hf⟩ := bd1_some hf
  refine call_Sv X hI (Cj.up up_Ri_linkRing.l) (c_J7_fill_53178 l g (fun _ => (a_ri 7)) (Ri_linkRing ri_9) 8 (-1 : Int32) ra_10 hc_) ⟨rfl, rfl⟩ ⟨ht _ w_902, w_776, ht _ w_157, lk_J7_fill_53178⟩ w_775 rfl hl rfl rfl dX6_trace_78 rfl rfl rfl rfl (fun H locs hI => ?_)
  generalize hz_ : (Ri_linkRing' ri_9 ra_10) = ri_11 at hI hf
  clear hz_
  replace hf := lt_e hf
  refine lv_iconst (v := 0) hx hb dX6_trace_81 (by decide) ?_
  refine lv_istore_n (lv' := [(2, .int (0 : Int32)), (0, .ref (a_ri 0)), (1, .ref (a_to 0))]) hx hb dX6_trace_82 rfl hl (by decide) rfl (fun ls hl => ?_)
  exact L_83 FU (0 : Int32) ri_11 _ _ _ (lv_sub hl [1, 2, 0] rfl) hI hf
