abbrev rm_X12_find : Room := { frames := 0, cells := 0, slots := 0, locals := 0 }
set_option maxRecDepth 20000 in
theorem c_X12_find (l : Launch) (g : GT) (a_tn : Nat → Nat) (tn : TnS) (p1 : Int64) (r_ : Int32) (hf : f_X12_find tn p1 = some (r_)) : CI l yX12_find cX12_find 4 (some .int) rm_X12_find g [.ref (a_tn 0), .long p1] (wTn g a_tn tn ++ []) (wTn g a_tn tn ++ []) r_ := by
  refine start2 (y := yX12_find) (cc := cX12_find) (n := 4) (av := [.ref (a_tn 0), .long p1]) (ws := (wTn g a_tn tn ++ [])) (Qc := fun sz => QI g (wTn g a_tn tn ++ []) (wTn g a_tn tn ++ []) r_ sz) (by decide) rfl ?_
  intro p e s m args below meth c ls Q A ha hQ hA X hl hI hin
  have X : Cx p s m args meth c cX12_find 4 RX12 (some .int) := X
  have hl : lv_has ls 4 [(0, .ref (a_tn 0)), (1, .long p1)] := hl
  obtain ⟨hx, hb, hml, hown, ht, hr, hlk⟩ := id X
  clear ha hin
  have L_2 : ∀ (n_ : Nat) (x1 : Int64) (x3 : Int32) (H : Heap) (locs : List Loc) (ls : Array Slot), lv_has ls 4 [(0, .ref (a_tn 0)), (1, .long x1), (3, .int x3)] → In g A s.heap s (wTn g a_tn tn ++ []) H locs → f_X12_find_L2 n_ x1 x3 tn = some (r_) → W p l e rm_X12_find s m args below meth c H locs 0 0 Q (F0 m 2 ls []) := by
    intro n_
    induction n_ with
    | zero =>
      intro x1 x3 H locs ls hl hI hf
      rw [f_X12_find_L2] at hf
      cases hf
    | succ n_ ih =>
      intro x1 x3 H locs ls hl hI hf
      rw [f_X12_find_L2] at hf
      refine lv_iload_n hx hb dX12_find_2 rfl (lv_at hl 2 rfl) ?_
      refine lv_aload_n hx hb dX12_find_3 rfl (lv_at hl 0 rfl) ?_
      refine g_Tn_names X hI has_Tn.l (X.fl w_1736) dX12_find_4 ?_
      refine lv_icmp_ge (tgt := 29) hx hb dX12_find_7 (by decide) (fun h_ => ?_) (fun h_ => ?_)
      · replace hf := if_t h_ hf
        refine lv_iconst (v := (-1)) hx hb dX12_find_29 (by decide) ?_
        cases hf
        exact end_i hQ hA X hI dX12_find_30
      · replace hf := if_f h_ hf
        refine lv_aload_n hx hb dX12_find_10 rfl (lv_at hl 0 rfl) ?_
        refine g_Tn_name X hI has_Tn.l (X.fl w_1765) dX12_find_11 ?_
        refine lv_iload_n hx hb dX12_find_14 rfl (lv_at hl 2 rfl) ?_
        obtain ⟨h_, hf⟩ := ck_someM hf
        refine ld_J X hI has_Tn_name.l h_ dX12_find_15 ?_
        refine lv_lload_n hx hb dX12_find_16 rfl (lv_at hl 1 rfl) ?_
        refine W.lcmp hx hb dX12_find_17 ?_
        refine lv_if_ne (tgt := 23) hx hb dX12_find_18 (by decide) (fun h_ => ?_) (fun h_ => ?_)
        · replace hf := if_f h_ hf
          obtain ⟨v_1, e_⟩ : ∃ y : Int32, y = (x3 + (1 : Int32)) := ⟨_, rfl⟩
          replace hf := lt_to e_ hf
          refine lv_iinc (v := v_1) (lv' := [(3, .int v_1), (0, .ref (a_tn 0)), (1, .long x1)]) hx hb dX12_find_23 hl (k := 2) rfl (by rw [e_]; rfl) (by decide) rfl (fun ls hl => ?_)
          clear e_
          refine lv_goto (tgt := 2) hx hb dX12_find_26 (by decide) ?_
          exact ih x1 v_1 _ _ _ (lv_sub hl [1, 2, 0] rfl) hI hf
        · replace hf := if_t h_ hf
          refine lv_iload_n hx hb dX12_find_21 rfl (lv_at hl 2 rfl) ?_
          cases hf
          exact end_i hQ hA X hI dX12_find_22
  unfold f_X12_find at hf
  refine lv_iconst (v := 0) hx hb dX12_find_0 (by decide) ?_
  refine lv_istore_n (lv' := [(3, .int (0 : Int32)), (0, .ref (a_tn 0)), (1, .long p1)]) hx hb dX12_find_1 rfl hl (by decide) rfl (fun ls hl => ?_)
  exact L_2 FU p1 (0 : Int32) _ _ _ (lv_sub hl [1, 2, 0] rfl) hI hf
abbrev rm_X12_other : Room := { frames := 0, cells := 0, slots := 0, locals := 0 }
set_option maxRecDepth 20000 in
theorem c_X12_other (l : Launch) (g : GT) (a_tn : Nat → Nat) (tn : TnS) (p1 : Int32) (r_ : Int32) (hf : f_X12_other tn p1 = some (r_)) : CI l yX12_other cX12_other 3 (some .int) rm_X12_other g [.ref (a_tn 0), .int p1] (wTn g a_tn tn ++ []) (wTn g a_tn tn ++ []) r_ := by
  refine start2 (y := yX12_other) (cc := cX12_other) (n := 3) (av := [.ref (a_tn 0), .int p1]) (ws := (wTn g a_tn tn ++ [])) (Qc := fun sz => QI g (wTn g a_tn tn ++ []) (wTn g a_tn tn ++ []) r_ sz) (by decide) rfl ?_
  intro p e s m args below meth c ls Q A ha hQ hA X hl hI hin
  have X : Cx p s m args meth c cX12_other 3 RX12 (some .int) := X
  have hl : lv_has ls 3 [(0, .ref (a_tn 0)), (1, .int p1)] := hl
  obtain ⟨hx, hb, hml, hown, ht, hr, hlk⟩ := id X
  clear ha hin
  unfold f_X12_other at hf
  refine lv_aload_n hx hb dX12_other_0 rfl (lv_at hl 0 rfl) ?_
  refine g_Tn_linkOf X hI has_Tn.l (X.fl w_1753) dX12_other_1 ?_
  refine lv_iload_n hx hb dX12_other_4 rfl (lv_at hl 1 rfl) ?_
  obtain ⟨h_, hf⟩ := ck_someM hf
  refine ld_I X hI has_Tn_linkOf.l h_ dX12_other_5 ?_
  refine lv_topi (fun v_1 e_ => ?_)
  replace hf := lt_to e_ hf
  clear e_
  refine lv_istore_n (lv' := [(2, .int v_1), (0, .ref (a_tn 0)), (1, .int p1)]) hx hb dX12_other_6 rfl hl (by decide) rfl (fun ls hl => ?_)
  refine lv_iconst (v := 2) hx hb dX12_other_7 (by decide) ?_
  refine lv_aload_n hx hb dX12_other_8 rfl (lv_at hl 1 rfl) ?_
  refine g_Tn_one X hI has_Tn.l (X.fl w_1745) dX12_other_9 ?_
  refine lv_iload_n hx hb dX12_other_12 rfl (lv_at hl 0 rfl) ?_
  obtain ⟨h_, hf⟩ := ck_someM hf
  refine ld_I X hI has_Tn_one.l h_ dX12_other_13 ?_
  refine lv_imul hx hb dX12_other_14 ?_
  refine lv_aload_n hx hb dX12_other_15 rfl (lv_at hl 1 rfl) ?_
  refine g_Tn_oneHand X hI has_Tn.l (X.fl w_1747) dX12_other_16 ?_
  refine lv_iload_n hx hb dX12_other_19 rfl (lv_at hl 0 rfl) ?_
  obtain ⟨h_, hf⟩ := ck_someM hf
  refine ld_I X hI has_Tn_oneHand.l h_ dX12_other_20 ?_
  refine lv_iadd hx hb dX12_other_21 ?_
  refine lv_iload_n hx hb dX12_other_22 rfl (lv_at hl 2 rfl) ?_
  refine lv_icmp_ne (tgt := 44) hx hb dX12_other_23 (by decide) (fun h_ => ?_) (fun h_ => ?_)
  · replace hf := if_f h_ hf
    refine lv_iconst (v := 2) hx hb dX12_other_44 (by decide) ?_
    refine lv_aload_n hx hb dX12_other_45 rfl (lv_at hl 1 rfl) ?_
    refine g_Tn_one X hI has_Tn.l (X.fl w_1745) dX12_other_46 ?_
    refine lv_iload_n hx hb dX12_other_49 rfl (lv_at hl 0 rfl) ?_
    obtain ⟨h_, hf⟩ := ck_someM hf
    refine ld_I X hI has_Tn_one.l h_ dX12_other_50 ?_
    refine lv_imul hx hb dX12_other_51 ?_
    refine lv_aload_n hx hb dX12_other_52 rfl (lv_at hl 1 rfl) ?_
    refine g_Tn_oneHand X hI has_Tn.l (X.fl w_1747) dX12_other_53 ?_
    refine lv_iload_n hx hb dX12_other_56 rfl (lv_at hl 0 rfl) ?_
    obtain ⟨h_, hf⟩ := ck_someM hf
    refine ld_I X hI has_Tn_oneHand.l h_ dX12_other_57 ?_
    refine lv_iadd hx hb dX12_other_58 ?_
    cases hf
    exact end_i hQ hA X hI dX12_other_59
  · replace hf := if_t h_ hf
    refine lv_iconst (v := 2) hx hb dX12_other_26 (by decide) ?_
    refine lv_aload_n hx hb dX12_other_27 rfl (lv_at hl 1 rfl) ?_
    refine g_Tn_two X hI has_Tn.l (X.fl w_1749) dX12_other_28 ?_
    refine lv_iload_n hx hb dX12_other_31 rfl (lv_at hl 0 rfl) ?_
    obtain ⟨h_, hf⟩ := ck_someM hf
    refine ld_I X hI has_Tn_two.l h_ dX12_other_32 ?_
    refine lv_imul hx hb dX12_other_33 ?_
    refine lv_aload_n hx hb dX12_other_34 rfl (lv_at hl 1 rfl) ?_
    refine g_Tn_twoHand X hI has_Tn.l (X.fl w_1751) dX12_other_35 ?_
    refine lv_iload_n hx hb dX12_other_38 rfl (lv_at hl 0 rfl) ?_
    obtain ⟨h_, hf⟩ := ck_someM hf
    refine ld_I X hI has_Tn_twoHand.l h_ dX12_other_39 ?_
    refine lv_iadd hx hb dX12_other_40 ?_
    refine lv_goto (tgt := 59) hx hb dX12_other_41 (by decide) ?_
    cases hf
    exact end_i hQ hA X hI dX12_other_59
abbrev rm_X12_stands : Room := { frames := 0, cells := 0, slots := 0, locals := 0 }
set_option maxRecDepth 20000 in
theorem c_X12_stands (l : Launch) (g : GT) (a_tn : Nat → Nat) (tn : TnS) (p1 : Int32) (p2 : Int32) (o_tn : TnS) (hf : f_X12_stands tn p1 p2 = some (o_tn)) : CV l yX12_stands cX12_stands 3 none rm_X12_stands g [.ref (a_tn 0), .int p1, .int p2] (wTn g a_tn tn ++ []) (wTn g a_tn o_tn ++ []) := by
  refine start2 (y := yX12_stands) (cc := cX12_stands) (n := 3) (av := [.ref (a_tn 0), .int p1, .int p2]) (ws := (wTn g a_tn tn ++ [])) (Qc := fun sz => QV g (wTn g a_tn tn ++ []) (wTn g a_tn o_tn ++ []) sz) (by decide) rfl ?_
  intro p e s m args below meth c ls Q A ha hQ hA X hl hI hin
  have X : Cx p s m args meth c cX12_stands 3 RX12 none := X
  have hl : lv_has ls 3 [(0, .ref (a_tn 0)), (1, .int p1), (2, .int p2)] := hl
  obtain ⟨hx, hb, hml, hown, ht, hr, hlk⟩ := id X
  clear ha hin
  unfold f_X12_stands at hf
  refine lv_aload_n hx hb dX12_stands_0 rfl (lv_at hl 0 rfl) ?_
  refine g_Tn_standRing X hI has_Tn.l (X.fl w_1785) dX12_stands_1 ?_
  refine lv_aload_n hx hb dX12_stands_4 rfl (lv_at hl 0 rfl) ?_
  refine g_Tn_standings X hI has_Tn.l (X.fl w_1740) dX12_stands_5 ?_
  refine lv_aload_n hx hb dX12_stands_8 rfl (lv_at hl 0 rfl) ?_
  refine g_Tn_rings X hI has_Tn.l (X.fl w_1738) dX12_stands_9 ?_
  obtain ⟨h_, hf⟩ := ck_someM hf
  refine st_I X hI up_Tn_standRing.l h_ dX12_stands_12 (fun H locs hI => ?_)
  generalize hz_ : (Tn_standRing' tn (upd (Tn_standRing tn) (Int32.toNatClampNeg (Tn_standings tn)) (Tn_rings tn))) = tn_1 at hI hf
  clear hz_
  replace hf := lt_e hf
  refine lv_aload_n hx hb dX12_stands_13 rfl (lv_at hl 0 rfl) ?_
  refine g_Tn_standLink X hI has_Tn.l (X.fl w_1787) dX12_stands_14 ?_
  refine lv_aload_n hx hb dX12_stands_17 rfl (lv_at hl 0 rfl) ?_
  refine g_Tn_standings X hI has_Tn.l (X.fl w_1740) dX12_stands_18 ?_
  refine lv_iload_n hx hb dX12_stands_21 rfl (lv_at hl 1 rfl) ?_
  obtain ⟨h_, hf⟩ := ck_someM hf
  refine st_I X hI up_Tn_standLink.l h_ dX12_stands_22 (fun H locs hI => ?_)
  generalize hz_ : (Tn_standLink' tn_1 (upd (Tn_standLink tn_1) (Int32.toNatClampNeg (Tn_standings tn_1)) p1)) = tn_2 at hI hf
  clear hz_
  replace hf := lt_e hf
  refine lv_aload_n hx hb dX12_stands_23 rfl (lv_at hl 0 rfl) ?_
  refine lv_dup hx hb dX12_stands_24 rfl ?_
  refine g_Tn_first X hI has_Tn.l (X.fl w_1789) dX12_stands_25 ?_
  refine lv_iload_n hx hb dX12_stands_28 rfl (lv_at hl 2 rfl) ?_
  refine lv_i2l hx hb dX12_stands_29 rfl ?_
  refine lv_iconst (v := 4) hx hb dX12_stands_30 (by decide) ?_
  refine lv_aload_n hx hb dX12_stands_31 rfl (lv_at hl 0 rfl) ?_
  refine g_Tn_standings X hI has_Tn.l (X.fl w_1740) dX12_stands_32 ?_
  refine lv_imul hx hb dX12_stands_35 ?_
  refine lv_lshl hx hb dX12_stands_36 rfl ?_
  refine lv_lor hx hb dX12_stands_37 ?_
  refine p_Tn_first X hI up_Tn_first.l (X.fl w_1789) dX12_stands_38 (fun H locs hI => ?_)
  generalize hz_ : (Tn_first' tn_2 ((Tn_first tn_2) ||| ((Int32.toInt64 p2) <<< (Int32.toInt64 ((4 : Int32) * (Tn_standings tn_2)) &&& 63)))) = tn_3 at hI hf
  clear hz_
  replace hf := lt_e hf
  refine lv_aload_n hx hb dX12_stands_41 rfl (lv_at hl 0 rfl) ?_
  refine lv_dup hx hb dX12_stands_42 rfl ?_
  refine g_Tn_standings X hI has_Tn.l (X.fl w_1740) dX12_stands_43 ?_
  refine lv_iconst (v := 1) hx hb dX12_stands_46 (by decide) ?_
  refine lv_iadd hx hb dX12_stands_47 ?_
  refine p_Tn_standings X hI up_Tn_standings.l (X.fl w_1740) dX12_stands_48 (fun H locs hI => ?_)
  generalize hz_ : (Tn_standings' tn_3 ((Tn_standings tn_3) + (1 : Int32))) = tn_4 at hI hf
  clear hz_
  replace hf := lt_e hf
  cases hf
  exact end_v hQ hA X hI dX12_stands_51
abbrev rm_X12_laysStandings : Room := { frames := 1, cells := 0, slots := 0, locals := 22 }
set_option maxRecDepth 20000 in
theorem c_X12_laysStandings (l : Launch) (g : GT) (a_tn : Nat → Nat) (tn : TnS) (p1 : Int32) (o_tn : TnS) (hf : f_X12_laysStandings tn p1 = some (o_tn)) : CV l yX12_laysStandings cX12_laysStandings 5 none rm_X12_laysStandings g [.ref (a_tn 0), .int p1] (wTn g a_tn tn ++ []) (wTn g a_tn o_tn ++ []) := by
  refine start2 (y := yX12_laysStandings) (cc := cX12_laysStandings) (n := 5) (av := [.ref (a_tn 0), .int p1]) (ws := (wTn g a_tn tn ++ [])) (Qc := fun sz => QV g (wTn g a_tn tn ++ []) (wTn g a_tn o_tn ++ []) sz) (by decide) rfl ?_
  intro p e s m args below meth c ls Q A ha hQ hA X hl hI hin
  have X : Cx p s m args meth c cX12_laysStandings 5 RX12 none := X
  have hl : lv_has ls 5 [(0, .ref (a_tn 0)), (1, .int p1)] := hl
  obtain ⟨hx, hb, hml, hown, ht, hr, hlk⟩ := id X
  clear ha hin
  have L_102 : ∀ (x1 : Int32) (x2 : Int32) (x3 : Int32) (x4 : Int32) (tn : TnS) (k29 : (Int32) → (Int32) → (Int32) → (Int32) → (TnS) → Option ((TnS))) (H : Heap) (locs : List Loc) (ls : Array Slot), lv_has ls 5 [(0, .ref (a_tn 0)), (1, .int x1), (2, .int x2), (3, .int x3), (4, .int x4)] → In g A s.heap s (wTn g a_tn tn ++ []) H locs → f_X12_laysStandings_L102 x1 x2 x3 x4 tn k29 = some (o_tn) → (∀ (x1 : Int32) (x2 : Int32) (x3 : Int32) (x4 : Int32) (tn : TnS) (H : Heap) (locs : List Loc) (ls : Array Slot), lv_has ls 5 [(0, .ref (a_tn 0)), (1, .int x1), (2, .int x2), (3, .int x3), (4, .int x4)] → In g A s.heap s (wTn g a_tn tn ++ []) H locs → k29 x1 x2 x3 x4 tn = some (o_tn) → W p l e rm_X12_laysStandings s m args below meth c H locs 0 0 Q (F0 m 29 ls [])) → W p l e rm_X12_laysStandings s m args below meth c H locs 0 0 Q (F0 m 102 ls []) := by
    intro x1 x2 x3 x4 tn k29 H locs ls hl hI hf hk29
    unfold f_X12_laysStandings_L102 at hf
    obtain ⟨v_4, e_⟩ : ∃ y : Int32, y = (x4 + (1 : Int32)) := ⟨_, rfl⟩
    replace hf := lt_to e_ hf
    refine lv_iinc (v := v_4) (lv' := [(4, .int v_4), (0, .ref (a_tn 0)), (1, .int x1), (2, .int x2), (3, .int x3)]) hx hb dX12_laysStandings_102 hl (k := 4) rfl (by rw [e_]; rfl) (by decide) rfl (fun ls hl => ?_)
    clear e_
    refine lv_goto (tgt := 29) hx hb dX12_laysStandings_105 (by decide) ?_
    exact hk29 x1 x2 x3 v_4 tn _ _ _ (lv_sub hl [1, 2, 3, 4, 0] rfl) hI hf
  have L_71 : ∀ (x1 : Int32) (x2 : Int32) (x3 : Int32) (x4 : Int32) (tn : TnS) (k29 : (Int32) → (Int32) → (Int32) → (Int32) → (TnS) → Option ((TnS))) (H : Heap) (locs : List Loc) (ls : Array Slot), lv_has ls 5 [(0, .ref (a_tn 0)), (1, .int x1), (2, .int x2), (3, .int x3), (4, .int x4)] → In g A s.heap s (wTn g a_tn tn ++ []) H locs → f_X12_laysStandings_L71 x1 x2 x3 x4 tn k29 = some (o_tn) → (∀ (x1 : Int32) (x2 : Int32) (x3 : Int32) (x4 : Int32) (tn : TnS) (H : Heap) (locs : List Loc) (ls : Array Slot), lv_has ls 5 [(0, .ref (a_tn 0)), (1, .int x1), (2, .int x2), (3, .int x3), (4, .int x4)] → In g A s.heap s (wTn g a_tn tn ++ []) H locs → k29 x1 x2 x3 x4 tn = some (o_tn) → W p l e rm_X12_laysStandings s m args below meth c H locs 0 0 Q (F0 m 29 ls [])) → W p l e rm_X12_laysStandings s m args below meth c H locs 0 0 Q (F0 m 71 ls []) := by
    intro x1 x2 x3 x4 tn k29 H locs ls hl hI hf hk29
    unfold f_X12_laysStandings_L71 at hf
    refine lv_aload_n hx hb dX12_laysStandings_71 rfl (lv_at hl 0 rfl) ?_
    refine g_Tn_under X hI has_Tn.l (X.fl w_1759) dX12_laysStandings_72 ?_
    refine lv_iload hx hb dX12_laysStandings_75 (lv_at hl 4 rfl) ?_
    obtain ⟨h_, hf⟩ := ck_someM hf
    refine ld_I X hI has_Tn_under.l h_ dX12_laysStandings_77 ?_
    refine lv_iload_n hx hb dX12_laysStandings_78 rfl (lv_at hl 1 rfl) ?_
    refine lv_icmp_ne (tgt := 102) hx hb dX12_laysStandings_79 (by decide) (fun h_ => ?_) (fun h_ => ?_)
    · replace hf := if_f h_ hf
      exact L_102 x1 x2 x3 x4 tn _ _ _ _ hl hI hf hk29
    · replace hf := if_t h_ hf
      refine lv_aload_n hx hb dX12_laysStandings_82 rfl (lv_at hl 0 rfl) ?_
      refine g_Tn_underAt X hI has_Tn.l (X.fl w_1761) dX12_laysStandings_83 ?_
      refine lv_iload hx hb dX12_laysStandings_86 (lv_at hl 4 rfl) ?_
      obtain ⟨h_, hf⟩ := ck_someM hf
      refine ld_I X hI has_Tn_underAt.l h_ dX12_laysStandings_88 ?_
      refine lv_iload_n hx hb dX12_laysStandings_89 rfl (lv_at hl 3 rfl) ?_
      refine lv_icmp_ne (tgt := 102) hx hb dX12_laysStandings_90 (by decide) (fun h_ => ?_) (fun h_ => ?_)
      · replace hf := if_f h_ hf
        exact L_102 x1 x2 x3 x4 tn _ _ _ _ hl hI hf hk29
      · replace hf := if_t h_ hf
        refine lv_aload_n hx hb dX12_laysStandings_93 rfl (lv_at hl 0 rfl) ?_
        refine lv_iload_n hx hb dX12_laysStandings_94 rfl (lv_at hl 1 rfl) ?_
        refine lv_iconst (v := 2) hx hb dX12_laysStandings_95 (by decide) ?_
        refine lv_iload hx hb dX12_laysStandings_96 (lv_at hl 4 rfl) ?_
        refine lv_imul hx hb dX12_laysStandings_98 ?_
        obtain ⟨tn_3, hc_, hf⟩ := bd1_some hf
        refine call_Vv X hI (Cj.keep Cj.id) (c_X12_stands l g a_tn tn x1 ((2 : Int32) * x4) tn_3 hc_) ⟨rfl, rfl⟩ ⟨ht _ w_1990, w_1993, ht _ w_159, lk_X12_stands⟩ w_1992 w_91 rfl rfl rfl hl rfl rfl dX12_laysStandings_99 rfl rfl rfl rfl (fun H locs hI => ?_)
        exact L_102 x1 x2 x3 x4 tn_3 _ _ _ _ hl hI hf hk29
  have L_29 : ∀ (n_ : Nat) (x1 : Int32) (x2 : Int32) (x3 : Int32) (x4 : Int32) (tn : TnS) (k2 : (Int32) → (Int32) → (TnS) → Option ((TnS))) (H : Heap) (locs : List Loc) (ls : Array Slot), lv_has ls 5 [(0, .ref (a_tn 0)), (1, .int x1), (2, .int x2), (3, .int x3), (4, .int x4)] → In g A s.heap s (wTn g a_tn tn ++ []) H locs → f_X12_laysStandings_L29 n_ x1 x2 x3 x4 tn k2 = some (o_tn) → (∀ (x1 : Int32) (x2 : Int32) (tn : TnS) (H : Heap) (locs : List Loc) (ls : Array Slot), lv_has ls 5 [(0, .ref (a_tn 0)), (1, .int x1), (2, .int x2)] → In g A s.heap s (wTn g a_tn tn ++ []) H locs → k2 x1 x2 tn = some (o_tn) → W p l e rm_X12_laysStandings s m args below meth c H locs 0 0 Q (F0 m 2 ls [])) → W p l e rm_X12_laysStandings s m args below meth c H locs 0 0 Q (F0 m 29 ls []) := by
    intro n_
    induction n_ with
    | zero =>
      intro x1 x2 x3 x4 tn k2 H locs ls hl hI hf hk2
      rw [f_X12_laysStandings_L29] at hf
      cases hf
    | succ n_ ih =>
      intro x1 x2 x3 x4 tn k2 H locs ls hl hI hf hk2
      rw [f_X12_laysStandings_L29] at hf
      refine lv_iload hx hb dX12_laysStandings_29 (lv_at hl 4 rfl) ?_
      refine lv_aload_n hx hb dX12_laysStandings_31 rfl (lv_at hl 0 rfl) ?_
      refine g_Tn_crossings X hI has_Tn.l (X.fl w_1734) dX12_laysStandings_32 ?_
      refine lv_icmp_ge (tgt := 108) hx hb dX12_laysStandings_35 (by decide) (fun h_ => ?_) (fun h_ => ?_)
      · replace hf := if_t h_ hf
        obtain ⟨v_1, e_⟩ : ∃ y : Int32, y = (x2 + (1 : Int32)) := ⟨_, rfl⟩
        replace hf := lt_to e_ hf
        refine lv_iinc (v := v_1) (lv' := [(2, .int v_1), (0, .ref (a_tn 0)), (1, .int x1), (3, .int x3), (4, .int x4)]) hx hb dX12_laysStandings_108 hl (k := 2) rfl (by rw [e_]; rfl) (by decide) rfl (fun ls hl => ?_)
        clear e_
        refine lv_goto (tgt := 2) hx hb dX12_laysStandings_111 (by decide) ?_
        exact hk2 x1 v_1 tn _ _ _ (lv_sub hl [1, 2, 0] rfl) hI hf
      · replace hf := if_f h_ hf
        refine lv_aload_n hx hb dX12_laysStandings_38 rfl (lv_at hl 0 rfl) ?_
        refine g_Tn_over X hI has_Tn.l (X.fl w_1755) dX12_laysStandings_39 ?_
        refine lv_iload hx hb dX12_laysStandings_42 (lv_at hl 4 rfl) ?_
        obtain ⟨h_, hf⟩ := ck_someM hf
        refine ld_I X hI has_Tn_over.l h_ dX12_laysStandings_44 ?_
        refine lv_iload_n hx hb dX12_laysStandings_45 rfl (lv_at hl 1 rfl) ?_
        refine lv_icmp_ne (tgt := 71) hx hb dX12_laysStandings_46 (by decide) (fun h_ => ?_) (fun h_ => ?_)
        · replace hf := if_f h_ hf
          exact L_71 x1 x2 x3 x4 tn _ _ _ _ hl hI hf (fun z_0 z_1 z_2 z_3 z_4 _ _ _ hl hI hf => ih z_0 z_1 z_2 z_3 z_4 k2 _ _ _ hl hI hf hk2)
        · replace hf := if_t h_ hf
          refine lv_aload_n hx hb dX12_laysStandings_49 rfl (lv_at hl 0 rfl) ?_
          refine g_Tn_overAt X hI has_Tn.l (X.fl w_1757) dX12_laysStandings_50 ?_
          refine lv_iload hx hb dX12_laysStandings_53 (lv_at hl 4 rfl) ?_
          obtain ⟨h_, hf⟩ := ck_someM hf
          refine ld_I X hI has_Tn_overAt.l h_ dX12_laysStandings_55 ?_
          refine lv_iload_n hx hb dX12_laysStandings_56 rfl (lv_at hl 3 rfl) ?_
          refine lv_icmp_ne (tgt := 71) hx hb dX12_laysStandings_57 (by decide) (fun h_ => ?_) (fun h_ => ?_)
          · replace hf := if_f h_ hf
            exact L_71 x1 x2 x3 x4 tn _ _ _ _ hl hI hf (fun z_0 z_1 z_2 z_3 z_4 _ _ _ hl hI hf => ih z_0 z_1 z_2 z_3 z_4 k2 _ _ _ hl hI hf hk2)
          · replace hf := if_t h_ hf
            refine lv_aload_n hx hb dX12_laysStandings_60 rfl (lv_at hl 0 rfl) ?_
            refine lv_iload_n hx hb dX12_laysStandings_61 rfl (lv_at hl 1 rfl) ?_
            refine lv_iconst (v := 2) hx hb dX12_laysStandings_62 (by decide) ?_
            refine lv_iload hx hb dX12_laysStandings_63 (lv_at hl 4 rfl) ?_
            refine lv_imul hx hb dX12_laysStandings_65 ?_
            refine lv_iconst (v := 1) hx hb dX12_laysStandings_66 (by decide) ?_
            refine lv_iadd hx hb dX12_laysStandings_67 ?_
            obtain ⟨tn_2, hc_, hf⟩ := bd1_some hf
            refine call_Vv X hI (Cj.keep Cj.id) (c_X12_stands l g a_tn tn x1 (((2 : Int32) * x4) + (1 : Int32)) tn_2 hc_) ⟨rfl, rfl⟩ ⟨ht _ w_1990, w_1993, ht _ w_159, lk_X12_stands⟩ w_1992 w_91 rfl rfl rfl hl rfl rfl dX12_laysStandings_68 rfl rfl rfl rfl (fun H locs hI => ?_)
            exact L_71 x1 x2 x3 x4 tn_2 _ _ _ _ hl hI hf (fun z_0 z_1 z_2 z_3 z_4 _ _ _ hl hI hf => ih z_0 z_1 z_2 z_3 z_4 k2 _ _ _ hl hI hf hk2)
  have L_25 : ∀ (x1 : Int32) (x2 : Int32) (t0i : Int32) (tn : TnS) (k2 : (Int32) → (Int32) → (TnS) → Option ((TnS))) (H : Heap) (locs : List Loc) (ls : Array Slot), lv_has ls 5 [(0, .ref (a_tn 0)), (1, .int x1), (2, .int x2)] → In g A s.heap s (wTn g a_tn tn ++ []) H locs → f_X12_laysStandings_L25 x1 x2 t0i tn k2 = some (o_tn) → (∀ (x1 : Int32) (x2 : Int32) (tn : TnS) (H : Heap) (locs : List Loc) (ls : Array Slot), lv_has ls 5 [(0, .ref (a_tn 0)), (1, .int x1), (2, .int x2)] → In g A s.heap s (wTn g a_tn tn ++ []) H locs → k2 x1 x2 tn = some (o_tn) → W p l e rm_X12_laysStandings s m args below meth c H locs 0 0 Q (F0 m 2 ls [])) → W p l e rm_X12_laysStandings s m args below meth c H locs 0 0 Q (F0 m 25 ls [.int t0i]) := by
    intro x1 x2 t0i tn k2 H locs ls hl hI hf hk2
    unfold f_X12_laysStandings_L25 at hf
    refine lv_istore_n (lv' := [(3, .int t0i), (0, .ref (a_tn 0)), (1, .int x1), (2, .int x2)]) hx hb dX12_laysStandings_25 rfl hl (by decide) rfl (fun ls hl => ?_)
    refine lv_iconst (v := 0) hx hb dX12_laysStandings_26 (by decide) ?_
    refine lv_istore (lv' := [(4, .int (0 : Int32)), (3, .int t0i), (0, .ref (a_tn 0)), (1, .int x1), (2, .int x2)]) hx hb dX12_laysStandings_27 hl (by decide) rfl (fun ls hl => ?_)
    exact L_29 FU x1 x2 t0i (0 : Int32) tn _ _ _ _ (lv_sub hl [2, 3, 4, 1, 0] rfl) hI hf hk2
  have L_2 : ∀ (n_ : Nat) (x1 : Int32) (x2 : Int32) (tn : TnS) (H : Heap) (locs : List Loc) (ls : Array Slot), lv_has ls 5 [(0, .ref (a_tn 0)), (1, .int x1), (2, .int x2)] → In g A s.heap s (wTn g a_tn tn ++ []) H locs → f_X12_laysStandings_L2 n_ x1 x2 tn = some (o_tn) → W p l e rm_X12_laysStandings s m args below meth c H locs 0 0 Q (F0 m 2 ls []) := by
    intro n_
    induction n_ with
    | zero =>
      intro x1 x2 tn H locs ls hl hI hf
      rw [f_X12_laysStandings_L2] at hf
      cases hf
    | succ n_ ih =>
      intro x1 x2 tn H locs ls hl hI hf
      rw [f_X12_laysStandings_L2] at hf
      refine lv_iload_n hx hb dX12_laysStandings_2 rfl (lv_at hl 2 rfl) ?_
      refine lv_bipush (v := 9) hx hb dX12_laysStandings_3 (by decide) ?_
      refine lv_icmp_gt (tgt := 114) hx hb dX12_laysStandings_5 (by decide) (fun h_ => ?_) (fun h_ => ?_)
      · replace hf := if_t h_ hf
        cases hf
        exact end_v hQ hA X hI dX12_laysStandings_114
      · replace hf := if_f h_ hf
        refine lv_aload_n hx hb dX12_laysStandings_8 rfl (lv_at hl 0 rfl) ?_
        refine g_Tn_along X hI has_Tn.l (X.fl w_1783) dX12_laysStandings_9 ?_
        refine lv_iload_n hx hb dX12_laysStandings_12 rfl (lv_at hl 1 rfl) ?_
        obtain ⟨h_, hf⟩ := ck_someM hf
        refine ld_Z X hI has_Tn_along.l h_ dX12_laysStandings_13 ?_
        refine lv_if_eq (tgt := 21) hx hb dX12_laysStandings_14 (by decide) (fun h_ => ?_) (fun h_ => ?_)
        · replace hf := if_t h_ hf
          refine lv_bipush (v := 10) hx hb dX12_laysStandings_21 (by decide) ?_
          refine lv_iload_n hx hb dX12_laysStandings_23 rfl (lv_at hl 2 rfl) ?_
          refine lv_isub hx hb dX12_laysStandings_24 ?_
          exact L_25 x1 x2 ((10 : Int32) - x2) tn _ _ _ _ hl hI hf (fun z_0 z_1 z_2 _ _ _ hl hI hf => ih z_0 z_1 z_2 _ _ _ hl hI hf)
        · replace hf := if_f h_ hf
          refine lv_iload_n hx hb dX12_laysStandings_17 rfl (lv_at hl 2 rfl) ?_
          refine lv_goto (tgt := 25) hx hb dX12_laysStandings_18 (by decide) ?_
          exact L_25 x1 x2 x2 tn _ _ _ _ hl hI hf (fun z_0 z_1 z_2 _ _ _ hl hI hf => ih z_0 z_1 z_2 _ _ _ hl hI hf)
  unfold f_X12_laysStandings at hf
  refine lv_iconst (v := 1) hx hb dX12_laysStandings_0 (by decide) ?_
  refine lv_istore_n (lv' := [(2, .int (1 : Int32)), (0, .ref (a_tn 0)), (1, .int p1)]) hx hb dX12_laysStandings_1 rfl hl (by decide) rfl (fun ls hl => ?_)
  exact L_2 FU p1 (1 : Int32) tn _ _ _ (lv_sub hl [1, 2, 0] rfl) hI hf
abbrev rm_X12_laysRing : Room := { frames := 2, cells := 0, slots := 0, locals := 46 }
set_option maxRecDepth 20000 in
theorem c_X12_laysRing (l : Launch) (g : GT) (a_tn : Nat → Nat) (tn : TnS) (p1 : Int32) (o_tn : TnS) (hf : f_X12_laysRing tn p1 = some (o_tn)) : CV l yX12_laysRing cX12_laysRing 5 none rm_X12_laysRing g [.ref (a_tn 0), .int p1] (wTn g a_tn tn ++ []) (wTn g a_tn o_tn ++ []) := by
  refine start2 (y := yX12_laysRing) (cc := cX12_laysRing) (n := 5) (av := [.ref (a_tn 0), .int p1]) (ws := (wTn g a_tn tn ++ [])) (Qc := fun sz => QV g (wTn g a_tn tn ++ []) (wTn g a_tn o_tn ++ []) sz) (by decide) rfl ?_
  intro p e s m args below meth c ls Q A ha hQ hA X hl hI hin
  have X : Cx p s m args meth c cX12_laysRing 5 RX12 none := X
  have hl : lv_has ls 5 [(0, .ref (a_tn 0)), (1, .int p1)] := hl
  obtain ⟨hx, hb, hml, hown, ht, hr, hlk⟩ := id X
  clear ha hin
  have L_101 : ∀ (x1 : Int32) (x2 : Int32) (x3 : Int32) (x4 : Int32) (t1i : Int32) (t2i : Int32) (tn : TnS) (k4 : (Int32) → (Int32) → (Int32) → (TnS) → Option ((TnS))) (H : Heap) (locs : List Loc) (ls : Array Slot), lv_has ls 5 [(0, .ref (a_tn 0)), (1, .int x1), (2, .int x2), (3, .int x3), (4, .int x4)] → In g A s.heap s (wTn g a_tn tn ++ []) H locs → f_X12_laysRing_L101 x1 x2 x3 x4 t1i t2i tn k4 = some (o_tn) → (∀ (x1 : Int32) (x2 : Int32) (x3 : Int32) (tn : TnS) (H : Heap) (locs : List Loc) (ls : Array Slot), lv_has ls 5 [(0, .ref (a_tn 0)), (1, .int x1), (2, .int x2), (3, .int x3)] → In g A s.heap s (wTn g a_tn tn ++ []) H locs → k4 x1 x2 x3 tn = some (o_tn) → W p l e rm_X12_laysRing s m args below meth c H locs 0 0 Q (F0 m 4 ls [])) → W p l e rm_X12_laysRing s m args below meth c H locs 0 0 Q (F0 m 101 ls [.int t2i, .int t1i, .ref (a_tn 21)]) := by
    intro x1 x2 x3 x4 t1i t2i tn k4 H locs ls hl hI hf hk4
    unfold f_X12_laysRing_L101 at hf
    obtain ⟨h_, hf⟩ := ck_someM hf
    refine st_Z X hI up_Tn_along.l h_ dX12_laysRing_101 (fun H locs hI => ?_)
    generalize hz_ : (Tn_along' tn (upd (Tn_along tn) (Int32.toNatClampNeg t1i) (vp_nar .boolean t2i))) = tn_7 at hI hf
    clear hz_
    replace hf := lt_e hf
    refine lv_aload_n hx hb dX12_laysRing_102 rfl (lv_at hl 0 rfl) ?_
    refine lv_iload hx hb dX12_laysRing_103 (lv_at hl 4 rfl) ?_
    obtain ⟨tn_8, hc_, hf⟩ := bd1_some hf
    refine call_Vv X hI (Cj.keep Cj.id) (c_X12_laysStandings l g a_tn tn_7 x4 tn_8 hc_) ⟨rfl, rfl⟩ ⟨ht _ w_1986, w_1989, ht _ w_159, lk_X12_laysStandings⟩ w_1988 w_90 rfl rfl rfl hl rfl rfl dX12_laysRing_105 rfl rfl rfl rfl (fun H locs hI => ?_)
    refine lv_aload_n hx hb dX12_laysRing_108 rfl (lv_at hl 0 rfl) ?_
    refine lv_iload_n hx hb dX12_laysRing_109 rfl (lv_at hl 2 rfl) ?_
    obtain ⟨r_9, hc_, hf⟩ := bd1_some hf
    refine call_Vi X hI (Cj.keep Cj.id) (c_X12_other l g a_tn tn_8 x2 r_9 hc_) ⟨rfl, rfl⟩ ⟨ht _ w_1994, w_1997, ht _ w_159, lk_X12_other⟩ w_1995 w_1996 rfl rfl rfl hl rfl rfl dX12_laysRing_110 rfl rfl rfl rfl (fun H locs hI => ?_)
    refine lv_iconst (v := 1) hx hb dX12_laysRing_113 (by decide) ?_
    refine lv_ixor hx hb dX12_laysRing_114 ?_
    refine lv_topi (fun v_10 e_ => ?_)
    replace hf := lt_to e_ hf
    clear e_
    refine lv_istore_n (lv' := [(2, .int v_10), (0, .ref (a_tn 0)), (1, .int x1), (3, .int x3), (4, .int x4)]) hx hb dX12_laysRing_115 rfl hl (by decide) rfl (fun ls hl => ?_)
    obtain ⟨v_11, e_⟩ : ∃ y : Int32, y = (x3 + (1 : Int32)) := ⟨_, rfl⟩
    replace hf := lt_to e_ hf
    refine lv_iinc (v := v_11) (lv' := [(3, .int v_11), (2, .int v_10), (0, .ref (a_tn 0)), (1, .int x1), (4, .int x4)]) hx hb dX12_laysRing_116 hl (k := 3) rfl (by rw [e_]; rfl) (by decide) rfl (fun ls hl => ?_)
    clear e_
    refine lv_goto (tgt := 4) hx hb dX12_laysRing_119 (by decide) ?_
    exact hk4 x1 v_10 v_11 tn_8 _ _ _ (lv_sub hl [2, 3, 1, 0] rfl) hI hf
  have L_13 : ∀ (x1 : Int32) (x2 : Int32) (x3 : Int32) (tn : TnS) (k4 : (Int32) → (Int32) → (Int32) → (TnS) → Option ((TnS))) (H : Heap) (locs : List Loc) (ls : Array Slot), lv_has ls 5 [(0, .ref (a_tn 0)), (1, .int x1), (2, .int x2), (3, .int x3)] → In g A s.heap s (wTn g a_tn tn ++ []) H locs → f_X12_laysRing_L13 x1 x2 x3 tn k4 = some (o_tn) → (∀ (x1 : Int32) (x2 : Int32) (x3 : Int32) (tn : TnS) (H : Heap) (locs : List Loc) (ls : Array Slot), lv_has ls 5 [(0, .ref (a_tn 0)), (1, .int x1), (2, .int x2), (3, .int x3)] → In g A s.heap s (wTn g a_tn tn ++ []) H locs → k4 x1 x2 x3 tn = some (o_tn) → W p l e rm_X12_laysRing s m args below meth c H locs 0 0 Q (F0 m 4 ls [])) → W p l e rm_X12_laysRing s m args below meth c H locs 0 0 Q (F0 m 13 ls []) := by
    intro x1 x2 x3 tn k4 H locs ls hl hI hf hk4
    unfold f_X12_laysRing_L13 at hf
    refine lv_aload_n hx hb dX12_laysRing_13 rfl (lv_at hl 0 rfl) ?_
    refine g_Tn_linkOf X hI has_Tn.l (X.fl w_1753) dX12_laysRing_14 ?_
    refine lv_iload_n hx hb dX12_laysRing_17 rfl (lv_at hl 2 rfl) ?_
    obtain ⟨h_, hf⟩ := ck_someM hf
    refine ld_I X hI has_Tn_linkOf.l h_ dX12_laysRing_18 ?_
    refine lv_topi (fun v_2 e_ => ?_)
    replace hf := lt_to e_ hf
    clear e_
    refine lv_istore (lv' := [(4, .int v_2), (0, .ref (a_tn 0)), (1, .int x1), (2, .int x2), (3, .int x3)]) hx hb dX12_laysRing_19 hl (by decide) rfl (fun ls hl => ?_)
    refine lv_aload_n hx hb dX12_laysRing_21 rfl (lv_at hl 1 rfl) ?_
    refine g_Tn_ringOf X hI has_Tn.l (X.fl w_1773) dX12_laysRing_22 ?_
    refine lv_iload_n hx hb dX12_laysRing_25 rfl (lv_at hl 3 rfl) ?_
    refine lv_iconst (v := 2) hx hb dX12_laysRing_26 (by decide) ?_
    refine lv_idiv hx hb dX12_laysRing_27 (by decide) ?_
    refine lv_aload_n hx hb dX12_laysRing_28 rfl (lv_at hl 1 rfl) ?_
    refine g_Tn_rings X hI has_Tn.l (X.fl w_1738) dX12_laysRing_29 ?_
    obtain ⟨h_, hf⟩ := ck_someM hf
    refine st_I X hI up_Tn_ringOf.l h_ dX12_laysRing_32 (fun H locs hI => ?_)
    generalize hz_ : (Tn_ringOf' tn (upd (Tn_ringOf tn) (Int32.toNatClampNeg (x2 / (2 : Int32))) (Tn_rings tn))) = tn_3 at hI hf
    clear hz_
    replace hf := lt_e hf
    refine lv_aload_n hx hb dX12_laysRing_33 rfl (lv_at hl 1 rfl) ?_
    refine g_Tn_member X hI has_Tn.l (X.fl w_1779) dX12_laysRing_34 ?_
    refine lv_bipush (v := 8) hx hb dX12_laysRing_37 (by decide) ?_
    refine lv_aload_n hx hb dX12_laysRing_39 rfl (lv_at hl 1 rfl) ?_
    refine g_Tn_rings X hI has_Tn.l (X.fl w_1738) dX12_laysRing_40 ?_
    refine lv_imul hx hb dX12_laysRing_43 ?_
    refine lv_iload_n hx hb dX12_laysRing_44 rfl (lv_at hl 4 rfl) ?_
    refine lv_iadd hx hb dX12_laysRing_45 ?_
    refine lv_iload_n hx hb dX12_laysRing_46 rfl (lv_at hl 3 rfl) ?_
    refine lv_iconst (v := 2) hx hb dX12_laysRing_47 (by decide) ?_
    refine lv_idiv hx hb dX12_laysRing_48 (by decide) ?_
    obtain ⟨h_, hf⟩ := ck_someM hf
    refine st_I X hI up_Tn_member.l h_ dX12_laysRing_49 (fun H locs hI => ?_)
    generalize hz_ : (Tn_member' tn_3 (upd (Tn_member tn_3) (Int32.toNatClampNeg (((8 : Int32) * (Tn_rings tn_3)) + x3)) (x2 / (2 : Int32)))) = tn_4 at hI hf
    clear hz_
    replace hf := lt_e hf
    refine lv_aload_n hx hb dX12_laysRing_50 rfl (lv_at hl 1 rfl) ?_
    refine g_Tn_linkRing X hI has_Tn.l (X.fl w_1775) dX12_laysRing_51 ?_
    refine lv_iload hx hb dX12_laysRing_54 (lv_at hl 0 rfl) ?_
    refine lv_aload_n hx hb dX12_laysRing_56 rfl (lv_at hl 1 rfl) ?_
    refine g_Tn_rings X hI has_Tn.l (X.fl w_1738) dX12_laysRing_57 ?_
    obtain ⟨h_, hf⟩ := ck_someM hf
    refine st_I X hI up_Tn_linkRing.l h_ dX12_laysRing_60 (fun H locs hI => ?_)
    generalize hz_ : (Tn_linkRing' tn_4 (upd (Tn_linkRing tn_4) (Int32.toNatClampNeg v_2) (Tn_rings tn_4))) = tn_5 at hI hf
    clear hz_
    replace hf := lt_e hf
    refine lv_aload_n hx hb dX12_laysRing_61 rfl (lv_at hl 1 rfl) ?_
    refine g_Tn_linkRow X hI has_Tn.l (X.fl w_1777) dX12_laysRing_62 ?_
    refine lv_iload hx hb dX12_laysRing_65 (lv_at hl 0 rfl) ?_
    refine lv_iload_n hx hb dX12_laysRing_67 rfl (lv_at hl 4 rfl) ?_
    obtain ⟨h_, hf⟩ := ck_someM hf
    refine st_I X hI up_Tn_linkRow.l h_ dX12_laysRing_68 (fun H locs hI => ?_)
    generalize hz_ : (Tn_linkRow' tn_5 (upd (Tn_linkRow tn_5) (Int32.toNatClampNeg v_2) x3)) = tn_6 at hI hf
    clear hz_
    replace hf := lt_e hf
    refine lv_aload_n hx hb dX12_laysRing_69 rfl (lv_at hl 1 rfl) ?_
    refine g_Tn_along X hI has_Tn.l (X.fl w_1783) dX12_laysRing_70 ?_
    refine lv_iload hx hb dX12_laysRing_73 (lv_at hl 0 rfl) ?_
    refine lv_iconst (v := 2) hx hb dX12_laysRing_75 (by decide) ?_
    refine lv_aload_n hx hb dX12_laysRing_76 rfl (lv_at hl 1 rfl) ?_
    refine g_Tn_one X hI has_Tn.l (X.fl w_1745) dX12_laysRing_77 ?_
    refine lv_iload hx hb dX12_laysRing_80 (lv_at hl 0 rfl) ?_
    obtain ⟨h_, hf⟩ := ck_someM hf
    refine ld_I X hI has_Tn_one.l h_ dX12_laysRing_82 ?_
    refine lv_imul hx hb dX12_laysRing_83 ?_
    refine lv_aload_n hx hb dX12_laysRing_84 rfl (lv_at hl 1 rfl) ?_
    refine g_Tn_oneHand X hI has_Tn.l (X.fl w_1747) dX12_laysRing_85 ?_
    refine lv_iload hx hb dX12_laysRing_88 (lv_at hl 0 rfl) ?_
    obtain ⟨h_, hf⟩ := ck_someM hf
    refine ld_I X hI has_Tn_oneHand.l h_ dX12_laysRing_90 ?_
    refine lv_iadd hx hb dX12_laysRing_91 ?_
    refine lv_iload_n hx hb dX12_laysRing_92 rfl (lv_at hl 3 rfl) ?_
    refine lv_icmp_ne (tgt := 100) hx hb dX12_laysRing_93 (by decide) (fun h_ => ?_) (fun h_ => ?_)
    · replace hf := if_f h_ hf
      refine lv_iconst (v := 0) hx hb dX12_laysRing_100 (by decide) ?_
      exact L_101 x1 x2 x3 v_2 v_2 (0 : Int32) tn_6 _ _ _ _ (lv_sub hl [1, 2, 3, 4, 0] rfl) hI hf hk4
    · replace hf := if_t h_ hf
      refine lv_iconst (v := 1) hx hb dX12_laysRing_96 (by decide) ?_
      refine lv_goto (tgt := 101) hx hb dX12_laysRing_97 (by decide) ?_
      exact L_101 x1 x2 x3 v_2 v_2 (1 : Int32) tn_6 _ _ _ _ (lv_sub hl [1, 2, 3, 4, 0] rfl) hI hf hk4
  have L_4 : ∀ (n_ : Nat) (x1 : Int32) (x2 : Int32) (x3 : Int32) (tn : TnS) (H : Heap) (locs : List Loc) (ls : Array Slot), lv_has ls 5 [(0, .ref (a_tn 0)), (1, .int x1), (2, .int x2), (3, .int x3)] → In g A s.heap s (wTn g a_tn tn ++ []) H locs → f_X12_laysRing_L4 n_ x1 x2 x3 tn = some (o_tn) → W p l e rm_X12_laysRing s m args below meth c H locs 0 0 Q (F0 m 4 ls []) := by
    intro n_
    induction n_ with
    | zero =>
      intro x1 x2 x3 tn H locs ls hl hI hf
      rw [f_X12_laysRing_L4] at hf
      cases hf
    | succ n_ ih =>
      intro x1 x2 x3 tn H locs ls hl hI hf
      rw [f_X12_laysRing_L4] at hf
      refine lv_iload_n hx hb dX12_laysRing_4 rfl (lv_at hl 3 rfl) ?_
      refine lv_if_eq (tgt := 13) hx hb dX12_laysRing_5 (by decide) (fun h_ => ?_) (fun h_ => ?_)
      · replace hf := if_t h_ hf
        exact L_13 x1 x2 x3 tn _ _ _ _ hl hI hf (fun z_0 z_1 z_2 z_3 _ _ _ hl hI hf => ih z_0 z_1 z_2 z_3 _ _ _ hl hI hf)
      · replace hf := if_f h_ hf
        refine lv_iload_n hx hb dX12_laysRing_8 rfl (lv_at hl 2 rfl) ?_
        refine lv_iload_n hx hb dX12_laysRing_9 rfl (lv_at hl 1 rfl) ?_
        refine lv_icmp_eq (tgt := 122) hx hb dX12_laysRing_10 (by decide) (fun h_ => ?_) (fun h_ => ?_)
        · replace hf := if_t h_ hf
          refine lv_aload_n hx hb dX12_laysRing_122 rfl (lv_at hl 0 rfl) ?_
          refine g_Tn_size X hI has_Tn.l (X.fl w_1781) dX12_laysRing_123 ?_
          refine lv_aload_n hx hb dX12_laysRing_126 rfl (lv_at hl 0 rfl) ?_
          refine g_Tn_rings X hI has_Tn.l (X.fl w_1738) dX12_laysRing_127 ?_
          refine lv_iload_n hx hb dX12_laysRing_130 rfl (lv_at hl 3 rfl) ?_
          obtain ⟨h_, hf⟩ := ck_someM hf
          refine st_I X hI up_Tn_size.l h_ dX12_laysRing_131 (fun H locs hI => ?_)
          generalize hz_ : (Tn_size' tn (upd (Tn_size tn) (Int32.toNatClampNeg (Tn_rings tn)) x3)) = tn_1 at hI hf
          clear hz_
          replace hf := lt_e hf
          cases hf
          exact end_v hQ hA X hI dX12_laysRing_132
        · replace hf := if_f h_ hf
          exact L_13 x1 x2 x3 tn _ _ _ _ hl hI hf (fun z_0 z_1 z_2 z_3 _ _ _ hl hI hf => ih z_0 z_1 z_2 z_3 _ _ _ hl hI hf)
  unfold f_X12_laysRing at hf
  refine lv_iload_n hx hb dX12_laysRing_0 rfl (lv_at hl 1 rfl) ?_
  refine lv_istore_n (lv' := [(2, .int p1), (0, .ref (a_tn 0)), (1, .int p1)]) hx hb dX12_laysRing_1 rfl hl (by decide) rfl (fun ls hl => ?_)
  refine lv_iconst (v := 0) hx hb dX12_laysRing_2 (by decide) ?_
  refine lv_istore_n (lv' := [(3, .int (0 : Int32)), (2, .int p1), (0, .ref (a_tn 0)), (1, .int p1)]) hx hb dX12_laysRing_3 rfl hl (by decide) rfl (fun ls hl => ?_)
  exact L_4 FU p1 p1 (0 : Int32) tn _ _ _ (lv_sub hl [2, 3, 1, 0] rfl) hI hf
abbrev rm_X12_laysRings : Room := { frames := 3, cells := 0, slots := 0, locals := 70 }
set_option maxRecDepth 20000 in
theorem c_X12_laysRings (l : Launch) (g : GT) (a_tn : Nat → Nat) (tn : TnS) (o_tn : TnS) (hf : f_X12_laysRings tn = some (o_tn)) : CV l yX12_laysRings cX12_laysRings 2 none rm_X12_laysRings g [.ref (a_tn 0)] (wTn g a_tn tn ++ []) (wTn g a_tn o_tn ++ []) := by
  refine start2 (y := yX12_laysRings) (cc := cX12_laysRings) (n := 2) (av := [.ref (a_tn 0)]) (ws := (wTn g a_tn tn ++ [])) (Qc := fun sz => QV g (wTn g a_tn tn ++ []) (wTn g a_tn o_tn ++ []) sz) (by decide) rfl ?_
  intro p e s m args below meth c ls Q A ha hQ hA X hl hI hin
  have X : Cx p s m args meth c cX12_laysRings 2 RX12 none := X
  have hl : lv_has ls 2 [(0, .ref (a_tn 0))] := hl
  obtain ⟨hx, hb, hml, hown, ht, hr, hlk⟩ := id X
  clear ha hin
  have L_63 : ∀ (x1 : Int32) (tn : TnS) (k25 : (Int32) → (TnS) → Option ((TnS))) (H : Heap) (locs : List Loc) (ls : Array Slot), lv_has ls 2 [(0, .ref (a_tn 0)), (1, .int x1)] → In g A s.heap s (wTn g a_tn tn ++ []) H locs → f_X12_laysRings_L63 x1 tn k25 = some (o_tn) → (∀ (x1 : Int32) (tn : TnS) (H : Heap) (locs : List Loc) (ls : Array Slot), lv_has ls 2 [(0, .ref (a_tn 0)), (1, .int x1)] → In g A s.heap s (wTn g a_tn tn ++ []) H locs → k25 x1 tn = some (o_tn) → W p l e rm_X12_laysRings s m args below meth c H locs 0 0 Q (F0 m 25 ls [])) → W p l e rm_X12_laysRings s m args below meth c H locs 0 0 Q (F0 m 63 ls []) := by
    intro x1 tn k25 H locs ls hl hI hf hk25
    unfold f_X12_laysRings_L63 at hf
    obtain ⟨v_5, e_⟩ : ∃ y : Int32, y = (x1 + (1 : Int32)) := ⟨_, rfl⟩
    replace hf := lt_to e_ hf
    refine lv_iinc (v := v_5) (lv' := [(1, .int v_5), (0, .ref (a_tn 0))]) hx hb dX12_laysRings_63 hl (k := 1) rfl (by rw [e_]; rfl) (by decide) rfl (fun ls hl => ?_)
    clear e_
    refine lv_goto (tgt := 25) hx hb dX12_laysRings_66 (by decide) ?_
    exact hk25 v_5 tn _ _ _ (lv_sub hl [1, 0] rfl) hI hf
  have L_25 : ∀ (n_ : Nat) (x1 : Int32) (tn : TnS) (H : Heap) (locs : List Loc) (ls : Array Slot), lv_has ls 2 [(0, .ref (a_tn 0)), (1, .int x1)] → In g A s.heap s (wTn g a_tn tn ++ []) H locs → f_X12_laysRings_L25 n_ x1 tn = some (o_tn) → W p l e rm_X12_laysRings s m args below meth c H locs 0 0 Q (F0 m 25 ls []) := by
    intro n_
    induction n_ with
    | zero =>
      intro x1 tn H locs ls hl hI hf
      rw [f_X12_laysRings_L25] at hf
      cases hf
    | succ n_ ih =>
      intro x1 tn H locs ls hl hI hf
      rw [f_X12_laysRings_L25] at hf
      refine lv_iload_n hx hb dX12_laysRings_25 rfl (lv_at hl 1 rfl) ?_
      refine lv_aload_n hx hb dX12_laysRings_26 rfl (lv_at hl 0 rfl) ?_
      refine g_Tn_people X hI has_Tn.l (X.fl w_1731) dX12_laysRings_27 ?_
      refine lv_icmp_ge (tgt := 69) hx hb dX12_laysRings_30 (by decide) (fun h_ => ?_) (fun h_ => ?_)
      · replace hf := if_t h_ hf
        cases hf
        exact end_v hQ hA X hI dX12_laysRings_69
      · replace hf := if_f h_ hf
        refine lv_aload_n hx hb dX12_laysRings_33 rfl (lv_at hl 0 rfl) ?_
        refine g_Tn_ringOf X hI has_Tn.l (X.fl w_1773) dX12_laysRings_34 ?_
        refine lv_iload_n hx hb dX12_laysRings_37 rfl (lv_at hl 1 rfl) ?_
        obtain ⟨h_, hf⟩ := ck_someM hf
        refine ld_I X hI has_Tn_ringOf.l h_ dX12_laysRings_38 ?_
        refine lv_iconst (v := (-1)) hx hb dX12_laysRings_39 (by decide) ?_
        refine lv_icmp_eq (tgt := 46) hx hb dX12_laysRings_40 (by decide) (fun h_ => ?_) (fun h_ => ?_)
        · replace hf := if_t h_ hf
          refine lv_aload_n hx hb dX12_laysRings_46 rfl (lv_at hl 0 rfl) ?_
          refine lv_iconst (v := 2) hx hb dX12_laysRings_47 (by decide) ?_
          refine lv_iload_n hx hb dX12_laysRings_48 rfl (lv_at hl 1 rfl) ?_
          refine lv_imul hx hb dX12_laysRings_49 ?_
          obtain ⟨tn_3, hc_, hf⟩ := bd1_some hf
          refine call_Vv X hI (Cj.keep Cj.id) (c_X12_laysRing l g a_tn tn ((2 : Int32) * x1) tn_3 hc_) ⟨rfl, rfl⟩ ⟨ht _ w_1982, w_1985, ht _ w_159, lk_X12_laysRing⟩ w_1984 w_89 rfl rfl rfl hl rfl rfl dX12_laysRings_50 rfl rfl rfl rfl (fun H locs hI => ?_)
          refine lv_aload_n hx hb dX12_laysRings_53 rfl (lv_at hl 0 rfl) ?_
          refine lv_dup hx hb dX12_laysRings_54 rfl ?_
          refine g_Tn_rings X hI has_Tn.l (X.fl w_1738) dX12_laysRings_55 ?_
          refine lv_iconst (v := 1) hx hb dX12_laysRings_58 (by decide) ?_
          refine lv_iadd hx hb dX12_laysRings_59 ?_
          refine p_Tn_rings X hI up_Tn_rings.l (X.fl w_1738) dX12_laysRings_60 (fun H locs hI => ?_)
          generalize hz_ : (Tn_rings' tn_3 ((Tn_rings tn_3) + (1 : Int32))) = tn_4 at hI hf
          clear hz_
          replace hf := lt_e hf
          exact L_63 x1 tn_4 _ _ _ _ hl hI hf (fun z_0 z_1 _ _ _ hl hI hf => ih z_0 z_1 _ _ _ hl hI hf)
        · replace hf := if_f h_ hf
          refine lv_goto (tgt := 63) hx hb dX12_laysRings_43 (by decide) ?_
          exact L_63 x1 tn _ _ _ _ hl hI hf (fun z_0 z_1 _ _ _ hl hI hf => ih z_0 z_1 _ _ _ hl hI hf)
  have L_2 : ∀ (n_ : Nat) (x1 : Int32) (tn : TnS) (H : Heap) (locs : List Loc) (ls : Array Slot), lv_has ls 2 [(0, .ref (a_tn 0)), (1, .int x1)] → In g A s.heap s (wTn g a_tn tn ++ []) H locs → f_X12_laysRings_L2 n_ x1 tn = some (o_tn) → W p l e rm_X12_laysRings s m args below meth c H locs 0 0 Q (F0 m 2 ls []) := by
    intro n_
    induction n_ with
    | zero =>
      intro x1 tn H locs ls hl hI hf
      rw [f_X12_laysRings_L2] at hf
      cases hf
    | succ n_ ih =>
      intro x1 tn H locs ls hl hI hf
      rw [f_X12_laysRings_L2] at hf
      refine lv_iload_n hx hb dX12_laysRings_2 rfl (lv_at hl 1 rfl) ?_
      refine lv_aload_n hx hb dX12_laysRings_3 rfl (lv_at hl 0 rfl) ?_
      refine g_Tn_people X hI has_Tn.l (X.fl w_1731) dX12_laysRings_4 ?_
      refine lv_icmp_ge (tgt := 23) hx hb dX12_laysRings_7 (by decide) (fun h_ => ?_) (fun h_ => ?_)
      · replace hf := if_t h_ hf
        refine lv_iconst (v := 0) hx hb dX12_laysRings_23 (by decide) ?_
        refine lv_istore_n (lv' := [(1, .int (0 : Int32)), (0, .ref (a_tn 0))]) hx hb dX12_laysRings_24 rfl hl (by decide) rfl (fun ls hl => ?_)
        exact L_25 FU (0 : Int32) tn _ _ _ (lv_sub hl [1, 0] rfl) hI hf
      · replace hf := if_f h_ hf
        refine lv_aload_n hx hb dX12_laysRings_10 rfl (lv_at hl 0 rfl) ?_
        refine g_Tn_ringOf X hI has_Tn.l (X.fl w_1773) dX12_laysRings_11 ?_
        refine lv_iload_n hx hb dX12_laysRings_14 rfl (lv_at hl 1 rfl) ?_
        refine lv_iconst (v := (-1)) hx hb dX12_laysRings_15 (by decide) ?_
        obtain ⟨h_, hf⟩ := ck_someM hf
        refine st_I X hI up_Tn_ringOf.l h_ dX12_laysRings_16 (fun H locs hI => ?_)
        generalize hz_ : (Tn_ringOf' tn (upd (Tn_ringOf tn) (Int32.toNatClampNeg x1) (-1 : Int32))) = tn_1 at hI hf
        clear hz_
        replace hf := lt_e hf
        obtain ⟨v_2, e_⟩ : ∃ y : Int32, y = (x1 + (1 : Int32)) := ⟨_, rfl⟩
        replace hf := lt_to e_ hf
        refine lv_iinc (v := v_2) (lv' := [(1, .int v_2), (0, .ref (a_tn 0))]) hx hb dX12_laysRings_17 hl (k := 1) rfl (by rw [e_]; rfl) (by decide) rfl (fun ls hl => ?_)
        clear e_
        refine lv_goto (tgt := 2) hx hb dX12_laysRings_20 (by decide) ?_
        exact ih v_2 tn_1 _ _ _ (lv_sub hl [1, 0] rfl) hI hf
  unfold f_X12_laysRings at hf
  refine lv_iconst (v := 0) hx hb dX12_laysRings_0 (by decide) ?_
  refine lv_istore_n (lv' := [(1, .int (0 : Int32)), (0, .ref (a_tn 0))]) hx hb dX12_laysRings_1 rfl hl (by decide) rfl (fun ls hl => ?_)
  exact L_2 FU (0 : Int32) tn _ _ _ (lv_sub hl [1, 0] rfl) hI hf
abbrev rm_X12_signOf : Room := { frames := 0, cells := 0, slots := 0, locals := 0 }
set_option maxRecDepth 20000 in
theorem c_X12_signOf (l : Launch) (g : GT) (a_tn : Nat → Nat) (tn : TnS) (p1 : Int32) (p2 : Int32) (r_ : Int32) (hf : f_X12_signOf tn p1 p2 = some (r_)) : CI l yX12_signOf cX12_signOf 3 (some .int) rm_X12_signOf g [.ref (a_tn 0), .int p1, .int p2] (wTn g a_tn tn ++ []) (wTn g a_tn tn ++ []) r_ := by
  refine start2 (y := yX12_signOf) (cc := cX12_signOf) (n := 3) (av := [.ref (a_tn 0), .int p1, .int p2]) (ws := (wTn g a_tn tn ++ [])) (Qc := fun sz => QI g (wTn g a_tn tn ++ []) (wTn g a_tn tn ++ []) r_ sz) (by decide) rfl ?_
  intro p e s m args below meth c ls Q A ha hQ hA X hl hI hin
  have X : Cx p s m args meth c cX12_signOf 3 RX12 (some .int) := X
  have hl : lv_has ls 3 [(0, .ref (a_tn 0)), (1, .int p1), (2, .int p2)] := hl
  obtain ⟨hx, hb, hml, hown, ht, hr, hlk⟩ := id X
  clear ha hin
  have L_43 : ∀ (x1 : Int32) (t0i : Int32) (t1i : Int32) (H : Heap) (locs : List Loc) (ls : Array Slot), lv_has ls 3 [(0, .ref (a_tn 0)), (1, .int x1)] → In g A s.heap s (wTn g a_tn tn ++ []) H locs → f_X12_signOf_L43 x1 t0i t1i tn = some (r_) → W p l e rm_X12_signOf s m args below meth c H locs 0 0 Q (F0 m 43 ls [.int t1i, .int t0i]) := by
    intro x1 t0i t1i H locs ls hl hI hf
    unfold f_X12_signOf_L43 at hf
    refine lv_icmp_ne (tgt := 55) hx hb dX12_signOf_43 (by decide) (fun h_ => ?_) (fun h_ => ?_)
    · replace hf := if_f h_ hf
      refine lv_aload_n hx hb dX12_signOf_55 rfl (lv_at hl 0 rfl) ?_
      refine g_Tn_sign X hI has_Tn.l (X.fl w_1763) dX12_signOf_56 ?_
      refine lv_iload_n hx hb dX12_signOf_59 rfl (lv_at hl 1 rfl) ?_
      obtain ⟨h_, hf⟩ := ck_someM hf
      refine ld_I X hI has_Tn_sign.l h_ dX12_signOf_60 ?_
      refine lv_ineg hx hb dX12_signOf_61 ?_
      cases hf
      exact end_i hQ hA X hI dX12_signOf_62
    · replace hf := if_t h_ hf
      refine lv_aload_n hx hb dX12_signOf_46 rfl (lv_at hl 0 rfl) ?_
      refine g_Tn_sign X hI has_Tn.l (X.fl w_1763) dX12_signOf_47 ?_
      refine lv_iload_n hx hb dX12_signOf_50 rfl (lv_at hl 1 rfl) ?_
      obtain ⟨h_, hf⟩ := ck_someM hf
      refine ld_I X hI has_Tn_sign.l h_ dX12_signOf_51 ?_
      refine lv_goto (tgt := 62) hx hb dX12_signOf_52 (by decide) ?_
      cases hf
      exact end_i hQ hA X hI dX12_signOf_62
  have L_30 : ∀ (x1 : Int32) (x2 : Int32) (t0i : Int32) (H : Heap) (locs : List Loc) (ls : Array Slot), lv_has ls 3 [(0, .ref (a_tn 0)), (1, .int x1), (2, .int x2)] → In g A s.heap s (wTn g a_tn tn ++ []) H locs → f_X12_signOf_L30 x1 x2 t0i tn = some (r_) → W p l e rm_X12_signOf s m args below meth c H locs 0 0 Q (F0 m 30 ls [.int t0i]) := by
    intro x1 x2 t0i H locs ls hl hI hf
    unfold f_X12_signOf_L30 at hf
    refine lv_iload_n hx hb dX12_signOf_30 rfl (lv_at hl 2 rfl) ?_
    refine lv_iload_n hx hb dX12_signOf_31 rfl (lv_at hl 1 rfl) ?_
    refine lv_ishr hx hb dX12_signOf_32 ?_
    refine lv_iconst (v := 1) hx hb dX12_signOf_33 (by decide) ?_
    refine lv_iand hx hb dX12_signOf_34 ?_
    refine lv_if_ne (tgt := 42) hx hb dX12_signOf_35 (by decide) (fun h_ => ?_) (fun h_ => ?_)
    · replace hf := if_f h_ hf
      refine lv_iconst (v := 0) hx hb dX12_signOf_42 (by decide) ?_
      exact L_43 x1 t0i (0 : Int32) _ _ _ (lv_sub hl [0, 1] rfl) hI hf
    · replace hf := if_t h_ hf
      refine lv_iconst (v := 1) hx hb dX12_signOf_38 (by decide) ?_
      refine lv_goto (tgt := 43) hx hb dX12_signOf_39 (by decide) ?_
      exact L_43 x1 t0i (1 : Int32) _ _ _ (lv_sub hl [0, 1] rfl) hI hf
  unfold f_X12_signOf at hf
  refine lv_aload_n hx hb dX12_signOf_0 rfl (lv_at hl 0 rfl) ?_
  refine g_Tn_along X hI has_Tn.l (X.fl w_1783) dX12_signOf_1 ?_
  refine lv_aload_n hx hb dX12_signOf_4 rfl (lv_at hl 0 rfl) ?_
  refine g_Tn_over X hI has_Tn.l (X.fl w_1755) dX12_signOf_5 ?_
  refine lv_iload_n hx hb dX12_signOf_8 rfl (lv_at hl 1 rfl) ?_
  obtain ⟨h_, hf⟩ := ck_someM hf
  refine ld_I X hI has_Tn_over.l h_ dX12_signOf_9 ?_
  obtain ⟨h_, hf⟩ := ck_someM hf
  refine ld_Z X hI has_Tn_along.l h_ dX12_signOf_10 ?_
  refine lv_aload_n hx hb dX12_signOf_11 rfl (lv_at hl 0 rfl) ?_
  refine g_Tn_along X hI has_Tn.l (X.fl w_1783) dX12_signOf_12 ?_
  refine lv_aload_n hx hb dX12_signOf_15 rfl (lv_at hl 0 rfl) ?_
  refine g_Tn_under X hI has_Tn.l (X.fl w_1759) dX12_signOf_16 ?_
  refine lv_iload_n hx hb dX12_signOf_19 rfl (lv_at hl 1 rfl) ?_
  obtain ⟨h_, hf⟩ := ck_someM hf
  refine ld_I X hI has_Tn_under.l h_ dX12_signOf_20 ?_
  obtain ⟨h_, hf⟩ := ck_someM hf
  refine ld_Z X hI has_Tn_along.l h_ dX12_signOf_21 ?_
  refine lv_icmp_ne (tgt := 29) hx hb dX12_signOf_22 (by decide) (fun h_ => ?_) (fun h_ => ?_)
  · replace hf := if_f h_ hf
    refine lv_iconst (v := 0) hx hb dX12_signOf_29 (by decide) ?_
    exact L_30 p1 p2 (0 : Int32) _ _ _ hl hI hf
  · replace hf := if_t h_ hf
    refine lv_iconst (v := 1) hx hb dX12_signOf_25 (by decide) ?_
    refine lv_goto (tgt := 30) hx hb dX12_signOf_26 (by decide) ?_
    exact L_30 p1 p2 (1 : Int32) _ _ _ hl hI hf
