abbrev rm_X5_isFaulty : Room := { frames := 0, cells := 0, slots := 0, locals := 0 }
set_option maxRecDepth 20000 in
theorem c_X5_isFaulty (l : Launch) (g : GT) (a_re : Nat → Nat) (a_ta : Nat → Nat) (q_re_told : Nat) (re : ReS) (ta : TaS) (p1 : Int32) (r_ : Int32) (o_re : ReS) (hf : f_X5_isFaulty re ta p1 = some (r_, o_re)) : CI l yX5_isFaulty cX5_isFaulty 2 (some .boolean) rm_X5_isFaulty g [.ref (a_re 0), .int p1] (wRe g a_re (a_ta 0) q_re_told re ++ (wTa g a_ta ta ++ [])) (wRe g a_re (a_ta 0) q_re_told o_re ++ (wTa g a_ta ta ++ [])) r_ := by
  refine start2 (y := yX5_isFaulty) (cc := cX5_isFaulty) (n := 2) (av := [.ref (a_re 0), .int p1]) (ws := (wRe g a_re (a_ta 0) q_re_told re ++ (wTa g a_ta ta ++ []))) (Qc := fun sz => QI g (wRe g a_re (a_ta 0) q_re_told re ++ (wTa g a_ta ta ++ [])) (wRe g a_re (a_ta 0) q_re_told o_re ++ (wTa g a_ta ta ++ [])) r_ sz) (by decide) rfl ?_
  intro p e s m args below meth c ls Q A ha hQ hA X hl hI hin
  have X : Cx p s m args meth c cX5_isFaulty 2 RX5 (some .boolean) := X
  have hl : lv_has ls 2 [(0, .ref (a_re 0)), (1, .int p1)] := hl
  obtain ⟨hx, hb, hml, hown, ht, hr, hlk⟩ := id X
  clear ha hin
  unfold f_X5_isFaulty at hf
  refine lv_aload_n hx hb dX5_isFaulty_0 rfl (lv_at hl 0 rfl) ?_
  refine lv_iload_n hx hb dX5_isFaulty_1 rfl (lv_at hl 1 rfl) ?_
  refine p_Re_fault X hI up_Re_fault.l (X.fl w_356) dX5_isFaulty_2 (fun H locs hI => ?_)
  generalize hz_ : (Re_fault' re p1) = re_1 at hI hf
  clear hz_
  replace hf := lt_e hf
  refine lv_aload_n hx hb dX5_isFaulty_5 rfl (lv_at hl 0 rfl) ?_
  refine lv_aload_n hx hb dX5_isFaulty_6 rfl (lv_at hl 0 rfl) ?_
  refine g_Re_tape X hI has_Re.l (X.fl w_352) dX5_isFaulty_7 ?_
  refine g_Ta_starts X hI has_Ta.l.r (hI.fn (List.mem_of_getElem? (i := 2) rfl)) dX5_isFaulty_10 ?_
  refine lv_aload_n hx hb dX5_isFaulty_13 rfl (lv_at hl 0 rfl) ?_
  refine g_Re_token X hI has_Re.l (X.fl w_360) dX5_isFaulty_14 ?_
  obtain ⟨h_, hf⟩ := ck_someM hf
  refine ld_I X hI has_Ta_starts.l.r h_ dX5_isFaulty_17 ?_
  refine p_Re_place X hI up_Re_place.l (X.fl w_358) dX5_isFaulty_18 (fun H locs hI => ?_)
  generalize hz_ : (Re_place' re_1 (Ta_starts ta (Int32.toNatClampNeg (Re_token re_1)))) = re_2 at hI hf
  clear hz_
  replace hf := lt_e hf
  refine lv_iconst (v := 0) hx hb dX5_isFaulty_21 (by decide) ?_
  cases hf
  exact end_z hQ hA X hI rfl dX5_isFaulty_22
abbrev rm_X5_advance : Room := { frames := 0, cells := 0, slots := 0, locals := 0 }
set_option maxRecDepth 20000 in
theorem c_X5_advance (l : Launch) (g : GT) (a_re : Nat → Nat) (a_ta : Nat → Nat) (q_re_told : Nat) (re : ReS) (ta : TaS) (o_re : ReS) (hf : f_X5_advance re ta = some (o_re)) : CV l yX5_advance cX5_advance 1 none rm_X5_advance g [.ref (a_re 0)] (wRe g a_re (a_ta 0) q_re_told re ++ (wTa g a_ta ta ++ [])) (wRe g a_re (a_ta 0) q_re_told o_re ++ (wTa g a_ta ta ++ [])) := by
  refine start2 (y := yX5_advance) (cc := cX5_advance) (n := 1) (av := [.ref (a_re 0)]) (ws := (wRe g a_re (a_ta 0) q_re_told re ++ (wTa g a_ta ta ++ []))) (Qc := fun sz => QV g (wRe g a_re (a_ta 0) q_re_told re ++ (wTa g a_ta ta ++ [])) (wRe g a_re (a_ta 0) q_re_told o_re ++ (wTa g a_ta ta ++ [])) sz) (by decide) rfl ?_
  intro p e s m args below meth c ls Q A ha hQ hA X hl hI hin
  have X : Cx p s m args meth c cX5_advance 1 RX5 none := X
  have hl : lv_has ls 1 [(0, .ref (a_re 0))] := hl
  obtain ⟨hx, hb, hml, hown, ht, hr, hlk⟩ := id X
  clear ha hin
  unfold f_X5_advance at hf
  refine lv_aload_n hx hb dX5_advance_0 rfl (lv_at hl 0 rfl) ?_
  refine g_Re_token X hI has_Re.l (X.fl w_360) dX5_advance_1 ?_
  refine lv_aload_n hx hb dX5_advance_4 rfl (lv_at hl 0 rfl) ?_
  refine g_Re_tape X hI has_Re.l (X.fl w_352) dX5_advance_5 ?_
  refine g_Ta_count X hI has_Ta.l.r (hI.fn (List.mem_of_getElem? (i := 5) rfl)) dX5_advance_8 ?_
  refine lv_iconst (v := 1) hx hb dX5_advance_11 (by decide) ?_
  refine lv_isub hx hb dX5_advance_12 ?_
  refine lv_icmp_ge (tgt := 26) hx hb dX5_advance_13 (by decide) (fun h_ => ?_) (fun h_ => ?_)
  · replace hf := if_t h_ hf
    cases hf
    exact end_v hQ hA X hI dX5_advance_26
  · replace hf := if_f h_ hf
    refine lv_aload_n hx hb dX5_advance_16 rfl (lv_at hl 0 rfl) ?_
    refine lv_dup hx hb dX5_advance_17 rfl ?_
    refine g_Re_token X hI has_Re.l (X.fl w_360) dX5_advance_18 ?_
    refine lv_iconst (v := 1) hx hb dX5_advance_21 (by decide) ?_
    refine lv_iadd hx hb dX5_advance_22 ?_
    refine p_Re_token X hI up_Re_token.l (X.fl w_360) dX5_advance_23 (fun H locs hI => ?_)
    generalize hz_ : (Re_token' re ((Re_token re) + (1 : Int32))) = re_1 at hI hf
    clear hz_
    replace hf := lt_e hf
    cases hf
    exact end_v hQ hA X hI dX5_advance_26
abbrev rm_X5_isWord : Room := { frames := 0, cells := 0, slots := 0, locals := 0 }
set_option maxRecDepth 20000 in
theorem c_X5_isWord (l : Launch) (g : GT) (a_re : Nat → Nat) (a_ta : Nat → Nat) (q_re_told : Nat) (re : ReS) (ta : TaS) (p1 : Int32) (r_ : Int32) (hf : f_X5_isWord re ta p1 = some (r_)) : CI l yX5_isWord cX5_isWord 2 (some .boolean) rm_X5_isWord g [.ref (a_re 0), .int p1] (wRe g a_re (a_ta 0) q_re_told re ++ (wTa g a_ta ta ++ [])) (wRe g a_re (a_ta 0) q_re_told re ++ (wTa g a_ta ta ++ [])) r_ := by
  refine start2 (y := yX5_isWord) (cc := cX5_isWord) (n := 2) (av := [.ref (a_re 0), .int p1]) (ws := (wRe g a_re (a_ta 0) q_re_told re ++ (wTa g a_ta ta ++ []))) (Qc := fun sz => QI g (wRe g a_re (a_ta 0) q_re_told re ++ (wTa g a_ta ta ++ [])) (wRe g a_re (a_ta 0) q_re_told re ++ (wTa g a_ta ta ++ [])) r_ sz) (by decide) rfl ?_
  intro p e s m args below meth c ls Q A ha hQ hA X hl hI hin
  have X : Cx p s m args meth c cX5_isWord 2 RX5 (some .boolean) := X
  have hl : lv_has ls 2 [(0, .ref (a_re 0)), (1, .int p1)] := hl
  obtain ⟨hx, hb, hml, hown, ht, hr, hlk⟩ := id X
  clear ha hin
  unfold f_X5_isWord at hf
  refine lv_aload_n hx hb dX5_isWord_0 rfl (lv_at hl 0 rfl) ?_
  refine g_Re_tape X hI has_Re.l (X.fl w_352) dX5_isWord_1 ?_
  refine g_Ta_kinds X hI has_Ta.l.r (hI.fn (List.mem_of_getElem? (i := 1) rfl)) dX5_isWord_4 ?_
  refine lv_aload_n hx hb dX5_isWord_7 rfl (lv_at hl 0 rfl) ?_
  refine g_Re_token X hI has_Re.l (X.fl w_360) dX5_isWord_8 ?_
  obtain ⟨h_, hf⟩ := ck_someM hf
  refine ld_I X hI has_Ta_kinds.l.r h_ dX5_isWord_11 ?_
  refine lv_iconst (v := 1) hx hb dX5_isWord_12 (by decide) ?_
  refine lv_icmp_ne (tgt := 36) hx hb dX5_isWord_13 (by decide) (fun h_ => ?_) (fun h_ => ?_)
  · replace hf := if_f h_ hf
    refine lv_iconst (v := 0) hx hb dX5_isWord_36 (by decide) ?_
    cases hf
    exact end_z hQ hA X hI rfl dX5_isWord_37
  · replace hf := if_t h_ hf
    refine lv_aload_n hx hb dX5_isWord_16 rfl (lv_at hl 0 rfl) ?_
    refine g_Re_tape X hI has_Re.l (X.fl w_352) dX5_isWord_17 ?_
    refine g_Ta_values X hI has_Ta.l.r (hI.fn (List.mem_of_getElem? (i := 3) rfl)) dX5_isWord_20 ?_
    refine lv_aload_n hx hb dX5_isWord_23 rfl (lv_at hl 0 rfl) ?_
    refine g_Re_token X hI has_Re.l (X.fl w_360) dX5_isWord_24 ?_
    obtain ⟨h_, hf⟩ := ck_someM hf
    refine ld_I X hI has_Ta_values.l.r h_ dX5_isWord_27 ?_
    refine lv_iload_n hx hb dX5_isWord_28 rfl (lv_at hl 1 rfl) ?_
    refine lv_icmp_ne (tgt := 36) hx hb dX5_isWord_29 (by decide) (fun h_ => ?_) (fun h_ => ?_)
    · replace hf := if_f h_ hf
      refine lv_iconst (v := 0) hx hb dX5_isWord_36 (by decide) ?_
      cases hf
      exact end_z hQ hA X hI rfl dX5_isWord_37
    · replace hf := if_t h_ hf
      refine lv_iconst (v := 1) hx hb dX5_isWord_32 (by decide) ?_
      refine lv_goto (tgt := 37) hx hb dX5_isWord_33 (by decide) ?_
      cases hf
      exact end_z hQ hA X hI rfl dX5_isWord_37
abbrev rm_X5_takesWord : Room := { frames := 1, cells := 0, slots := 0, locals := 21 }
set_option maxRecDepth 20000 in
theorem c_X5_takesWord (l : Launch) (g : GT) (a_re : Nat → Nat) (a_ta : Nat → Nat) (q_re_told : Nat) (re : ReS) (ta : TaS) (p1 : Int32) (r_ : Int32) (o_re : ReS) (hf : f_X5_takesWord re ta p1 = some (r_, o_re)) : CI l yX5_takesWord cX5_takesWord 2 (some .boolean) rm_X5_takesWord g [.ref (a_re 0), .int p1] (wRe g a_re (a_ta 0) q_re_told re ++ (wTa g a_ta ta ++ [])) (wRe g a_re (a_ta 0) q_re_told o_re ++ (wTa g a_ta ta ++ [])) r_ := by
  refine start2 (y := yX5_takesWord) (cc := cX5_takesWord) (n := 2) (av := [.ref (a_re 0), .int p1]) (ws := (wRe g a_re (a_ta 0) q_re_told re ++ (wTa g a_ta ta ++ []))) (Qc := fun sz => QI g (wRe g a_re (a_ta 0) q_re_told re ++ (wTa g a_ta ta ++ [])) (wRe g a_re (a_ta 0) q_re_told o_re ++ (wTa g a_ta ta ++ [])) r_ sz) (by decide) rfl ?_
  intro p e s m args below meth c ls Q A ha hQ hA X hl hI hin
  have X : Cx p s m args meth c cX5_takesWord 2 RX5 (some .boolean) := X
  have hl : lv_has ls 2 [(0, .ref (a_re 0)), (1, .int p1)] := hl
  obtain ⟨hx, hb, hml, hown, ht, hr, hlk⟩ := id X
  clear ha hin
  unfold f_X5_takesWord at hf
  refine lv_aload_n hx hb dX5_takesWord_0 rfl (lv_at hl 0 rfl) ?_
  obtain ⟨re_1, hc_, hf⟩ := bd1_some hf
  refine call_Vv X hI (Cj.keep (Cj.keep Cj.id)) (c_X5_advance l g a_re a_ta q_re_told re ta re_1 hc_) ⟨rfl, rfl⟩ ⟨ht _ w_781, w_784, ht _ w_140, lk_X5_advance⟩ w_783 w_7 rfl rfl rfl hl rfl rfl dX5_takesWord_1 rfl rfl rfl rfl (fun H locs hI => ?_)
  refine lv_aload_n hx hb dX5_takesWord_4 rfl (lv_at hl 0 rfl) ?_
  refine lv_iload_n hx hb dX5_takesWord_5 rfl (lv_at hl 1 rfl) ?_
  obtain ⟨r_2, hc_, hf⟩ := bd1_some hf
  refine call_Vi X hI (Cj.keep (Cj.keep Cj.id)) (c_X5_isWord l g a_re a_ta q_re_told re_1 ta p1 r_2 hc_) ⟨rfl, rfl⟩ ⟨ht _ w_785, w_788, ht _ w_140, lk_X5_isWord⟩ w_787 w_8 rfl rfl rfl hl rfl rfl dX5_takesWord_6 rfl rfl rfl rfl (fun H locs hI => ?_)
  refine lv_if_ne (tgt := 20) hx hb dX5_takesWord_9 (by decide) (fun h_ => ?_) (fun h_ => ?_)
  · replace hf := if_f h_ hf
    refine lv_iconst (v := 1) hx hb dX5_takesWord_20 (by decide) ?_
    refine lv_goto (tgt := 25) hx hb dX5_takesWord_21 (by decide) ?_
    cases hf
    exact end_z hQ hA X hI rfl dX5_takesWord_25
  · replace hf := if_t h_ hf
    refine lv_aload_n hx hb dX5_takesWord_12 rfl (lv_at hl 0 rfl) ?_
    refine lv_iconst (v := 1) hx hb dX5_takesWord_13 (by decide) ?_
    obtain ⟨r_3, re_4, hc_, hf⟩ := bd2_some hf
    refine call_Vi X hI (Cj.keep (Cj.keep Cj.id)) (c_X5_isFaulty l g a_re a_ta q_re_told re_1 ta (1 : Int32) r_3 re_4 hc_) ⟨rfl, rfl⟩ ⟨ht _ w_793, w_796, ht _ w_140, lk_X5_isFaulty⟩ w_795 w_10 rfl rfl rfl hl rfl rfl dX5_takesWord_14 rfl rfl rfl rfl (fun H locs hI => ?_)
    refine lv_if_eq (tgt := 24) hx hb dX5_takesWord_17 (by decide) (fun h_ => ?_) (fun h_ => ?_)
    · replace hf := if_t h_ hf
      refine lv_iconst (v := 0) hx hb dX5_takesWord_24 (by decide) ?_
      cases hf
      exact end_z hQ hA X hI rfl dX5_takesWord_25
    · replace hf := if_f h_ hf
      refine lv_iconst (v := 1) hx hb dX5_takesWord_20 (by decide) ?_
      refine lv_goto (tgt := 25) hx hb dX5_takesWord_21 (by decide) ?_
      cases hf
      exact end_z hQ hA X hI rfl dX5_takesWord_25
abbrev rm_X5_kind : Room := { frames := 0, cells := 0, slots := 0, locals := 0 }
set_option maxRecDepth 20000 in
theorem c_X5_kind (l : Launch) (g : GT) (a_re : Nat → Nat) (a_ta : Nat → Nat) (q_re_told : Nat) (re : ReS) (ta : TaS) (r_ : Int32) (hf : f_X5_kind re ta = some (r_)) : CI l yX5_kind cX5_kind 1 (some .int) rm_X5_kind g [.ref (a_re 0)] (wRe g a_re (a_ta 0) q_re_told re ++ (wTa g a_ta ta ++ [])) (wRe g a_re (a_ta 0) q_re_told re ++ (wTa g a_ta ta ++ [])) r_ := by
  refine start2 (y := yX5_kind) (cc := cX5_kind) (n := 1) (av := [.ref (a_re 0)]) (ws := (wRe g a_re (a_ta 0) q_re_told re ++ (wTa g a_ta ta ++ []))) (Qc := fun sz => QI g (wRe g a_re (a_ta 0) q_re_told re ++ (wTa g a_ta ta ++ [])) (wRe g a_re (a_ta 0) q_re_told re ++ (wTa g a_ta ta ++ [])) r_ sz) (by decide) rfl ?_
  intro p e s m args below meth c ls Q A ha hQ hA X hl hI hin
  have X : Cx p s m args meth c cX5_kind 1 RX5 (some .int) := X
  have hl : lv_has ls 1 [(0, .ref (a_re 0))] := hl
  obtain ⟨hx, hb, hml, hown, ht, hr, hlk⟩ := id X
  clear ha hin
  unfold f_X5_kind at hf
  refine lv_aload_n hx hb dX5_kind_0 rfl (lv_at hl 0 rfl) ?_
  refine g_Re_tape X hI has_Re.l (X.fl w_352) dX5_kind_1 ?_
  refine g_Ta_kinds X hI has_Ta.l.r (hI.fn (List.mem_of_getElem? (i := 1) rfl)) dX5_kind_4 ?_
  refine lv_aload_n hx hb dX5_kind_7 rfl (lv_at hl 0 rfl) ?_
  refine g_Re_token X hI has_Re.l (X.fl w_360) dX5_kind_8 ?_
  obtain ⟨h_, hf⟩ := ck_someM hf
  refine ld_I X hI has_Ta_kinds.l.r h_ dX5_kind_11 ?_
  cases hf
  exact end_i hQ hA X hI dX5_kind_12
abbrev rm_X5_takesWhole : Room := { frames := 1, cells := 0, slots := 0, locals := 21 }
set_option maxRecDepth 20000 in
theorem c_X5_takesWhole (l : Launch) (g : GT) (a_re : Nat → Nat) (a_ta : Nat → Nat) (q_re_told : Nat) (re : ReS) (ta : TaS) (p1 : Int32) (p2 : Int32) (r_ : Int32) (o_re : ReS) (hf : f_X5_takesWhole re ta p1 p2 = some (r_, o_re)) : CI l yX5_takesWhole cX5_takesWhole 3 (some .boolean) rm_X5_takesWhole g [.ref (a_re 0), .int p1, .int p2] (wRe g a_re (a_ta 0) q_re_told re ++ (wTa g a_ta ta ++ [])) (wRe g a_re (a_ta 0) q_re_told o_re ++ (wTa g a_ta ta ++ [])) r_ := by
  refine start2 (y := yX5_takesWhole) (cc := cX5_takesWhole) (n := 3) (av := [.ref (a_re 0), .int p1, .int p2]) (ws := (wRe g a_re (a_ta 0) q_re_told re ++ (wTa g a_ta ta ++ []))) (Qc := fun sz => QI g (wRe g a_re (a_ta 0) q_re_told re ++ (wTa g a_ta ta ++ [])) (wRe g a_re (a_ta 0) q_re_told o_re ++ (wTa g a_ta ta ++ [])) r_ sz) (by decide) rfl ?_
  intro p e s m args below meth c ls Q A ha hQ hA X hl hI hin
  have X : Cx p s m args meth c cX5_takesWhole 3 RX5 (some .boolean) := X
  have hl : lv_has ls 3 [(0, .ref (a_re 0)), (1, .int p1), (2, .int p2)] := hl
  obtain ⟨hx, hb, hml, hown, ht, hr, hlk⟩ := id X
  clear ha hin
  have L_50 : ∀ (re : ReS) (H : Heap) (locs : List Loc) (ls : Array Slot), lv_has ls 3 [(0, .ref (a_re 0))] → In g A s.heap s (wRe g a_re (a_ta 0) q_re_told re ++ (wTa g a_ta ta ++ [])) H locs → f_X5_takesWhole_L50 re ta = some (r_, o_re) → W p l e rm_X5_takesWhole s m args below meth c H locs 0 0 Q (F0 m 50 ls []) := by
    intro re H locs ls hl hI hf
    unfold f_X5_takesWhole_L50 at hf
    refine lv_aload_n hx hb dX5_takesWhole_50 rfl (lv_at hl 0 rfl) ?_
    refine lv_iconst (v := 4) hx hb dX5_takesWhole_51 (by decide) ?_
    obtain ⟨r_6, re_7, hc_, hf⟩ := bd2_some hf
    refine call_Vi X hI (Cj.keep (Cj.keep Cj.id)) (c_X5_isFaulty l g a_re a_ta q_re_told re ta (4 : Int32) r_6 re_7 hc_) ⟨rfl, rfl⟩ ⟨ht _ w_793, w_796, ht _ w_140, lk_X5_isFaulty⟩ w_795 w_10 rfl rfl rfl hl rfl rfl dX5_takesWhole_52 rfl rfl rfl rfl (fun H locs hI => ?_)
    refine lv_if_eq (tgt := 62) hx hb dX5_takesWhole_55 (by decide) (fun h_ => ?_) (fun h_ => ?_)
    · replace hf := if_t h_ hf
      refine lv_iconst (v := 0) hx hb dX5_takesWhole_62 (by decide) ?_
      cases hf
      exact end_z hQ hA X hI rfl dX5_takesWhole_63
    · replace hf := if_f h_ hf
      refine lv_iconst (v := 1) hx hb dX5_takesWhole_58 (by decide) ?_
      refine lv_goto (tgt := 63) hx hb dX5_takesWhole_59 (by decide) ?_
      cases hf
      exact end_z hQ hA X hI rfl dX5_takesWhole_63
  unfold f_X5_takesWhole at hf
  refine lv_aload_n hx hb dX5_takesWhole_0 rfl (lv_at hl 0 rfl) ?_
  obtain ⟨re_1, hc_, hf⟩ := bd1_some hf
  refine call_Vv X hI (Cj.keep (Cj.keep Cj.id)) (c_X5_advance l g a_re a_ta q_re_told re ta re_1 hc_) ⟨rfl, rfl⟩ ⟨ht _ w_781, w_784, ht _ w_140, lk_X5_advance⟩ w_783 w_7 rfl rfl rfl hl rfl rfl dX5_takesWhole_1 rfl rfl rfl rfl (fun H locs hI => ?_)
  refine lv_aload_n hx hb dX5_takesWhole_4 rfl (lv_at hl 0 rfl) ?_
  obtain ⟨r_2, hc_, hf⟩ := bd1_some hf
  refine call_Vi X hI (Cj.keep (Cj.keep Cj.id)) (c_X5_kind l g a_re a_ta q_re_told re_1 ta r_2 hc_) ⟨rfl, rfl⟩ ⟨ht _ w_805, w_808, ht _ w_140, lk_X5_kind⟩ w_807 w_13 rfl rfl rfl hl rfl rfl dX5_takesWhole_5 rfl rfl rfl rfl (fun H locs hI => ?_)
  refine lv_iconst (v := 2) hx hb dX5_takesWhole_8 (by decide) ?_
  refine lv_icmp_eq (tgt := 18) hx hb dX5_takesWhole_9 (by decide) (fun h_ => ?_) (fun h_ => ?_)
  · replace hf := if_t h_ hf
    refine lv_aload_n hx hb dX5_takesWhole_18 rfl (lv_at hl 0 rfl) ?_
    refine lv_aload_n hx hb dX5_takesWhole_19 rfl (lv_at hl 0 rfl) ?_
    refine g_Re_tape X hI has_Re.l (X.fl w_352) dX5_takesWhole_20 ?_
    refine g_Ta_values X hI has_Ta.l.r (hI.fn (List.mem_of_getElem? (i := 3) rfl)) dX5_takesWhole_23 ?_
    refine lv_aload_n hx hb dX5_takesWhole_26 rfl (lv_at hl 0 rfl) ?_
    refine g_Re_token X hI has_Re.l (X.fl w_360) dX5_takesWhole_27 ?_
    obtain ⟨h_, hf⟩ := ck_someM hf
    refine ld_I X hI has_Ta_values.l.r h_ dX5_takesWhole_30 ?_
    refine p_Re_taken X hI up_Re_taken.l (X.fl w_361) dX5_takesWhole_31 (fun H locs hI => ?_)
    generalize hz_ : (Re_taken' re_1 (Ta_values ta (Int32.toNatClampNeg (Re_token re_1)))) = re_3 at hI hf
    clear hz_
    replace hf := lt_e hf
    refine lv_aload_n hx hb dX5_takesWhole_34 rfl (lv_at hl 0 rfl) ?_
    refine g_Re_taken X hI has_Re.l (X.fl w_361) dX5_takesWhole_35 ?_
    refine lv_iload_n hx hb dX5_takesWhole_38 rfl (lv_at hl 1 rfl) ?_
    refine lv_icmp_lt (tgt := 50) hx hb dX5_takesWhole_39 (by decide) (fun h_ => ?_) (fun h_ => ?_)
    · replace hf := if_t h_ hf
      exact L_50 re_3 _ _ _ (lv_sub hl [0] rfl) hI hf
    · replace hf := if_f h_ hf
      refine lv_aload_n hx hb dX5_takesWhole_42 rfl (lv_at hl 0 rfl) ?_
      refine g_Re_taken X hI has_Re.l (X.fl w_361) dX5_takesWhole_43 ?_
      refine lv_iload_n hx hb dX5_takesWhole_46 rfl (lv_at hl 2 rfl) ?_
      refine lv_icmp_le (tgt := 58) hx hb dX5_takesWhole_47 (by decide) (fun h_ => ?_) (fun h_ => ?_)
      · replace hf := if_t h_ hf
        refine lv_iconst (v := 1) hx hb dX5_takesWhole_58 (by decide) ?_
        refine lv_goto (tgt := 63) hx hb dX5_takesWhole_59 (by decide) ?_
        cases hf
        exact end_z hQ hA X hI rfl dX5_takesWhole_63
      · replace hf := if_f h_ hf
        exact L_50 re_3 _ _ _ (lv_sub hl [0] rfl) hI hf
  · replace hf := if_f h_ hf
    refine lv_aload_n hx hb dX5_takesWhole_12 rfl (lv_at hl 0 rfl) ?_
    refine lv_iconst (v := 1) hx hb dX5_takesWhole_13 (by decide) ?_
    obtain ⟨r_4, re_5, hc_, hf⟩ := bd2_some hf
    refine call_Vi X hI (Cj.keep (Cj.keep Cj.id)) (c_X5_isFaulty l g a_re a_ta q_re_told re_1 ta (1 : Int32) r_4 re_5 hc_) ⟨rfl, rfl⟩ ⟨ht _ w_793, w_796, ht _ w_140, lk_X5_isFaulty⟩ w_795 w_10 rfl rfl rfl hl rfl rfl dX5_takesWhole_14 rfl rfl rfl rfl (fun H locs hI => ?_)
    obtain ⟨hzb_, hf⟩ := zb_some hf
    cases hf
    exact end_z hQ hA X hI (zb_n hzb_) dX5_takesWhole_17
abbrev rm_X5_readsTangle : Room := { frames := 2, cells := 0, slots := 0, locals := 43 }
set_option maxRecDepth 20000 in
theorem c_X5_readsTangle (l : Launch) (g : GT) (a_re : Nat → Nat) (a_ta : Nat → Nat) (a_to : Nat → Nat) (re : ReS) (ta : TaS) (to : ToS) (r_ : Int32) (o_re : ReS) (o_to : ToS) (hf : f_X5_readsTangle re ta to = some (r_, o_re, o_to)) : CI l yX5_readsTangle cX5_readsTangle 1 (some .boolean) rm_X5_readsTangle g [.ref (a_re 0)] (wRe g a_re (a_ta 0) (a_to 0) re ++ (wTa g a_ta ta ++ (wTo g a_to to ++ []))) (wRe g a_re (a_ta 0) (a_to 0) o_re ++ (wTa g a_ta ta ++ (wTo g a_to o_to ++ []))) r_ := by
  refine start2 (y := yX5_readsTangle) (cc := cX5_readsTangle) (n := 1) (av := [.ref (a_re 0)]) (ws := (wRe g a_re (a_ta 0) (a_to 0) re ++ (wTa g a_ta ta ++ (wTo g a_to to ++ [])))) (Qc := fun sz => QI g (wRe g a_re (a_ta 0) (a_to 0) re ++ (wTa g a_ta ta ++ (wTo g a_to to ++ []))) (wRe g a_re (a_ta 0) (a_to 0) o_re ++ (wTa g a_ta ta ++ (wTo g a_to o_to ++ []))) r_ sz) (by decide) rfl ?_
  intro p e s m args below meth c ls Q A ha hQ hA X hl hI hin
  have X : Cx p s m args meth c cX5_readsTangle 1 RX5 (some .boolean) := X
  have hl : lv_has ls 1 [(0, .ref (a_re 0))] := hl
  obtain ⟨hx, hb, hml, hown, ht, hr, hlk⟩ := id X
  clear ha hin
  unfold f_X5_readsTangle at hf
  refine lv_aload_n hx hb dX5_readsTangle_0 rfl (lv_at hl 0 rfl) ?_
  refine g_Re_told X hI has_Re.l (X.fl w_354) dX5_readsTangle_1 ?_
  refine g_To_begun X hI has_To.l.r.r (hI.fn (List.mem_of_getElem? (i := 6) rfl)) dX5_readsTangle_4 ?_
  refine lv_if_eq (tgt := 16) hx hb dX5_readsTangle_7 (by decide) (fun h_ => ?_) (fun h_ => ?_)
  · replace hf := if_t h_ hf
    refine lv_aload_n hx hb dX5_readsTangle_16 rfl (lv_at hl 0 rfl) ?_
    refine lv_iconst (v := 4) hx hb dX5_readsTangle_17 (by decide) ?_
    obtain ⟨r_1, re_2, hc_, hf⟩ := bd2_some hf
    refine call_Vi X hI (Cj.keep (Cj.keep Cj.nil)) (c_X5_takesWord l g a_re a_ta (a_to 0) re ta (4 : Int32) r_1 re_2 hc_) ⟨rfl, rfl⟩ ⟨ht _ w_797, w_800, ht _ w_140, lk_X5_takesWord⟩ w_799 w_11 rfl rfl rfl hl rfl rfl dX5_readsTangle_18 rfl rfl rfl rfl (fun H locs hI => ?_)
    refine lv_if_eq (tgt := 34) hx hb dX5_readsTangle_21 (by decide) (fun h_ => ?_) (fun h_ => ?_)
    · replace hf := if_t h_ hf
      refine lv_iconst (v := 0) hx hb dX5_readsTangle_34 (by decide) ?_
      cases hf
      exact end_z hQ hA X hI rfl dX5_readsTangle_35
    · replace hf := if_f h_ hf
      refine lv_aload_n hx hb dX5_readsTangle_24 rfl (lv_at hl 0 rfl) ?_
      refine lv_iconst (v := 0) hx hb dX5_readsTangle_25 (by decide) ?_
      refine lv_bipush (v := 99) hx hb dX5_readsTangle_26 (by decide) ?_
      obtain ⟨r_3, re_4, hc_, hf⟩ := bd2_some hf
      refine call_Vi X hI (Cj.keep (Cj.keep Cj.nil)) (c_X5_takesWhole l g a_re a_ta (a_to 0) re_2 ta (0 : Int32) (99 : Int32) r_3 re_4 hc_) ⟨rfl, rfl⟩ ⟨ht _ w_801, w_804, ht _ w_140, lk_X5_takesWhole⟩ w_803 w_12 rfl rfl rfl hl rfl rfl dX5_readsTangle_28 rfl rfl rfl rfl (fun H locs hI => ?_)
      refine lv_if_ne (tgt := 36) hx hb dX5_readsTangle_31 (by decide) (fun h_ => ?_) (fun h_ => ?_)
      · replace hf := if_f h_ hf
        refine lv_aload_n hx hb dX5_readsTangle_36 rfl (lv_at hl 0 rfl) ?_
        refine g_Re_told X hI has_Re.l (X.fl w_354) dX5_readsTangle_37 ?_
        refine lv_iconst (v := 1) hx hb dX5_readsTangle_40 (by decide) ?_
        refine p_To_begun X hI up_To_begun.l.r.r (hI.fn (List.mem_of_getElem? (i := 6) rfl)) (by decide) dX5_readsTangle_41 (fun H locs hI => ?_)
        generalize hz_ : (To_begun' to (1 : Int32)) = to_5 at hI hf
        clear hz_
        replace hf := lt_e hf
        refine lv_aload_n hx hb dX5_readsTangle_44 rfl (lv_at hl 0 rfl) ?_
        refine g_Re_told X hI has_Re.l (X.fl w_354) dX5_readsTangle_45 ?_
        refine lv_aload_n hx hb dX5_readsTangle_48 rfl (lv_at hl 0 rfl) ?_
        refine g_Re_taken X hI has_Re.l (X.fl w_361) dX5_readsTangle_49 ?_
        refine p_To_tall X hI up_To_tall.l.r.r (hI.fn (List.mem_of_getElem? (i := 10) rfl)) dX5_readsTangle_52 (fun H locs hI => ?_)
        generalize hz_ : (To_tall' to_5 (Re_taken re_4)) = to_6 at hI hf
        clear hz_
        replace hf := lt_e hf
        refine lv_aload_n hx hb dX5_readsTangle_55 rfl (lv_at hl 0 rfl) ?_
        obtain ⟨re_7, hc_, hf⟩ := bd1_some hf
        refine call_Vv X hI (Cj.keep (Cj.keep Cj.nil)) (c_X5_advance l g a_re a_ta (a_to 0) re_4 ta re_7 hc_) ⟨rfl, rfl⟩ ⟨ht _ w_781, w_784, ht _ w_140, lk_X5_advance⟩ w_783 w_7 rfl rfl rfl hl rfl rfl dX5_readsTangle_56 rfl rfl rfl rfl (fun H locs hI => ?_)
        refine lv_aload_n hx hb dX5_readsTangle_59 rfl (lv_at hl 0 rfl) ?_
        refine lv_iconst (v := 5) hx hb dX5_readsTangle_60 (by decide) ?_
        obtain ⟨r_8, hc_, hf⟩ := bd1_some hf
        refine call_Vi X hI (Cj.keep (Cj.keep Cj.nil)) (c_X5_isWord l g a_re a_ta (a_to 0) re_7 ta (5 : Int32) r_8 hc_) ⟨rfl, rfl⟩ ⟨ht _ w_785, w_788, ht _ w_140, lk_X5_isWord⟩ w_787 w_8 rfl rfl rfl hl rfl rfl dX5_readsTangle_61 rfl rfl rfl rfl (fun H locs hI => ?_)
        refine lv_if_eq (tgt := 79) hx hb dX5_readsTangle_64 (by decide) (fun h_ => ?_) (fun h_ => ?_)
        · replace hf := if_t h_ hf
          refine lv_iconst (v := 1) hx hb dX5_readsTangle_79 (by decide) ?_
          cases hf
          exact end_z hQ hA X hI rfl dX5_readsTangle_80
        · replace hf := if_f h_ hf
          refine lv_aload_n hx hb dX5_readsTangle_67 rfl (lv_at hl 0 rfl) ?_
          refine g_Re_told X hI has_Re.l (X.fl w_354) dX5_readsTangle_68 ?_
          refine lv_iconst (v := 1) hx hb dX5_readsTangle_71 (by decide) ?_
          refine p_To_once X hI up_To_once.l.r.r (hI.fn (List.mem_of_getElem? (i := 8) rfl)) (by decide) dX5_readsTangle_72 (fun H locs hI => ?_)
          generalize hz_ : (To_once' to_6 (1 : Int32)) = to_9 at hI hf
          clear hz_
          replace hf := lt_e hf
          refine lv_aload_n hx hb dX5_readsTangle_75 rfl (lv_at hl 0 rfl) ?_
          obtain ⟨re_10, hc_, hf⟩ := bd1_some hf
          refine call_Vv X hI (Cj.keep (Cj.keep Cj.nil)) (c_X5_advance l g a_re a_ta (a_to 0) re_7 ta re_10 hc_) ⟨rfl, rfl⟩ ⟨ht _ w_781, w_784, ht _ w_140, lk_X5_advance⟩ w_783 w_7 rfl rfl rfl hl rfl rfl dX5_readsTangle_76 rfl rfl rfl rfl (fun H locs hI => ?_)
          refine lv_iconst (v := 1) hx hb dX5_readsTangle_79 (by decide) ?_
          cases hf
          exact end_z hQ hA X hI rfl dX5_readsTangle_80
      · replace hf := if_t h_ hf
        refine lv_iconst (v := 0) hx hb dX5_readsTangle_34 (by decide) ?_
        cases hf
        exact end_z hQ hA X hI rfl dX5_readsTangle_35
  · replace hf := if_f h_ hf
    refine lv_aload_n hx hb dX5_readsTangle_10 rfl (lv_at hl 0 rfl) ?_
    refine lv_iconst (v := 3) hx hb dX5_readsTangle_11 (by decide) ?_
    obtain ⟨r_11, re_12, hc_, hf⟩ := bd2_some hf
    refine call_Vi X hI (Cj.keep (Cj.keep Cj.nil)) (c_X5_isFaulty l g a_re a_ta (a_to 0) re ta (3 : Int32) r_11 re_12 hc_) ⟨rfl, rfl⟩ ⟨ht _ w_793, w_796, ht _ w_140, lk_X5_isFaulty⟩ w_795 w_10 rfl rfl rfl hl rfl rfl dX5_readsTangle_12 rfl rfl rfl rfl (fun H locs hI => ?_)
    obtain ⟨hzb_, hf⟩ := zb_some hf
    cases hf
    exact end_z hQ hA X hI (zb_n hzb_) dX5_readsTangle_15
abbrev rm_X5_takesName : Room := { frames := 1, cells := 0, slots := 0, locals := 21 }
set_option maxRecDepth 20000 in
theorem c_X5_takesName (l : Launch) (g : GT) (a_re : Nat → Nat) (a_ta : Nat → Nat) (q_re_told : Nat) (re : ReS) (ta : TaS) (r_ : Int32) (o_re : ReS) (hf : f_X5_takesName re ta = some (r_, o_re)) : CI l yX5_takesName cX5_takesName 1 (some .boolean) rm_X5_takesName g [.ref (a_re 0)] (wRe g a_re (a_ta 0) q_re_told re ++ (wTa g a_ta ta ++ [])) (wRe g a_re (a_ta 0) q_re_told o_re ++ (wTa g a_ta ta ++ [])) r_ := by
  refine start2 (y := yX5_takesName) (cc := cX5_takesName) (n := 1) (av := [.ref (a_re 0)]) (ws := (wRe g a_re (a_ta 0) q_re_told re ++ (wTa g a_ta ta ++ []))) (Qc := fun sz => QI g (wRe g a_re (a_ta 0) q_re_told re ++ (wTa g a_ta ta ++ [])) (wRe g a_re (a_ta 0) q_re_told o_re ++ (wTa g a_ta ta ++ [])) r_ sz) (by decide) rfl ?_
  intro p e s m args below meth c ls Q A ha hQ hA X hl hI hin
  have X : Cx p s m args meth c cX5_takesName 1 RX5 (some .boolean) := X
  have hl : lv_has ls 1 [(0, .ref (a_re 0))] := hl
  obtain ⟨hx, hb, hml, hown, ht, hr, hlk⟩ := id X
  clear ha hin
  have L_44 : ∀ (re : ReS) (H : Heap) (locs : List Loc) (ls : Array Slot), lv_has ls 1 [(0, .ref (a_re 0))] → In g A s.heap s (wRe g a_re (a_ta 0) q_re_told re ++ (wTa g a_ta ta ++ [])) H locs → f_X5_takesName_L44 re ta = some (r_, o_re) → W p l e rm_X5_takesName s m args below meth c H locs 0 0 Q (F0 m 44 ls []) := by
    intro re H locs ls hl hI hf
    unfold f_X5_takesName_L44 at hf
    refine lv_aload_n hx hb dX5_takesName_44 rfl (lv_at hl 0 rfl) ?_
    refine lv_iconst (v := 1) hx hb dX5_takesName_45 (by decide) ?_
    obtain ⟨r_4, re_5, hc_, hf⟩ := bd2_some hf
    refine call_Vi X hI (Cj.keep (Cj.keep Cj.id)) (c_X5_isFaulty l g a_re a_ta q_re_told re ta (1 : Int32) r_4 re_5 hc_) ⟨rfl, rfl⟩ ⟨ht _ w_793, w_796, ht _ w_140, lk_X5_isFaulty⟩ w_795 w_10 rfl rfl rfl hl rfl rfl dX5_takesName_46 rfl rfl rfl rfl (fun H locs hI => ?_)
    refine lv_if_eq (tgt := 56) hx hb dX5_takesName_49 (by decide) (fun h_ => ?_) (fun h_ => ?_)
    · replace hf := if_t h_ hf
      refine lv_iconst (v := 0) hx hb dX5_takesName_56 (by decide) ?_
      cases hf
      exact end_z hQ hA X hI rfl dX5_takesName_57
    · replace hf := if_f h_ hf
      refine lv_iconst (v := 1) hx hb dX5_takesName_52 (by decide) ?_
      refine lv_goto (tgt := 57) hx hb dX5_takesName_53 (by decide) ?_
      cases hf
      exact end_z hQ hA X hI rfl dX5_takesName_57
  unfold f_X5_takesName at hf
  refine lv_aload_n hx hb dX5_takesName_0 rfl (lv_at hl 0 rfl) ?_
  obtain ⟨re_1, hc_, hf⟩ := bd1_some hf
  refine call_Vv X hI (Cj.keep (Cj.keep Cj.id)) (c_X5_advance l g a_re a_ta q_re_told re ta re_1 hc_) ⟨rfl, rfl⟩ ⟨ht _ w_781, w_784, ht _ w_140, lk_X5_advance⟩ w_783 w_7 rfl rfl rfl hl rfl rfl dX5_takesName_1 rfl rfl rfl rfl (fun H locs hI => ?_)
  refine lv_aload_n hx hb dX5_takesName_4 rfl (lv_at hl 0 rfl) ?_
  refine lv_aload_n hx hb dX5_takesName_5 rfl (lv_at hl 0 rfl) ?_
  refine g_Re_tape X hI has_Re.l (X.fl w_352) dX5_takesName_6 ?_
  refine g_Ta_spellings X hI has_Ta.l.r (hI.fn (List.mem_of_getElem? (i := 4) rfl)) dX5_takesName_9 ?_
  refine lv_aload_n hx hb dX5_takesName_12 rfl (lv_at hl 0 rfl) ?_
  refine g_Re_token X hI has_Re.l (X.fl w_360) dX5_takesName_13 ?_
  obtain ⟨h_, hf⟩ := ck_someM hf
  refine ld_J X hI has_Ta_spellings.l.r h_ dX5_takesName_16 ?_
  refine p_Re_name X hI up_Re_name.l (X.fl w_362) dX5_takesName_17 (fun H locs hI => ?_)
  generalize hz_ : (Re_name' re_1 (Ta_spellings ta (Int32.toNatClampNeg (Re_token re_1)))) = re_2 at hI hf
  clear hz_
  replace hf := lt_e hf
  refine lv_aload_n hx hb dX5_takesName_20 rfl (lv_at hl 0 rfl) ?_
  obtain ⟨r_3, hc_, hf⟩ := bd1_some hf
  refine call_Vi X hI (Cj.keep (Cj.keep Cj.id)) (c_X5_kind l g a_re a_ta q_re_told re_2 ta r_3 hc_) ⟨rfl, rfl⟩ ⟨ht _ w_805, w_808, ht _ w_140, lk_X5_kind⟩ w_807 w_13 rfl rfl rfl hl rfl rfl dX5_takesName_21 rfl rfl rfl rfl (fun H locs hI => ?_)
  refine lv_iconst (v := 1) hx hb dX5_takesName_24 (by decide) ?_
  refine lv_icmp_ne (tgt := 44) hx hb dX5_takesName_25 (by decide) (fun h_ => ?_) (fun h_ => ?_)
  · replace hf := if_f h_ hf
    exact L_44 re_2 _ _ _ hl hI hf
  · replace hf := if_t h_ hf
    refine lv_aload_n hx hb dX5_takesName_28 rfl (lv_at hl 0 rfl) ?_
    refine g_Re_tape X hI has_Re.l (X.fl w_352) dX5_takesName_29 ?_
    refine g_Ta_values X hI has_Ta.l.r (hI.fn (List.mem_of_getElem? (i := 3) rfl)) dX5_takesName_32 ?_
    refine lv_aload_n hx hb dX5_takesName_35 rfl (lv_at hl 0 rfl) ?_
    refine g_Re_token X hI has_Re.l (X.fl w_360) dX5_takesName_36 ?_
    obtain ⟨h_, hf⟩ := ck_someM hf
    refine ld_I X hI has_Ta_values.l.r h_ dX5_takesName_39 ?_
    refine lv_iconst (v := 3) hx hb dX5_takesName_40 (by decide) ?_
    refine lv_icmp_gt (tgt := 52) hx hb dX5_takesName_41 (by decide) (fun h_ => ?_) (fun h_ => ?_)
    · replace hf := if_t h_ hf
      refine lv_iconst (v := 1) hx hb dX5_takesName_52 (by decide) ?_
      refine lv_goto (tgt := 57) hx hb dX5_takesName_53 (by decide) ?_
      cases hf
      exact end_z hQ hA X hI rfl dX5_takesName_57
    · replace hf := if_f h_ hf
      exact L_44 re_2 _ _ _ hl hI hf
abbrev rm_X5_takesLink : Room := { frames := 2, cells := 0, slots := 0, locals := 46 }
set_option maxRecDepth 20000 in
theorem c_X5_takesLink (l : Launch) (g : GT) (a_re : Nat → Nat) (a_ta : Nat → Nat) (a_to : Nat → Nat) (re : ReS) (ta : TaS) (to : ToS) (r_ : Int32) (o_re : ReS) (hf : f_X5_takesLink re ta to = some (r_, o_re)) : CI l yX5_takesLink cX5_takesLink 1 (some .boolean) rm_X5_takesLink g [.ref (a_re 0)] (wRe g a_re (a_ta 0) (a_to 0) re ++ (wTa g a_ta ta ++ (wTo g a_to to ++ []))) (wRe g a_re (a_ta 0) (a_to 0) o_re ++ (wTa g a_ta ta ++ (wTo g a_to to ++ []))) r_ := by
  refine start2 (y := yX5_takesLink) (cc := cX5_takesLink) (n := 1) (av := [.ref (a_re 0)]) (ws := (wRe g a_re (a_ta 0) (a_to 0) re ++ (wTa g a_ta ta ++ (wTo g a_to to ++ [])))) (Qc := fun sz => QI g (wRe g a_re (a_ta 0) (a_to 0) re ++ (wTa g a_ta ta ++ (wTo g a_to to ++ []))) (wRe g a_re (a_ta 0) (a_to 0) o_re ++ (wTa g a_ta ta ++ (wTo g a_to to ++ []))) r_ sz) (by decide) rfl ?_
  intro p e s m args below meth c ls Q A ha hQ hA X hl hI hin
  have X : Cx p s m args meth c cX5_takesLink 1 RX5 (some .boolean) := X
  have hl : lv_has ls 1 [(0, .ref (a_re 0))] := hl
  obtain ⟨hx, hb, hml, hown, ht, hr, hlk⟩ := id X
  clear ha hin
  unfold f_X5_takesLink at hf
  refine lv_aload_n hx hb dX5_takesLink_0 rfl (lv_at hl 0 rfl) ?_
  obtain ⟨r_1, re_2, hc_, hf⟩ := bd2_some hf
  refine call_Vi X hI (Cj.keep (Cj.keep Cj.nil)) (c_X5_takesName l g a_re a_ta (a_to 0) re ta r_1 re_2 hc_) ⟨rfl, rfl⟩ ⟨ht _ w_817, w_820, ht _ w_140, lk_X5_takesName⟩ w_819 w_16 rfl rfl rfl hl rfl rfl dX5_takesLink_1 rfl rfl rfl rfl (fun H locs hI => ?_)
  refine lv_if_ne (tgt := 9) hx hb dX5_takesLink_4 (by decide) (fun h_ => ?_) (fun h_ => ?_)
  · replace hf := if_f h_ hf
    refine lv_aload_n hx hb dX5_takesLink_9 rfl (lv_at hl 0 rfl) ?_
    refine lv_aload_n hx hb dX5_takesLink_10 rfl (lv_at hl 0 rfl) ?_
    refine g_Re_told X hI has_Re.l (X.fl w_354) dX5_takesLink_11 ?_
    refine lv_aload_n hx hb dX5_takesLink_14 rfl (lv_at hl 0 rfl) ?_
    refine g_Re_name X hI has_Re.l (X.fl w_362) dX5_takesLink_15 ?_
    obtain ⟨r_3, hc_, hf⟩ := bd1_some hf
    refine call_Vi X hI (Cj.skip (Cj.skip (Cj.keep Cj.id))) (c_X9_linkNamed l g a_to to (Re_name re_2) r_3 hc_) ⟨rfl, rfl⟩ ⟨ht _ w_828, w_831, ht _ w_146, lk_X9_linkNamed⟩ w_829 w_830 rfl rfl rfl hl rfl rfl dX5_takesLink_18 rfl rfl rfl rfl (fun H locs hI => ?_)
    refine p_Re_taken X hI up_Re_taken.l (X.fl w_361) dX5_takesLink_21 (fun H locs hI => ?_)
    generalize hz_ : (Re_taken' re_2 r_3) = re_4 at hI hf
    clear hz_
    replace hf := lt_e hf
    refine lv_aload_n hx hb dX5_takesLink_24 rfl (lv_at hl 0 rfl) ?_
    refine g_Re_taken X hI has_Re.l (X.fl w_361) dX5_takesLink_25 ?_
    refine lv_iconst (v := (-1)) hx hb dX5_takesLink_28 (by decide) ?_
    refine lv_icmp_ne (tgt := 40) hx hb dX5_takesLink_29 (by decide) (fun h_ => ?_) (fun h_ => ?_)
    · replace hf := if_f h_ hf
      refine lv_iconst (v := 1) hx hb dX5_takesLink_40 (by decide) ?_
      refine lv_goto (tgt := 45) hx hb dX5_takesLink_41 (by decide) ?_
      cases hf
      exact end_z hQ hA X hI rfl dX5_takesLink_45
    · replace hf := if_t h_ hf
      refine lv_aload_n hx hb dX5_takesLink_32 rfl (lv_at hl 0 rfl) ?_
      refine lv_iconst (v := 2) hx hb dX5_takesLink_33 (by decide) ?_
      obtain ⟨r_5, re_6, hc_, hf⟩ := bd2_some hf
      refine call_Vi X hI (Cj.keep (Cj.keep Cj.nil)) (c_X5_isFaulty l g a_re a_ta (a_to 0) re_4 ta (2 : Int32) r_5 re_6 hc_) ⟨rfl, rfl⟩ ⟨ht _ w_793, w_796, ht _ w_140, lk_X5_isFaulty⟩ w_795 w_10 rfl rfl rfl hl rfl rfl dX5_takesLink_34 rfl rfl rfl rfl (fun H locs hI => ?_)
      refine lv_if_eq (tgt := 44) hx hb dX5_takesLink_37 (by decide) (fun h_ => ?_) (fun h_ => ?_)
      · replace hf := if_t h_ hf
        refine lv_iconst (v := 0) hx hb dX5_takesLink_44 (by decide) ?_
        cases hf
        exact end_z hQ hA X hI rfl dX5_takesLink_45
      · replace hf := if_f h_ hf
        refine lv_iconst (v := 1) hx hb dX5_takesLink_40 (by decide) ?_
        refine lv_goto (tgt := 45) hx hb dX5_takesLink_41 (by decide) ?_
        cases hf
        exact end_z hQ hA X hI rfl dX5_takesLink_45
  · replace hf := if_t h_ hf
    refine lv_iconst (v := 0) hx hb dX5_takesLink_7 (by decide) ?_
    cases hf
    exact end_z hQ hA X hI rfl dX5_takesLink_8
abbrev rm_X5_takesPass : Room := { frames := 3, cells := 0, slots := 0, locals := 66 }
set_option maxRecDepth 20000 in
theorem c_X5_takesPass (l : Launch) (g : GT) (a_re : Nat → Nat) (a_ta : Nat → Nat) (a_to : Nat → Nat) (re : ReS) (ta : TaS) (to : ToS) (p1 : Int32) (r_ : Int32) (o_re : ReS) (o_to : ToS) (hf : f_X5_takesPass re ta to p1 = some (r_, o_re, o_to)) : CI l yX5_takesPass cX5_takesPass 3 (some .boolean) rm_X5_takesPass g [.ref (a_re 0), .int p1] (wRe g a_re (a_ta 0) (a_to 0) re ++ (wTa g a_ta ta ++ (wTo g a_to to ++ []))) (wRe g a_re (a_ta 0) (a_to 0) o_re ++ (wTa g a_ta ta ++ (wTo g a_to o_to ++ []))) r_ := by
  refine start2 (y := yX5_takesPass) (cc := cX5_takesPass) (n := 3) (av := [.ref (a_re 0), .int p1]) (ws := (wRe g a_re (a_ta 0) (a_to 0) re ++ (wTa g a_ta ta ++ (wTo g a_to to ++ [])))) (Qc := fun sz => QI g (wRe g a_re (a_ta 0) (a_to 0) re ++ (wTa g a_ta ta ++ (wTo g a_to to ++ []))) (wRe g a_re (a_ta 0) (a_to 0) o_re ++ (wTa g a_ta ta ++ (wTo g a_to o_to ++ []))) r_ sz) (by decide) rfl ?_
  intro p e s m args below meth c ls Q A ha hQ hA X hl hI hin
  have X : Cx p s m args meth c cX5_takesPass 3 RX5 (some .boolean) := X
  have hl : lv_has ls 3 [(0, .ref (a_re 0)), (1, .int p1)] := hl
  obtain ⟨hx, hb, hml, hown, ht, hr, hlk⟩ := id X
  clear ha hin
  unfold f_X5_takesPass at hf
  refine lv_aload_n hx hb dX5_takesPass_0 rfl (lv_at hl 0 rfl) ?_
  obtain ⟨r_1, re_2, hc_, hf⟩ := bd2_some hf
  refine call_Vi X hI (Cj.keep (Cj.keep (Cj.keep Cj.id))) (c_X5_takesLink l g a_re a_ta a_to re ta to r_1 re_2 hc_) ⟨rfl, rfl⟩ ⟨ht _ w_871, w_874, ht _ w_140, lk_X5_takesLink⟩ w_873 w_22 rfl rfl rfl hl rfl rfl dX5_takesPass_1 rfl rfl rfl rfl (fun H locs hI => ?_)
  refine lv_if_ne (tgt := 9) hx hb dX5_takesPass_4 (by decide) (fun h_ => ?_) (fun h_ => ?_)
  · replace hf := if_f h_ hf
    refine lv_aload_n hx hb dX5_takesPass_9 rfl (lv_at hl 0 rfl) ?_
    refine g_Re_taken X hI has_Re.l (X.fl w_361) dX5_takesPass_10 ?_
    refine lv_topi (fun v_3 e_ => ?_)
    replace hf := lt_to e_ hf
    clear e_
    refine lv_istore_n (lv' := [(2, .int v_3), (0, .ref (a_re 0)), (1, .int p1)]) hx hb dX5_takesPass_13 rfl hl (by decide) rfl (fun ls hl => ?_)
    refine lv_aload_n hx hb dX5_takesPass_14 rfl (lv_at hl 1 rfl) ?_
    refine lv_iconst (v := 1) hx hb dX5_takesPass_15 (by decide) ?_
    refine lv_bipush (v := 9) hx hb dX5_takesPass_16 (by decide) ?_
    obtain ⟨r_4, re_5, hc_, hf⟩ := bd2_some hf
    refine call_Vi X hI (Cj.keep (Cj.keep Cj.nil)) (c_X5_takesWhole l g a_re a_ta (a_to 0) re_2 ta (1 : Int32) (9 : Int32) r_4 re_5 hc_) ⟨rfl, rfl⟩ ⟨ht _ w_801, w_804, ht _ w_140, lk_X5_takesWhole⟩ w_803 w_12 rfl rfl rfl hl rfl rfl dX5_takesPass_18 rfl rfl rfl rfl (fun H locs hI => ?_)
    refine lv_if_ne (tgt := 26) hx hb dX5_takesPass_21 (by decide) (fun h_ => ?_) (fun h_ => ?_)
    · replace hf := if_f h_ hf
      refine lv_aload_n hx hb dX5_takesPass_26 rfl (lv_at hl 1 rfl) ?_
      refine g_Re_told X hI has_Re.l (X.fl w_354) dX5_takesPass_27 ?_
      refine lv_iload_n hx hb dX5_takesPass_30 rfl (lv_at hl 0 rfl) ?_
      refine lv_aload_n hx hb dX5_takesPass_31 rfl (lv_at hl 1 rfl) ?_
      refine g_Re_taken X hI has_Re.l (X.fl w_361) dX5_takesPass_32 ?_
      obtain ⟨r_6, hc_, hf⟩ := bd1_some hf
      refine call_Vi X hI (Cj.skip (Cj.skip (Cj.keep Cj.id))) (c_X9_passOn l g a_to to v_3 (Re_taken re_5) r_6 hc_) ⟨rfl, rfl⟩ ⟨ht _ w_875, w_878, ht _ w_146, lk_X9_passOn⟩ w_876 w_877 rfl rfl rfl hl rfl rfl dX5_takesPass_35 rfl rfl rfl rfl (fun H locs hI => ?_)
      refine lv_if_eq (tgt := 47) hx hb dX5_takesPass_38 (by decide) (fun h_ => ?_) (fun h_ => ?_)
      · replace hf := if_t h_ hf
        refine lv_aload_n hx hb dX5_takesPass_47 rfl (lv_at hl 1 rfl) ?_
        refine g_Re_told X hI has_Re.l (X.fl w_354) dX5_takesPass_48 ?_
        refine lv_iload_n hx hb dX5_takesPass_51 rfl (lv_at hl 0 rfl) ?_
        refine lv_aload_n hx hb dX5_takesPass_52 rfl (lv_at hl 1 rfl) ?_
        refine g_Re_taken X hI has_Re.l (X.fl w_361) dX5_takesPass_53 ?_
        refine lv_iload_n hx hb dX5_takesPass_56 rfl (lv_at hl 2 rfl) ?_
        obtain ⟨to_7, hc_, hf⟩ := bd1_some hf
        refine call_Vv X hI (Cj.skip (Cj.skip (Cj.keep Cj.id))) (c_X9_addPass l g a_to to v_3 (Re_taken re_5) p1 to_7 hc_) ⟨rfl, rfl⟩ ⟨ht _ w_882, w_885, ht _ w_146, lk_X9_addPass⟩ w_883 w_884 rfl rfl rfl hl rfl rfl dX5_takesPass_57 rfl rfl rfl rfl (fun H locs hI => ?_)
        refine lv_iconst (v := 1) hx hb dX5_takesPass_60 (by decide) ?_
        cases hf
        exact end_z hQ hA X hI rfl dX5_takesPass_61
      · replace hf := if_f h_ hf
        refine lv_aload_n hx hb dX5_takesPass_41 rfl (lv_at hl 1 rfl) ?_
        refine lv_iconst (v := 3) hx hb dX5_takesPass_42 (by decide) ?_
        obtain ⟨r_8, re_9, hc_, hf⟩ := bd2_some hf
        refine call_Vi X hI (Cj.keep (Cj.keep Cj.nil)) (c_X5_isFaulty l g a_re a_ta (a_to 0) re_5 ta (3 : Int32) r_8 re_9 hc_) ⟨rfl, rfl⟩ ⟨ht _ w_793, w_796, ht _ w_140, lk_X5_isFaulty⟩ w_795 w_10 rfl rfl rfl hl rfl rfl dX5_takesPass_43 rfl rfl rfl rfl (fun H locs hI => ?_)
        obtain ⟨hzb_, hf⟩ := zb_some hf
        cases hf
        exact end_z hQ hA X hI (zb_n hzb_) dX5_takesPass_46
    · replace hf := if_t h_ hf
      refine lv_iconst (v := 0) hx hb dX5_takesPass_24 (by decide) ?_
      cases hf
      exact end_z hQ hA X hI rfl dX5_takesPass_25
  · replace hf := if_t h_ hf
    refine lv_iconst (v := 0) hx hb dX5_takesPass_7 (by decide) ?_
    cases hf
    exact end_z hQ hA X hI rfl dX5_takesPass_8
abbrev rm_X5_readsCross : Room := { frames := 4, cells := 0, slots := 0, locals := 88 }
set_option maxRecDepth 20000 in
theorem c_X5_readsCross (l : Launch) (g : GT) (a_re : Nat → Nat) (a_ta : Nat → Nat) (a_to : Nat → Nat) (re : ReS) (ta : TaS) (to : ToS) (r_ : Int32) (o_re : ReS) (o_to : ToS) (hf : f_X5_readsCross re ta to = some (r_, o_re, o_to)) : CI l yX5_readsCross cX5_readsCross 1 (some .boolean) rm_X5_readsCross g [.ref (a_re 0)] (wRe g a_re (a_ta 0) (a_to 0) re ++ (wTa g a_ta ta ++ (wTo g a_to to ++ []))) (wRe g a_re (a_ta 0) (a_to 0) o_re ++ (wTa g a_ta ta ++ (wTo g a_to o_to ++ []))) r_ := by
  refine start2 (y := yX5_readsCross) (cc := cX5_readsCross) (n := 1) (av := [.ref (a_re 0)]) (ws := (wRe g a_re (a_ta 0) (a_to 0) re ++ (wTa g a_ta ta ++ (wTo g a_to to ++ [])))) (Qc := fun sz => QI g (wRe g a_re (a_ta 0) (a_to 0) re ++ (wTa g a_ta ta ++ (wTo g a_to to ++ []))) (wRe g a_re (a_ta 0) (a_to 0) o_re ++ (wTa g a_ta ta ++ (wTo g a_to o_to ++ []))) r_ sz) (by decide) rfl ?_
  intro p e s m args below meth c ls Q A ha hQ hA X hl hI hin
  have X : Cx p s m args meth c cX5_readsCross 1 RX5 (some .boolean) := X
  have hl : lv_has ls 1 [(0, .ref (a_re 0))] := hl
  obtain ⟨hx, hb, hml, hown, ht, hr, hlk⟩ := id X
  clear ha hin
  have L_73 : ∀ (re : ReS) (to : ToS) (H : Heap) (locs : List Loc) (ls : Array Slot), lv_has ls 1 [(0, .ref (a_re 0))] → In g A s.heap s (wRe g a_re (a_ta 0) (a_to 0) re ++ (wTa g a_ta ta ++ (wTo g a_to to ++ []))) H locs → f_X5_readsCross_L73 re to ta = some (r_, o_re, o_to) → W p l e rm_X5_readsCross s m args below meth c H locs 0 0 Q (F0 m 73 ls []) := by
    intro re to H locs ls hl hI hf
    unfold f_X5_readsCross_L73 at hf
    refine lv_aload_n hx hb dX5_readsCross_73 rfl (lv_at hl 0 rfl) ?_
    refine g_Re_told X hI has_Re.l (X.fl w_354) dX5_readsCross_74 ?_
    refine lv_aload_n hx hb dX5_readsCross_77 rfl (lv_at hl 0 rfl) ?_
    refine lv_bipush (v := 9) hx hb dX5_readsCross_78 (by decide) ?_
    obtain ⟨r_16, hc_, hf⟩ := bd1_some hf
    refine call_Vi X hI (Cj.keep (Cj.keep Cj.nil)) (c_X5_isWord l g a_re a_ta (a_to 0) re ta (9 : Int32) r_16 hc_) ⟨rfl, rfl⟩ ⟨ht _ w_785, w_788, ht _ w_140, lk_X5_isWord⟩ w_787 w_8 rfl rfl rfl hl rfl rfl dX5_readsCross_80 rfl rfl rfl rfl (fun H locs hI => ?_)
    obtain ⟨to_17, hc_, hf⟩ := bd1_some hf
    refine call_Vv X hI (Cj.skip (Cj.skip (Cj.keep Cj.id))) (c_X9_addCrossing l g a_to to r_16 to_17 hc_) ⟨rfl, rfl⟩ ⟨ht _ w_886, w_889, ht _ w_146, lk_X9_addCrossing⟩ w_887 w_888 rfl rfl rfl hl rfl rfl dX5_readsCross_83 rfl rfl rfl rfl (fun H locs hI => ?_)
    refine lv_iconst (v := 1) hx hb dX5_readsCross_86 (by decide) ?_
    cases hf
    exact end_z hQ hA X hI rfl dX5_readsCross_87
  unfold f_X5_readsCross at hf
  refine lv_aload_n hx hb dX5_readsCross_0 rfl (lv_at hl 0 rfl) ?_
  refine g_Re_told X hI has_Re.l (X.fl w_354) dX5_readsCross_1 ?_
  refine g_To_crossings X hI has_To.l.r.r (hI.fn (List.mem_of_getElem? (i := 16) rfl)) dX5_readsCross_4 ?_
  refine lv_bipush (v := 7) hx hb dX5_readsCross_7 (by decide) ?_
  refine lv_icmp_lt (tgt := 18) hx hb dX5_readsCross_9 (by decide) (fun h_ => ?_) (fun h_ => ?_)
  · replace hf := if_t h_ hf
    refine lv_aload_n hx hb dX5_readsCross_18 rfl (lv_at hl 0 rfl) ?_
    refine lv_iconst (v := 1) hx hb dX5_readsCross_19 (by decide) ?_
    obtain ⟨r_1, re_2, to_3, hc_, hf⟩ := bd3_some hf
    refine call_Vi X hI (Cj.keep (Cj.keep (Cj.keep Cj.id))) (c_X5_takesPass l g a_re a_ta a_to re ta to (1 : Int32) r_1 re_2 to_3 hc_) ⟨rfl, rfl⟩ ⟨ht _ w_867, w_870, ht _ w_140, lk_X5_takesPass⟩ w_869 w_21 rfl rfl rfl hl rfl rfl dX5_readsCross_20 rfl rfl rfl rfl (fun H locs hI => ?_)
    refine lv_if_eq (tgt := 43) hx hb dX5_readsCross_23 (by decide) (fun h_ => ?_) (fun h_ => ?_)
    · replace hf := if_t h_ hf
      refine lv_iconst (v := 0) hx hb dX5_readsCross_43 (by decide) ?_
      cases hf
      exact end_z hQ hA X hI rfl dX5_readsCross_44
    · replace hf := if_f h_ hf
      refine lv_aload_n hx hb dX5_readsCross_26 rfl (lv_at hl 0 rfl) ?_
      refine lv_bipush (v := 8) hx hb dX5_readsCross_27 (by decide) ?_
      obtain ⟨r_4, re_5, hc_, hf⟩ := bd2_some hf
      refine call_Vi X hI (Cj.keep (Cj.keep Cj.nil)) (c_X5_takesWord l g a_re a_ta (a_to 0) re_2 ta (8 : Int32) r_4 re_5 hc_) ⟨rfl, rfl⟩ ⟨ht _ w_797, w_800, ht _ w_140, lk_X5_takesWord⟩ w_799 w_11 rfl rfl rfl hl rfl rfl dX5_readsCross_29 rfl rfl rfl rfl (fun H locs hI => ?_)
      refine lv_if_eq (tgt := 43) hx hb dX5_readsCross_32 (by decide) (fun h_ => ?_) (fun h_ => ?_)
      · replace hf := if_t h_ hf
        refine lv_iconst (v := 0) hx hb dX5_readsCross_43 (by decide) ?_
        cases hf
        exact end_z hQ hA X hI rfl dX5_readsCross_44
      · replace hf := if_f h_ hf
        refine lv_aload_n hx hb dX5_readsCross_35 rfl (lv_at hl 0 rfl) ?_
        refine lv_iconst (v := 0) hx hb dX5_readsCross_36 (by decide) ?_
        obtain ⟨r_6, re_7, to_8, hc_, hf⟩ := bd3_some hf
        refine call_Vi X hI (Cj.keep (Cj.keep (Cj.keep Cj.id))) (c_X5_takesPass l g a_re a_ta a_to re_5 ta to_3 (0 : Int32) r_6 re_7 to_8 hc_) ⟨rfl, rfl⟩ ⟨ht _ w_867, w_870, ht _ w_140, lk_X5_takesPass⟩ w_869 w_21 rfl rfl rfl hl rfl rfl dX5_readsCross_37 rfl rfl rfl rfl (fun H locs hI => ?_)
        refine lv_if_ne (tgt := 45) hx hb dX5_readsCross_40 (by decide) (fun h_ => ?_) (fun h_ => ?_)
        · replace hf := if_f h_ hf
          refine lv_aload_n hx hb dX5_readsCross_45 rfl (lv_at hl 0 rfl) ?_
          obtain ⟨re_9, hc_, hf⟩ := bd1_some hf
          refine call_Vv X hI (Cj.keep (Cj.keep Cj.nil)) (c_X5_advance l g a_re a_ta (a_to 0) re_7 ta re_9 hc_) ⟨rfl, rfl⟩ ⟨ht _ w_781, w_784, ht _ w_140, lk_X5_advance⟩ w_783 w_7 rfl rfl rfl hl rfl rfl dX5_readsCross_46 rfl rfl rfl rfl (fun H locs hI => ?_)
          refine lv_aload_n hx hb dX5_readsCross_49 rfl (lv_at hl 0 rfl) ?_
          refine lv_bipush (v := 9) hx hb dX5_readsCross_50 (by decide) ?_
          obtain ⟨r_10, hc_, hf⟩ := bd1_some hf
          refine call_Vi X hI (Cj.keep (Cj.keep Cj.nil)) (c_X5_isWord l g a_re a_ta (a_to 0) re_9 ta (9 : Int32) r_10 hc_) ⟨rfl, rfl⟩ ⟨ht _ w_785, w_788, ht _ w_140, lk_X5_isWord⟩ w_787 w_8 rfl rfl rfl hl rfl rfl dX5_readsCross_52 rfl rfl rfl rfl (fun H locs hI => ?_)
          refine lv_if_ne (tgt := 73) hx hb dX5_readsCross_55 (by decide) (fun h_ => ?_) (fun h_ => ?_)
          · replace hf := if_f h_ hf
            exact L_73 re_9 to_8 _ _ _ hl hI hf
          · replace hf := if_t h_ hf
            refine lv_aload_n hx hb dX5_readsCross_58 rfl (lv_at hl 0 rfl) ?_
            refine lv_bipush (v := 10) hx hb dX5_readsCross_59 (by decide) ?_
            obtain ⟨r_11, hc_, hf⟩ := bd1_some hf
            refine call_Vi X hI (Cj.keep (Cj.keep Cj.nil)) (c_X5_isWord l g a_re a_ta (a_to 0) re_9 ta (10 : Int32) r_11 hc_) ⟨rfl, rfl⟩ ⟨ht _ w_785, w_788, ht _ w_140, lk_X5_isWord⟩ w_787 w_8 rfl rfl rfl hl rfl rfl dX5_readsCross_61 rfl rfl rfl rfl (fun H locs hI => ?_)
            refine lv_if_ne (tgt := 73) hx hb dX5_readsCross_64 (by decide) (fun h_ => ?_) (fun h_ => ?_)
            · replace hf := if_f h_ hf
              exact L_73 re_9 to_8 _ _ _ hl hI hf
            · replace hf := if_t h_ hf
              refine lv_aload_n hx hb dX5_readsCross_67 rfl (lv_at hl 0 rfl) ?_
              refine lv_iconst (v := 1) hx hb dX5_readsCross_68 (by decide) ?_
              obtain ⟨r_12, re_13, hc_, hf⟩ := bd2_some hf
              refine call_Vi X hI (Cj.keep (Cj.keep Cj.nil)) (c_X5_isFaulty l g a_re a_ta (a_to 0) re_9 ta (1 : Int32) r_12 re_13 hc_) ⟨rfl, rfl⟩ ⟨ht _ w_793, w_796, ht _ w_140, lk_X5_isFaulty⟩ w_795 w_10 rfl rfl rfl hl rfl rfl dX5_readsCross_69 rfl rfl rfl rfl (fun H locs hI => ?_)
              obtain ⟨hzb_, hf⟩ := zb_some hf
              cases hf
              exact end_z hQ hA X hI (zb_n hzb_) dX5_readsCross_72
        · replace hf := if_t h_ hf
          refine lv_iconst (v := 0) hx hb dX5_readsCross_43 (by decide) ?_
          cases hf
          exact end_z hQ hA X hI rfl dX5_readsCross_44
  · replace hf := if_f h_ hf
    refine lv_aload_n hx hb dX5_readsCross_12 rfl (lv_at hl 0 rfl) ?_
    refine lv_iconst (v := 5) hx hb dX5_readsCross_13 (by decide) ?_
    obtain ⟨r_14, re_15, hc_, hf⟩ := bd2_some hf
    refine call_Vi X hI (Cj.keep (Cj.keep Cj.nil)) (c_X5_isFaulty l g a_re a_ta (a_to 0) re ta (5 : Int32) r_14 re_15 hc_) ⟨rfl, rfl⟩ ⟨ht _ w_793, w_796, ht _ w_140, lk_X5_isFaulty⟩ w_795 w_10 rfl rfl rfl hl rfl rfl dX5_readsCross_14 rfl rfl rfl rfl (fun H locs hI => ?_)
    obtain ⟨hzb_, hf⟩ := zb_some hf
    cases hf
    exact end_z hQ hA X hI (zb_n hzb_) dX5_readsCross_17
abbrev rm_X5_takesNewName : Room := { frames := 2, cells := 0, slots := 0, locals := 46 }
set_option maxRecDepth 20000 in
theorem c_X5_takesNewName (l : Launch) (g : GT) (a_re : Nat → Nat) (a_ta : Nat → Nat) (a_to : Nat → Nat) (re : ReS) (ta : TaS) (to : ToS) (r_ : Int32) (o_re : ReS) (hf : f_X5_takesNewName re ta to = some (r_, o_re)) : CI l yX5_takesNewName cX5_takesNewName 2 (some .boolean) rm_X5_takesNewName g [.ref (a_re 0)] (wRe g a_re (a_ta 0) (a_to 0) re ++ (wTa g a_ta ta ++ (wTo g a_to to ++ []))) (wRe g a_re (a_ta 0) (a_to 0) o_re ++ (wTa g a_ta ta ++ (wTo g a_to to ++ []))) r_ := by
  refine start2 (y := yX5_takesNewName) (cc := cX5_takesNewName) (n := 2) (av := [.ref (a_re 0)]) (ws := (wRe g a_re (a_ta 0) (a_to 0) re ++ (wTa g a_ta ta ++ (wTo g a_to to ++ [])))) (Qc := fun sz => QI g (wRe g a_re (a_ta 0) (a_to 0) re ++ (wTa g a_ta ta ++ (wTo g a_to to ++ []))) (wRe g a_re (a_ta 0) (a_to 0) o_re ++ (wTa g a_ta ta ++ (wTo g a_to to ++ []))) r_ sz) (by decide) rfl ?_
  intro p e s m args below meth c ls Q A ha hQ hA X hl hI hin
  have X : Cx p s m args meth c cX5_takesNewName 2 RX5 (some .boolean) := X
  have hl : lv_has ls 2 [(0, .ref (a_re 0))] := hl
  obtain ⟨hx, hb, hml, hown, ht, hr, hlk⟩ := id X
  clear ha hin
  have L_44 : ∀ (t0i : Int32) (re : ReS) (H : Heap) (locs : List Loc) (ls : Array Slot), lv_has ls 2 [(0, .ref (a_re 0))] → In g A s.heap s (wRe g a_re (a_ta 0) (a_to 0) re ++ (wTa g a_ta ta ++ (wTo g a_to to ++ []))) H locs → f_X5_takesNewName_L44 t0i re ta = some (r_, o_re) → W p l e rm_X5_takesNewName s m args below meth c H locs 0 0 Q (F0 m 44 ls [.int t0i]) := by
    intro t0i re H locs ls hl hI hf
    unfold f_X5_takesNewName_L44 at hf
    refine lv_istore_n (lv' := [(1, .int t0i), (0, .ref (a_re 0))]) hx hb dX5_takesNewName_44 rfl hl (by decide) rfl (fun ls hl => ?_)
    refine lv_iload_n hx hb dX5_takesNewName_45 rfl (lv_at hl 0 rfl) ?_
    refine lv_if_eq (tgt := 57) hx hb dX5_takesNewName_46 (by decide) (fun h_ => ?_) (fun h_ => ?_)
    · replace hf := if_t h_ hf
      refine lv_iconst (v := 1) hx hb dX5_takesNewName_57 (by decide) ?_
      refine lv_goto (tgt := 62) hx hb dX5_takesNewName_58 (by decide) ?_
      cases hf
      exact end_z hQ hA X hI rfl dX5_takesNewName_62
    · replace hf := if_f h_ hf
      refine lv_aload_n hx hb dX5_takesNewName_49 rfl (lv_at hl 1 rfl) ?_
      refine lv_iconst (v := 3) hx hb dX5_takesNewName_50 (by decide) ?_
      obtain ⟨r_5, re_6, hc_, hf⟩ := bd2_some hf
      refine call_Vi X hI (Cj.keep (Cj.keep Cj.nil)) (c_X5_isFaulty l g a_re a_ta (a_to 0) re ta (3 : Int32) r_5 re_6 hc_) ⟨rfl, rfl⟩ ⟨ht _ w_793, w_796, ht _ w_140, lk_X5_isFaulty⟩ w_795 w_10 rfl rfl rfl hl rfl rfl dX5_takesNewName_51 rfl rfl rfl rfl (fun H locs hI => ?_)
      refine lv_if_eq (tgt := 61) hx hb dX5_takesNewName_54 (by decide) (fun h_ => ?_) (fun h_ => ?_)
      · replace hf := if_t h_ hf
        refine lv_iconst (v := 0) hx hb dX5_takesNewName_61 (by decide) ?_
        cases hf
        exact end_z hQ hA X hI rfl dX5_takesNewName_62
      · replace hf := if_f h_ hf
        refine lv_iconst (v := 1) hx hb dX5_takesNewName_57 (by decide) ?_
        refine lv_goto (tgt := 62) hx hb dX5_takesNewName_58 (by decide) ?_
        cases hf
        exact end_z hQ hA X hI rfl dX5_takesNewName_62
  have L_39 : ∀ (re : ReS) (H : Heap) (locs : List Loc) (ls : Array Slot), lv_has ls 2 [(0, .ref (a_re 0))] → In g A s.heap s (wRe g a_re (a_ta 0) (a_to 0) re ++ (wTa g a_ta ta ++ (wTo g a_to to ++ []))) H locs → f_X5_takesNewName_L39 re ta = some (r_, o_re) → W p l e rm_X5_takesNewName s m args below meth c H locs 0 0 Q (F0 m 39 ls []) := by
    intro re H locs ls hl hI hf
    unfold f_X5_takesNewName_L39 at hf
    refine lv_iconst (v := 1) hx hb dX5_takesNewName_39 (by decide) ?_
    refine lv_goto (tgt := 44) hx hb dX5_takesNewName_40 (by decide) ?_
    exact L_44 (1 : Int32) re _ _ _ hl hI hf
  unfold f_X5_takesNewName at hf
  refine lv_aload_n hx hb dX5_takesNewName_0 rfl (lv_at hl 0 rfl) ?_
  obtain ⟨r_1, re_2, hc_, hf⟩ := bd2_some hf
  refine call_Vi X hI (Cj.keep (Cj.keep Cj.nil)) (c_X5_takesName l g a_re a_ta (a_to 0) re ta r_1 re_2 hc_) ⟨rfl, rfl⟩ ⟨ht _ w_817, w_820, ht _ w_140, lk_X5_takesName⟩ w_819 w_16 rfl rfl rfl hl rfl rfl dX5_takesNewName_1 rfl rfl rfl rfl (fun H locs hI => ?_)
  refine lv_if_ne (tgt := 9) hx hb dX5_takesNewName_4 (by decide) (fun h_ => ?_) (fun h_ => ?_)
  · replace hf := if_f h_ hf
    refine lv_aload_n hx hb dX5_takesNewName_9 rfl (lv_at hl 0 rfl) ?_
    refine g_Re_told X hI has_Re.l (X.fl w_354) dX5_takesNewName_10 ?_
    refine lv_aload_n hx hb dX5_takesNewName_13 rfl (lv_at hl 0 rfl) ?_
    refine g_Re_name X hI has_Re.l (X.fl w_362) dX5_takesNewName_14 ?_
    obtain ⟨r_3, hc_, hf⟩ := bd1_some hf
    refine call_Vi X hI (Cj.skip (Cj.skip (Cj.keep Cj.id))) (c_X9_personNamed l g a_to to (Re_name re_2) r_3 hc_) ⟨rfl, rfl⟩ ⟨ht _ w_821, w_824, ht _ w_146, lk_X9_personNamed⟩ w_822 w_823 rfl rfl rfl hl rfl rfl dX5_takesNewName_17 rfl rfl rfl rfl (fun H locs hI => ?_)
    refine lv_iconst (v := (-1)) hx hb dX5_takesNewName_20 (by decide) ?_
    refine lv_icmp_ne (tgt := 39) hx hb dX5_takesNewName_21 (by decide) (fun h_ => ?_) (fun h_ => ?_)
    · replace hf := if_f h_ hf
      exact L_39 re_2 _ _ _ hl hI hf
    · replace hf := if_t h_ hf
      refine lv_aload_n hx hb dX5_takesNewName_24 rfl (lv_at hl 0 rfl) ?_
      refine g_Re_told X hI has_Re.l (X.fl w_354) dX5_takesNewName_25 ?_
      refine lv_aload_n hx hb dX5_takesNewName_28 rfl (lv_at hl 0 rfl) ?_
      refine g_Re_name X hI has_Re.l (X.fl w_362) dX5_takesNewName_29 ?_
      obtain ⟨r_4, hc_, hf⟩ := bd1_some hf
      refine call_Vi X hI (Cj.skip (Cj.skip (Cj.keep Cj.id))) (c_X9_linkNamed l g a_to to (Re_name re_2) r_4 hc_) ⟨rfl, rfl⟩ ⟨ht _ w_828, w_831, ht _ w_146, lk_X9_linkNamed⟩ w_829 w_830 rfl rfl rfl hl rfl rfl dX5_takesNewName_32 rfl rfl rfl rfl (fun H locs hI => ?_)
      refine lv_iconst (v := (-1)) hx hb dX5_takesNewName_35 (by decide) ?_
      refine lv_icmp_eq (tgt := 43) hx hb dX5_takesNewName_36 (by decide) (fun h_ => ?_) (fun h_ => ?_)
      · replace hf := if_t h_ hf
        refine lv_iconst (v := 0) hx hb dX5_takesNewName_43 (by decide) ?_
        exact L_44 (0 : Int32) re_2 _ _ _ hl hI hf
      · replace hf := if_f h_ hf
        exact L_39 re_2 _ _ _ hl hI hf
  · replace hf := if_t h_ hf
    refine lv_iconst (v := 0) hx hb dX5_takesNewName_7 (by decide) ?_
    cases hf
    exact end_z hQ hA X hI rfl dX5_takesNewName_8
abbrev rm_X5_takesPerson : Room := { frames := 2, cells := 0, slots := 0, locals := 46 }
set_option maxRecDepth 20000 in
theorem c_X5_takesPerson (l : Launch) (g : GT) (a_re : Nat → Nat) (a_ta : Nat → Nat) (a_to : Nat → Nat) (re : ReS) (ta : TaS) (to : ToS) (r_ : Int32) (o_re : ReS) (hf : f_X5_takesPerson re ta to = some (r_, o_re)) : CI l yX5_takesPerson cX5_takesPerson 1 (some .boolean) rm_X5_takesPerson g [.ref (a_re 0)] (wRe g a_re (a_ta 0) (a_to 0) re ++ (wTa g a_ta ta ++ (wTo g a_to to ++ []))) (wRe g a_re (a_ta 0) (a_to 0) o_re ++ (wTa g a_ta ta ++ (wTo g a_to to ++ []))) r_ := by
  refine start2 (y := yX5_takesPerson) (cc := cX5_takesPerson) (n := 1) (av := [.ref (a_re 0)]) (ws := (wRe g a_re (a_ta 0) (a_to 0) re ++ (wTa g a_ta ta ++ (wTo g a_to to ++ [])))) (Qc := fun sz => QI g (wRe g a_re (a_ta 0) (a_to 0) re ++ (wTa g a_ta ta ++ (wTo g a_to to ++ []))) (wRe g a_re (a_ta 0) (a_to 0) o_re ++ (wTa g a_ta ta ++ (wTo g a_to to ++ []))) r_ sz) (by decide) rfl ?_
  intro p e s m args below meth c ls Q A ha hQ hA X hl hI hin
  have X : Cx p s m args meth c cX5_takesPerson 1 RX5 (some .boolean) := X
  have hl : lv_has ls 1 [(0, .ref (a_re 0))] := hl
  obtain ⟨hx, hb, hml, hown, ht, hr, hlk⟩ := id X
  clear ha hin
  unfold f_X5_takesPerson at hf
  refine lv_aload_n hx hb dX5_takesPerson_0 rfl (lv_at hl 0 rfl) ?_
  obtain ⟨r_1, re_2, hc_, hf⟩ := bd2_some hf
  refine call_Vi X hI (Cj.keep (Cj.keep Cj.nil)) (c_X5_takesName l g a_re a_ta (a_to 0) re ta r_1 re_2 hc_) ⟨rfl, rfl⟩ ⟨ht _ w_817, w_820, ht _ w_140, lk_X5_takesName⟩ w_819 w_16 rfl rfl rfl hl rfl rfl dX5_takesPerson_1 rfl rfl rfl rfl (fun H locs hI => ?_)
  refine lv_if_ne (tgt := 9) hx hb dX5_takesPerson_4 (by decide) (fun h_ => ?_) (fun h_ => ?_)
  · replace hf := if_f h_ hf
    refine lv_aload_n hx hb dX5_takesPerson_9 rfl (lv_at hl 0 rfl) ?_
    refine lv_aload_n hx hb dX5_takesPerson_10 rfl (lv_at hl 0 rfl) ?_
    refine g_Re_told X hI has_Re.l (X.fl w_354) dX5_takesPerson_11 ?_
    refine lv_aload_n hx hb dX5_takesPerson_14 rfl (lv_at hl 0 rfl) ?_
    refine g_Re_name X hI has_Re.l (X.fl w_362) dX5_takesPerson_15 ?_
    obtain ⟨r_3, hc_, hf⟩ := bd1_some hf
    refine call_Vi X hI (Cj.skip (Cj.skip (Cj.keep Cj.id))) (c_X9_personNamed l g a_to to (Re_name re_2) r_3 hc_) ⟨rfl, rfl⟩ ⟨ht _ w_821, w_824, ht _ w_146, lk_X9_personNamed⟩ w_822 w_823 rfl rfl rfl hl rfl rfl dX5_takesPerson_18 rfl rfl rfl rfl (fun H locs hI => ?_)
    refine p_Re_taken X hI up_Re_taken.l (X.fl w_361) dX5_takesPerson_21 (fun H locs hI => ?_)
    generalize hz_ : (Re_taken' re_2 r_3) = re_4 at hI hf
    clear hz_
    replace hf := lt_e hf
    refine lv_aload_n hx hb dX5_takesPerson_24 rfl (lv_at hl 0 rfl) ?_
    refine g_Re_taken X hI has_Re.l (X.fl w_361) dX5_takesPerson_25 ?_
    refine lv_iconst (v := (-1)) hx hb dX5_takesPerson_28 (by decide) ?_
    refine lv_icmp_ne (tgt := 40) hx hb dX5_takesPerson_29 (by decide) (fun h_ => ?_) (fun h_ => ?_)
    · replace hf := if_f h_ hf
      refine lv_iconst (v := 1) hx hb dX5_takesPerson_40 (by decide) ?_
      refine lv_goto (tgt := 45) hx hb dX5_takesPerson_41 (by decide) ?_
      cases hf
      exact end_z hQ hA X hI rfl dX5_takesPerson_45
    · replace hf := if_t h_ hf
      refine lv_aload_n hx hb dX5_takesPerson_32 rfl (lv_at hl 0 rfl) ?_
      refine lv_iconst (v := 2) hx hb dX5_takesPerson_33 (by decide) ?_
      obtain ⟨r_5, re_6, hc_, hf⟩ := bd2_some hf
      refine call_Vi X hI (Cj.keep (Cj.keep Cj.nil)) (c_X5_isFaulty l g a_re a_ta (a_to 0) re_4 ta (2 : Int32) r_5 re_6 hc_) ⟨rfl, rfl⟩ ⟨ht _ w_793, w_796, ht _ w_140, lk_X5_isFaulty⟩ w_795 w_10 rfl rfl rfl hl rfl rfl dX5_takesPerson_34 rfl rfl rfl rfl (fun H locs hI => ?_)
      refine lv_if_eq (tgt := 44) hx hb dX5_takesPerson_37 (by decide) (fun h_ => ?_) (fun h_ => ?_)
      · replace hf := if_t h_ hf
        refine lv_iconst (v := 0) hx hb dX5_takesPerson_44 (by decide) ?_
        cases hf
        exact end_z hQ hA X hI rfl dX5_takesPerson_45
      · replace hf := if_f h_ hf
        refine lv_iconst (v := 1) hx hb dX5_takesPerson_40 (by decide) ?_
        refine lv_goto (tgt := 45) hx hb dX5_takesPerson_41 (by decide) ?_
        cases hf
        exact end_z hQ hA X hI rfl dX5_takesPerson_45
  · replace hf := if_t h_ hf
    refine lv_iconst (v := 0) hx hb dX5_takesPerson_7 (by decide) ?_
    cases hf
    exact end_z hQ hA X hI rfl dX5_takesPerson_8
abbrev rm_X5_takesHand : Room := { frames := 2, cells := 0, slots := 0, locals := 41 }
set_option maxRecDepth 20000 in
theorem c_X5_takesHand (l : Launch) (g : GT) (a_re : Nat → Nat) (a_ta : Nat → Nat) (a_to : Nat → Nat) (re : ReS) (ta : TaS) (to : ToS) (p1 : Int32) (r_ : Int32) (o_re : ReS) (hf : f_X5_takesHand re ta to p1 = some (r_, o_re)) : CI l yX5_takesHand cX5_takesHand 2 (some .boolean) rm_X5_takesHand g [.ref (a_re 0), .int p1] (wRe g a_re (a_ta 0) (a_to 0) re ++ (wTa g a_ta ta ++ (wTo g a_to to ++ []))) (wRe g a_re (a_ta 0) (a_to 0) o_re ++ (wTa g a_ta ta ++ (wTo g a_to to ++ []))) r_ := by
  refine start2 (y := yX5_takesHand) (cc := cX5_takesHand) (n := 2) (av := [.ref (a_re 0), .int p1]) (ws := (wRe g a_re (a_ta 0) (a_to 0) re ++ (wTa g a_ta ta ++ (wTo g a_to to ++ [])))) (Qc := fun sz => QI g (wRe g a_re (a_ta 0) (a_to 0) re ++ (wTa g a_ta ta ++ (wTo g a_to to ++ []))) (wRe g a_re (a_ta 0) (a_to 0) o_re ++ (wTa g a_ta ta ++ (wTo g a_to to ++ []))) r_ sz) (by decide) rfl ?_
  intro p e s m args below meth c ls Q A ha hQ hA X hl hI hin
  have X : Cx p s m args meth c cX5_takesHand 2 RX5 (some .boolean) := X
  have hl : lv_has ls 2 [(0, .ref (a_re 0)), (1, .int p1)] := hl
  obtain ⟨hx, hb, hml, hown, ht, hr, hlk⟩ := id X
  clear ha hin
  have L_46 : ∀ (t1i : Int32) (t2i : Int32) (re : ReS) (H : Heap) (locs : List Loc) (ls : Array Slot), lv_has ls 2 [(0, .ref (a_re 0))] → In g A s.heap s (wRe g a_re (a_ta 0) (a_to 0) re ++ (wTa g a_ta ta ++ (wTo g a_to to ++ []))) H locs → f_X5_takesHand_L46 t1i t2i re ta to = some (r_, o_re) → W p l e rm_X5_takesHand s m args below meth c H locs 0 0 Q (F0 m 46 ls [.int t2i, .int t1i, .ref (a_re 0)]) := by
    intro t1i t2i re H locs ls hl hI hf
    unfold f_X5_takesHand_L46 at hf
    refine lv_iadd hx hb dX5_takesHand_46 ?_
    refine p_Re_taken X hI up_Re_taken.l (X.fl w_361) dX5_takesHand_47 (fun H locs hI => ?_)
    generalize hz_ : (Re_taken' re (t1i + t2i)) = re_7 at hI hf
    clear hz_
    replace hf := lt_e hf
    refine lv_aload_n hx hb dX5_takesHand_50 rfl (lv_at hl 0 rfl) ?_
    refine g_Re_told X hI has_Re.l (X.fl w_354) dX5_takesHand_51 ?_
    refine lv_aload_n hx hb dX5_takesHand_54 rfl (lv_at hl 0 rfl) ?_
    refine g_Re_taken X hI has_Re.l (X.fl w_361) dX5_takesHand_55 ?_
    obtain ⟨r_8, hc_, hf⟩ := bd1_some hf
    refine call_Vi X hI (Cj.skip (Cj.skip (Cj.keep Cj.id))) (c_X9_isHeld l g a_to to (Re_taken re_7) r_8 hc_) ⟨rfl, rfl⟩ ⟨ht _ w_848, w_851, ht _ w_146, lk_X9_isHeld⟩ w_849 w_850 rfl rfl rfl hl rfl rfl dX5_takesHand_58 rfl rfl rfl rfl (fun H locs hI => ?_)
    refine lv_if_eq (tgt := 72) hx hb dX5_takesHand_61 (by decide) (fun h_ => ?_) (fun h_ => ?_)
    · replace hf := if_t h_ hf
      refine lv_iconst (v := 1) hx hb dX5_takesHand_72 (by decide) ?_
      refine lv_goto (tgt := 77) hx hb dX5_takesHand_73 (by decide) ?_
      cases hf
      exact end_z hQ hA X hI rfl dX5_takesHand_77
    · replace hf := if_f h_ hf
      refine lv_aload_n hx hb dX5_takesHand_64 rfl (lv_at hl 0 rfl) ?_
      refine lv_iconst (v := 3) hx hb dX5_takesHand_65 (by decide) ?_
      obtain ⟨r_9, re_10, hc_, hf⟩ := bd2_some hf
      refine call_Vi X hI (Cj.keep (Cj.keep Cj.nil)) (c_X5_isFaulty l g a_re a_ta (a_to 0) re_7 ta (3 : Int32) r_9 re_10 hc_) ⟨rfl, rfl⟩ ⟨ht _ w_793, w_796, ht _ w_140, lk_X5_isFaulty⟩ w_795 w_10 rfl rfl rfl hl rfl rfl dX5_takesHand_66 rfl rfl rfl rfl (fun H locs hI => ?_)
      refine lv_if_eq (tgt := 76) hx hb dX5_takesHand_69 (by decide) (fun h_ => ?_) (fun h_ => ?_)
      · replace hf := if_t h_ hf
        refine lv_iconst (v := 0) hx hb dX5_takesHand_76 (by decide) ?_
        cases hf
        exact end_z hQ hA X hI rfl dX5_takesHand_77
      · replace hf := if_f h_ hf
        refine lv_iconst (v := 1) hx hb dX5_takesHand_72 (by decide) ?_
        refine lv_goto (tgt := 77) hx hb dX5_takesHand_73 (by decide) ?_
        cases hf
        exact end_z hQ hA X hI rfl dX5_takesHand_77
  have L_28 : ∀ (x1 : Int32) (re : ReS) (H : Heap) (locs : List Loc) (ls : Array Slot), lv_has ls 2 [(0, .ref (a_re 0)), (1, .int x1)] → In g A s.heap s (wRe g a_re (a_ta 0) (a_to 0) re ++ (wTa g a_ta ta ++ (wTo g a_to to ++ []))) H locs → f_X5_takesHand_L28 x1 re ta to = some (r_, o_re) → W p l e rm_X5_takesHand s m args below meth c H locs 0 0 Q (F0 m 28 ls []) := by
    intro x1 re H locs ls hl hI hf
    unfold f_X5_takesHand_L28 at hf
    refine lv_aload_n hx hb dX5_takesHand_28 rfl (lv_at hl 0 rfl) ?_
    refine lv_iconst (v := 2) hx hb dX5_takesHand_29 (by decide) ?_
    refine lv_iload_n hx hb dX5_takesHand_30 rfl (lv_at hl 1 rfl) ?_
    refine lv_imul hx hb dX5_takesHand_31 ?_
    refine lv_aload_n hx hb dX5_takesHand_32 rfl (lv_at hl 0 rfl) ?_
    refine lv_bipush (v := 7) hx hb dX5_takesHand_33 (by decide) ?_
    obtain ⟨r_6, hc_, hf⟩ := bd1_some hf
    refine call_Vi X hI (Cj.keep (Cj.keep Cj.nil)) (c_X5_isWord l g a_re a_ta (a_to 0) re ta (7 : Int32) r_6 hc_) ⟨rfl, rfl⟩ ⟨ht _ w_785, w_788, ht _ w_140, lk_X5_isWord⟩ w_787 w_8 rfl rfl rfl hl rfl rfl dX5_takesHand_35 rfl rfl rfl rfl (fun H locs hI => ?_)
    refine lv_if_eq (tgt := 45) hx hb dX5_takesHand_38 (by decide) (fun h_ => ?_) (fun h_ => ?_)
    · replace hf := if_t h_ hf
      refine lv_iconst (v := 0) hx hb dX5_takesHand_45 (by decide) ?_
      exact L_46 ((2 : Int32) * x1) (0 : Int32) re _ _ _ (lv_sub hl [0] rfl) hI hf
    · replace hf := if_f h_ hf
      refine lv_iconst (v := 1) hx hb dX5_takesHand_41 (by decide) ?_
      refine lv_goto (tgt := 46) hx hb dX5_takesHand_42 (by decide) ?_
      exact L_46 ((2 : Int32) * x1) (1 : Int32) re _ _ _ (lv_sub hl [0] rfl) hI hf
  unfold f_X5_takesHand at hf
  refine lv_aload_n hx hb dX5_takesHand_0 rfl (lv_at hl 0 rfl) ?_
  obtain ⟨re_1, hc_, hf⟩ := bd1_some hf
  refine call_Vv X hI (Cj.keep (Cj.keep Cj.nil)) (c_X5_advance l g a_re a_ta (a_to 0) re ta re_1 hc_) ⟨rfl, rfl⟩ ⟨ht _ w_781, w_784, ht _ w_140, lk_X5_advance⟩ w_783 w_7 rfl rfl rfl hl rfl rfl dX5_takesHand_1 rfl rfl rfl rfl (fun H locs hI => ?_)
  refine lv_aload_n hx hb dX5_takesHand_4 rfl (lv_at hl 0 rfl) ?_
  refine lv_bipush (v := 6) hx hb dX5_takesHand_5 (by decide) ?_
  obtain ⟨r_2, hc_, hf⟩ := bd1_some hf
  refine call_Vi X hI (Cj.keep (Cj.keep Cj.nil)) (c_X5_isWord l g a_re a_ta (a_to 0) re_1 ta (6 : Int32) r_2 hc_) ⟨rfl, rfl⟩ ⟨ht _ w_785, w_788, ht _ w_140, lk_X5_isWord⟩ w_787 w_8 rfl rfl rfl hl rfl rfl dX5_takesHand_7 rfl rfl rfl rfl (fun H locs hI => ?_)
  refine lv_if_ne (tgt := 28) hx hb dX5_takesHand_10 (by decide) (fun h_ => ?_) (fun h_ => ?_)
  · replace hf := if_f h_ hf
    exact L_28 p1 re_1 _ _ _ hl hI hf
  · replace hf := if_t h_ hf
    refine lv_aload_n hx hb dX5_takesHand_13 rfl (lv_at hl 0 rfl) ?_
    refine lv_bipush (v := 7) hx hb dX5_takesHand_14 (by decide) ?_
    obtain ⟨r_3, hc_, hf⟩ := bd1_some hf
    refine call_Vi X hI (Cj.keep (Cj.keep Cj.nil)) (c_X5_isWord l g a_re a_ta (a_to 0) re_1 ta (7 : Int32) r_3 hc_) ⟨rfl, rfl⟩ ⟨ht _ w_785, w_788, ht _ w_140, lk_X5_isWord⟩ w_787 w_8 rfl rfl rfl hl rfl rfl dX5_takesHand_16 rfl rfl rfl rfl (fun H locs hI => ?_)
    refine lv_if_ne (tgt := 28) hx hb dX5_takesHand_19 (by decide) (fun h_ => ?_) (fun h_ => ?_)
    · replace hf := if_f h_ hf
      exact L_28 p1 re_1 _ _ _ hl hI hf
    · replace hf := if_t h_ hf
      refine lv_aload_n hx hb dX5_takesHand_22 rfl (lv_at hl 0 rfl) ?_
      refine lv_iconst (v := 1) hx hb dX5_takesHand_23 (by decide) ?_
      obtain ⟨r_4, re_5, hc_, hf⟩ := bd2_some hf
      refine call_Vi X hI (Cj.keep (Cj.keep Cj.nil)) (c_X5_isFaulty l g a_re a_ta (a_to 0) re_1 ta (1 : Int32) r_4 re_5 hc_) ⟨rfl, rfl⟩ ⟨ht _ w_793, w_796, ht _ w_140, lk_X5_isFaulty⟩ w_795 w_10 rfl rfl rfl hl rfl rfl dX5_takesHand_24 rfl rfl rfl rfl (fun H locs hI => ?_)
      obtain ⟨hzb_, hf⟩ := zb_some hf
      cases hf
      exact end_z hQ hA X hI (zb_n hzb_) dX5_takesHand_27
abbrev rm_X5_readsHold : Room := { frames := 3, cells := 0, slots := 0, locals := 67 }
set_option maxRecDepth 20000 in
theorem c_X5_readsHold (l : Launch) (g : GT) (a_re : Nat → Nat) (a_ta : Nat → Nat) (a_to : Nat → Nat) (re : ReS) (ta : TaS) (to : ToS) (r_ : Int32) (o_re : ReS) (o_to : ToS) (hf : f_X5_readsHold re ta to = some (r_, o_re, o_to)) : CI l yX5_readsHold cX5_readsHold 6 (some .boolean) rm_X5_readsHold g [.ref (a_re 0)] (wRe g a_re (a_ta 0) (a_to 0) re ++ (wTa g a_ta ta ++ (wTo g a_to to ++ []))) (wRe g a_re (a_ta 0) (a_to 0) o_re ++ (wTa g a_ta ta ++ (wTo g a_to o_to ++ []))) r_ := by
  refine start2 (y := yX5_readsHold) (cc := cX5_readsHold) (n := 6) (av := [.ref (a_re 0)]) (ws := (wRe g a_re (a_ta 0) (a_to 0) re ++ (wTa g a_ta ta ++ (wTo g a_to to ++ [])))) (Qc := fun sz => QI g (wRe g a_re (a_ta 0) (a_to 0) re ++ (wTa g a_ta ta ++ (wTo g a_to to ++ []))) (wRe g a_re (a_ta 0) (a_to 0) o_re ++ (wTa g a_ta ta ++ (wTo g a_to o_to ++ []))) r_ sz) (by decide) rfl ?_
  intro p e s m args below meth c ls Q A ha hQ hA X hl hI hin
  have X : Cx p s m args meth c cX5_readsHold 6 RX5 (some .boolean) := X
  have hl : lv_has ls 6 [(0, .ref (a_re 0))] := hl
  obtain ⟨hx, hb, hml, hown, ht, hr, hlk⟩ := id X
  clear ha hin
  have L_106 : ∀ (re : ReS) (to : ToS) (H : Heap) (locs : List Loc) (ls : Array Slot), lv_has ls 6 [(0, .ref (a_re 0))] → In g A s.heap s (wRe g a_re (a_ta 0) (a_to 0) re ++ (wTa g a_ta ta ++ (wTo g a_to to ++ []))) H locs → f_X5_readsHold_L106 re to ta = some (r_, o_re, o_to) → W p l e rm_X5_readsHold s m args below meth c H locs 0 0 Q (F0 m 106 ls []) := by
    intro re to H locs ls hl hI hf
    unfold f_X5_readsHold_L106 at hf
    refine lv_aload_n hx hb dX5_readsHold_106 rfl (lv_at hl 0 rfl) ?_
    refine lv_iconst (v := 3) hx hb dX5_readsHold_107 (by decide) ?_
    obtain ⟨r_16, re_17, hc_, hf⟩ := bd2_some hf
    refine call_Vi X hI (Cj.keep (Cj.keep Cj.nil)) (c_X5_isFaulty l g a_re a_ta (a_to 0) re ta (3 : Int32) r_16 re_17 hc_) ⟨rfl, rfl⟩ ⟨ht _ w_793, w_796, ht _ w_140, lk_X5_isFaulty⟩ w_795 w_10 rfl rfl rfl hl rfl rfl dX5_readsHold_108 rfl rfl rfl rfl (fun H locs hI => ?_)
    obtain ⟨hzb_, hf⟩ := zb_some hf
    cases hf
    exact end_z hQ hA X hI (zb_n hzb_) dX5_readsHold_111
  have L_112 : ∀ (x1 : Int64) (x4 : Int32) (x5 : Int32) (re : ReS) (to : ToS) (H : Heap) (locs : List Loc) (ls : Array Slot), lv_has ls 6 [(0, .ref (a_re 0)), (1, .long x1), (4, .int x4), (5, .int x5)] → In g A s.heap s (wRe g a_re (a_ta 0) (a_to 0) re ++ (wTa g a_ta ta ++ (wTo g a_to to ++ []))) H locs → f_X5_readsHold_L112 x1 x4 x5 re to ta = some (r_, o_re, o_to) → W p l e rm_X5_readsHold s m args below meth c H locs 0 0 Q (F0 m 112 ls []) := by
    intro x1 x4 x5 re to H locs ls hl hI hf
    unfold f_X5_readsHold_L112 at hf
    refine lv_aload_n hx hb dX5_readsHold_112 rfl (lv_at hl 0 rfl) ?_
    refine lv_iload hx hb dX5_readsHold_113 (lv_at hl 3 rfl) ?_
    obtain ⟨r_18, re_19, hc_, hf⟩ := bd2_some hf
    refine call_Vi X hI (Cj.keep (Cj.keep (Cj.keep Cj.id))) (c_X5_takesHand l g a_re a_ta a_to re ta to x5 r_18 re_19 hc_) ⟨rfl, rfl⟩ ⟨ht _ w_844, w_847, ht _ w_140, lk_X5_takesHand⟩ w_846 w_19 rfl rfl rfl hl rfl rfl dX5_readsHold_115 rfl rfl rfl rfl (fun H locs hI => ?_)
    refine lv_if_ne (tgt := 123) hx hb dX5_readsHold_118 (by decide) (fun h_ => ?_) (fun h_ => ?_)
    · replace hf := if_f h_ hf
      refine lv_aload_n hx hb dX5_readsHold_123 rfl (lv_at hl 0 rfl) ?_
      refine g_Re_told X hI has_Re.l (X.fl w_354) dX5_readsHold_124 ?_
      refine lv_lload_n hx hb dX5_readsHold_127 rfl (lv_at hl 1 rfl) ?_
      refine lv_iload hx hb dX5_readsHold_128 (lv_at hl 2 rfl) ?_
      refine lv_aload_n hx hb dX5_readsHold_130 rfl (lv_at hl 0 rfl) ?_
      refine g_Re_taken X hI has_Re.l (X.fl w_361) dX5_readsHold_131 ?_
      obtain ⟨to_20, hc_, hf⟩ := bd1_some hf
      refine call_Vv X hI (Cj.skip (Cj.skip (Cj.keep Cj.id))) (c_X9_addLink l g a_to to x1 x4 (Re_taken re_19) to_20 hc_) ⟨rfl, rfl⟩ ⟨ht _ w_859, w_862, ht _ w_146, lk_X9_addLink⟩ w_860 w_861 rfl rfl rfl hl rfl rfl dX5_readsHold_134 rfl rfl rfl rfl (fun H locs hI => ?_)
      refine lv_iconst (v := 1) hx hb dX5_readsHold_137 (by decide) ?_
      cases hf
      exact end_z hQ hA X hI rfl dX5_readsHold_138
    · replace hf := if_t h_ hf
      refine lv_iconst (v := 0) hx hb dX5_readsHold_121 (by decide) ?_
      cases hf
      exact end_z hQ hA X hI rfl dX5_readsHold_122
  unfold f_X5_readsHold at hf
  refine lv_aload_n hx hb dX5_readsHold_0 rfl (lv_at hl 0 rfl) ?_
  refine g_Re_told X hI has_Re.l (X.fl w_354) dX5_readsHold_1 ?_
  refine g_To_links X hI has_To.l.r.r (hI.fn (List.mem_of_getElem? (i := 14) rfl)) dX5_readsHold_4 ?_
  refine lv_bipush (v := 8) hx hb dX5_readsHold_7 (by decide) ?_
  refine lv_icmp_lt (tgt := 18) hx hb dX5_readsHold_9 (by decide) (fun h_ => ?_) (fun h_ => ?_)
  · replace hf := if_t h_ hf
    refine lv_aload_n hx hb dX5_readsHold_18 rfl (lv_at hl 0 rfl) ?_
    obtain ⟨r_1, re_2, hc_, hf⟩ := bd2_some hf
    refine call_Vi X hI (Cj.keep (Cj.keep (Cj.keep Cj.id))) (c_X5_takesNewName l g a_re a_ta a_to re ta to r_1 re_2 hc_) ⟨rfl, rfl⟩ ⟨ht _ w_813, w_816, ht _ w_140, lk_X5_takesNewName⟩ w_815 w_15 rfl rfl rfl hl rfl rfl dX5_readsHold_19 rfl rfl rfl rfl (fun H locs hI => ?_)
    refine lv_if_ne (tgt := 27) hx hb dX5_readsHold_22 (by decide) (fun h_ => ?_) (fun h_ => ?_)
    · replace hf := if_f h_ hf
      refine lv_aload_n hx hb dX5_readsHold_27 rfl (lv_at hl 0 rfl) ?_
      refine g_Re_name X hI has_Re.l (X.fl w_362) dX5_readsHold_28 ?_
      refine lv_topl (fun v_3 e_ => ?_)
      replace hf := lt_to e_ hf
      clear e_
      refine lv_lstore_n (lv' := [(1, .long v_3), (0, .ref (a_re 0))]) hx hb dX5_readsHold_31 rfl hl (by decide) rfl (fun ls hl => ?_)
      refine lv_aload_n hx hb dX5_readsHold_32 rfl (lv_at hl 1 rfl) ?_
      obtain ⟨r_4, re_5, hc_, hf⟩ := bd2_some hf
      refine call_Vi X hI (Cj.keep (Cj.keep (Cj.keep Cj.id))) (c_X5_takesPerson l g a_re a_ta a_to re_2 ta to r_4 re_5 hc_) ⟨rfl, rfl⟩ ⟨ht _ w_840, w_843, ht _ w_140, lk_X5_takesPerson⟩ w_842 w_18 rfl rfl rfl hl rfl rfl dX5_readsHold_33 rfl rfl rfl rfl (fun H locs hI => ?_)
      refine lv_if_ne (tgt := 41) hx hb dX5_readsHold_36 (by decide) (fun h_ => ?_) (fun h_ => ?_)
      · replace hf := if_f h_ hf
        refine lv_aload_n hx hb dX5_readsHold_41 rfl (lv_at hl 1 rfl) ?_
        refine g_Re_taken X hI has_Re.l (X.fl w_361) dX5_readsHold_42 ?_
        refine lv_topi (fun v_6 e_ => ?_)
        replace hf := lt_to e_ hf
        clear e_
        refine lv_istore_n (lv' := [(3, .int v_6), (1, .long v_3), (0, .ref (a_re 0))]) hx hb dX5_readsHold_45 rfl hl (by decide) rfl (fun ls hl => ?_)
        refine lv_aload_n hx hb dX5_readsHold_46 rfl (lv_at hl 2 rfl) ?_
        refine lv_iload_n hx hb dX5_readsHold_47 rfl (lv_at hl 0 rfl) ?_
        obtain ⟨r_7, re_8, hc_, hf⟩ := bd2_some hf
        refine call_Vi X hI (Cj.keep (Cj.keep (Cj.keep Cj.id))) (c_X5_takesHand l g a_re a_ta a_to re_5 ta to v_6 r_7 re_8 hc_) ⟨rfl, rfl⟩ ⟨ht _ w_844, w_847, ht _ w_140, lk_X5_takesHand⟩ w_846 w_19 rfl rfl rfl hl rfl rfl dX5_readsHold_48 rfl rfl rfl rfl (fun H locs hI => ?_)
        refine lv_if_ne (tgt := 56) hx hb dX5_readsHold_51 (by decide) (fun h_ => ?_) (fun h_ => ?_)
        · replace hf := if_f h_ hf
          refine lv_aload_n hx hb dX5_readsHold_56 rfl (lv_at hl 2 rfl) ?_
          refine g_Re_taken X hI has_Re.l (X.fl w_361) dX5_readsHold_57 ?_
          refine lv_topi (fun v_9 e_ => ?_)
          replace hf := lt_to e_ hf
          clear e_
          refine lv_istore (lv' := [(4, .int v_9), (3, .int v_6), (1, .long v_3), (0, .ref (a_re 0))]) hx hb dX5_readsHold_60 hl (by decide) rfl (fun ls hl => ?_)
          refine lv_aload_n hx hb dX5_readsHold_62 rfl (lv_at hl 3 rfl) ?_
          obtain ⟨r_10, re_11, hc_, hf⟩ := bd2_some hf
          refine call_Vi X hI (Cj.keep (Cj.keep (Cj.keep Cj.id))) (c_X5_takesPerson l g a_re a_ta a_to re_8 ta to r_10 re_11 hc_) ⟨rfl, rfl⟩ ⟨ht _ w_840, w_843, ht _ w_140, lk_X5_takesPerson⟩ w_842 w_18 rfl rfl rfl hl rfl rfl dX5_readsHold_63 rfl rfl rfl rfl (fun H locs hI => ?_)
          refine lv_if_ne (tgt := 71) hx hb dX5_readsHold_66 (by decide) (fun h_ => ?_) (fun h_ => ?_)
          · replace hf := if_f h_ hf
            refine lv_aload_n hx hb dX5_readsHold_71 rfl (lv_at hl 3 rfl) ?_
            refine g_Re_taken X hI has_Re.l (X.fl w_361) dX5_readsHold_72 ?_
            refine lv_topi (fun v_12 e_ => ?_)
            replace hf := lt_to e_ hf
            clear e_
            refine lv_istore (lv' := [(5, .int v_12), (4, .int v_9), (3, .int v_6), (1, .long v_3), (0, .ref (a_re 0))]) hx hb dX5_readsHold_75 hl (by decide) rfl (fun ls hl => ?_)
            refine lv_iload hx hb dX5_readsHold_77 (lv_at hl 0 rfl) ?_
            refine lv_iload_n hx hb dX5_readsHold_79 rfl (lv_at hl 2 rfl) ?_
            refine lv_icmp_eq (tgt := 106) hx hb dX5_readsHold_80 (by decide) (fun h_ => ?_) (fun h_ => ?_)
            · replace hf := if_t h_ hf
              exact L_106 re_11 to _ _ _ (lv_sub hl [4] rfl) hI hf
            · replace hf := if_f h_ hf
              refine lv_aload_n hx hb dX5_readsHold_83 rfl (lv_at hl 4 rfl) ?_
              refine g_Re_told X hI has_Re.l (X.fl w_354) dX5_readsHold_84 ?_
              refine g_To_once X hI has_To.l.r.r (hI.fn (List.mem_of_getElem? (i := 8) rfl)) dX5_readsHold_87 ?_
              refine lv_if_eq (tgt := 112) hx hb dX5_readsHold_90 (by decide) (fun h_ => ?_) (fun h_ => ?_)
              · replace hf := if_t h_ hf
                exact L_112 v_3 v_9 v_12 re_11 to _ _ _ (lv_sub hl [4, 3, 1, 0] rfl) hI hf
              · replace hf := if_f h_ hf
                refine lv_aload_n hx hb dX5_readsHold_93 rfl (lv_at hl 4 rfl) ?_
                refine g_Re_told X hI has_Re.l (X.fl w_354) dX5_readsHold_94 ?_
                refine lv_iload_n hx hb dX5_readsHold_97 rfl (lv_at hl 2 rfl) ?_
                refine lv_iload hx hb dX5_readsHold_98 (lv_at hl 0 rfl) ?_
                obtain ⟨r_13, hc_, hf⟩ := bd1_some hf
                refine call_Vi X hI (Cj.skip (Cj.skip (Cj.keep Cj.id))) (c_X9_areHeld l g a_to to v_6 v_12 r_13 hc_) ⟨rfl, rfl⟩ ⟨ht _ w_855, w_858, ht _ w_146, lk_X9_areHeld⟩ w_856 w_857 rfl rfl rfl hl rfl rfl dX5_readsHold_100 rfl rfl rfl rfl (fun H locs hI => ?_)
                refine lv_if_eq (tgt := 112) hx hb dX5_readsHold_103 (by decide) (fun h_ => ?_) (fun h_ => ?_)
                · replace hf := if_t h_ hf
                  exact L_112 v_3 v_9 v_12 re_11 to _ _ _ (lv_sub hl [4, 3, 1, 0] rfl) hI hf
                · replace hf := if_f h_ hf
                  exact L_106 re_11 to _ _ _ (lv_sub hl [4] rfl) hI hf
          · replace hf := if_t h_ hf
            refine lv_iconst (v := 0) hx hb dX5_readsHold_69 (by decide) ?_
            cases hf
            exact end_z hQ hA X hI rfl dX5_readsHold_70
        · replace hf := if_t h_ hf
          refine lv_iconst (v := 0) hx hb dX5_readsHold_54 (by decide) ?_
          cases hf
          exact end_z hQ hA X hI rfl dX5_readsHold_55
      · replace hf := if_t h_ hf
        refine lv_iconst (v := 0) hx hb dX5_readsHold_39 (by decide) ?_
        cases hf
        exact end_z hQ hA X hI rfl dX5_readsHold_40
    · replace hf := if_t h_ hf
      refine lv_iconst (v := 0) hx hb dX5_readsHold_25 (by decide) ?_
      cases hf
      exact end_z hQ hA X hI rfl dX5_readsHold_26
  · replace hf := if_f h_ hf
    refine lv_aload_n hx hb dX5_readsHold_12 rfl (lv_at hl 0 rfl) ?_
    refine lv_iconst (v := 5) hx hb dX5_readsHold_13 (by decide) ?_
    obtain ⟨r_14, re_15, hc_, hf⟩ := bd2_some hf
    refine call_Vi X hI (Cj.keep (Cj.keep Cj.nil)) (c_X5_isFaulty l g a_re a_ta (a_to 0) re ta (5 : Int32) r_14 re_15 hc_) ⟨rfl, rfl⟩ ⟨ht _ w_793, w_796, ht _ w_140, lk_X5_isFaulty⟩ w_795 w_10 rfl rfl rfl hl rfl rfl dX5_readsHold_14 rfl rfl rfl rfl (fun H locs hI => ?_)
    obtain ⟨hzb_, hf⟩ := zb_some hf
    cases hf
    exact end_z hQ hA X hI (zb_n hzb_) dX5_readsHold_17
abbrev rm_X5_readsPerson : Room := { frames := 3, cells := 0, slots := 0, locals := 67 }
set_option maxRecDepth 20000 in
theorem c_X5_readsPerson (l : Launch) (g : GT) (a_re : Nat → Nat) (a_ta : Nat → Nat) (a_to : Nat → Nat) (re : ReS) (ta : TaS) (to : ToS) (r_ : Int32) (o_re : ReS) (o_to : ToS) (hf : f_X5_readsPerson re ta to = some (r_, o_re, o_to)) : CI l yX5_readsPerson cX5_readsPerson 3 (some .boolean) rm_X5_readsPerson g [.ref (a_re 0)] (wRe g a_re (a_ta 0) (a_to 0) re ++ (wTa g a_ta ta ++ (wTo g a_to to ++ []))) (wRe g a_re (a_ta 0) (a_to 0) o_re ++ (wTa g a_ta ta ++ (wTo g a_to o_to ++ []))) r_ := by
  refine start2 (y := yX5_readsPerson) (cc := cX5_readsPerson) (n := 3) (av := [.ref (a_re 0)]) (ws := (wRe g a_re (a_ta 0) (a_to 0) re ++ (wTa g a_ta ta ++ (wTo g a_to to ++ [])))) (Qc := fun sz => QI g (wRe g a_re (a_ta 0) (a_to 0) re ++ (wTa g a_ta ta ++ (wTo g a_to to ++ []))) (wRe g a_re (a_ta 0) (a_to 0) o_re ++ (wTa g a_ta ta ++ (wTo g a_to o_to ++ []))) r_ sz) (by decide) rfl ?_
  intro p e s m args below meth c ls Q A ha hQ hA X hl hI hin
  have X : Cx p s m args meth c cX5_readsPerson 3 RX5 (some .boolean) := X
  have hl : lv_has ls 3 [(0, .ref (a_re 0))] := hl
  obtain ⟨hx, hb, hml, hown, ht, hr, hlk⟩ := id X
  clear ha hin
  unfold f_X5_readsPerson at hf
  refine lv_aload_n hx hb dX5_readsPerson_0 rfl (lv_at hl 0 rfl) ?_
  refine g_Re_told X hI has_Re.l (X.fl w_354) dX5_readsPerson_1 ?_
  refine g_To_people X hI has_To.l.r.r (hI.fn (List.mem_of_getElem? (i := 12) rfl)) dX5_readsPerson_4 ?_
  refine lv_bipush (v := 8) hx hb dX5_readsPerson_7 (by decide) ?_
  refine lv_icmp_lt (tgt := 18) hx hb dX5_readsPerson_9 (by decide) (fun h_ => ?_) (fun h_ => ?_)
  · replace hf := if_t h_ hf
    refine lv_aload_n hx hb dX5_readsPerson_18 rfl (lv_at hl 0 rfl) ?_
    obtain ⟨r_1, re_2, hc_, hf⟩ := bd2_some hf
    refine call_Vi X hI (Cj.keep (Cj.keep (Cj.keep Cj.id))) (c_X5_takesNewName l g a_re a_ta a_to re ta to r_1 re_2 hc_) ⟨rfl, rfl⟩ ⟨ht _ w_813, w_816, ht _ w_140, lk_X5_takesNewName⟩ w_815 w_15 rfl rfl rfl hl rfl rfl dX5_readsPerson_19 rfl rfl rfl rfl (fun H locs hI => ?_)
    refine lv_if_ne (tgt := 27) hx hb dX5_readsPerson_22 (by decide) (fun h_ => ?_) (fun h_ => ?_)
    · replace hf := if_f h_ hf
      refine lv_aload_n hx hb dX5_readsPerson_27 rfl (lv_at hl 0 rfl) ?_
      refine g_Re_name X hI has_Re.l (X.fl w_362) dX5_readsPerson_28 ?_
      refine lv_topl (fun v_3 e_ => ?_)
      replace hf := lt_to e_ hf
      clear e_
      refine lv_lstore_n (lv' := [(1, .long v_3), (0, .ref (a_re 0))]) hx hb dX5_readsPerson_31 rfl hl (by decide) rfl (fun ls hl => ?_)
      refine lv_aload_n hx hb dX5_readsPerson_32 rfl (lv_at hl 1 rfl) ?_
      refine lv_iconst (v := 4) hx hb dX5_readsPerson_33 (by decide) ?_
      obtain ⟨r_4, re_5, hc_, hf⟩ := bd2_some hf
      refine call_Vi X hI (Cj.keep (Cj.keep Cj.nil)) (c_X5_takesWord l g a_re a_ta (a_to 0) re_2 ta (4 : Int32) r_4 re_5 hc_) ⟨rfl, rfl⟩ ⟨ht _ w_797, w_800, ht _ w_140, lk_X5_takesWord⟩ w_799 w_11 rfl rfl rfl hl rfl rfl dX5_readsPerson_34 rfl rfl rfl rfl (fun H locs hI => ?_)
      refine lv_if_eq (tgt := 50) hx hb dX5_readsPerson_37 (by decide) (fun h_ => ?_) (fun h_ => ?_)
      · replace hf := if_t h_ hf
        refine lv_iconst (v := 0) hx hb dX5_readsPerson_50 (by decide) ?_
        cases hf
        exact end_z hQ hA X hI rfl dX5_readsPerson_51
      · replace hf := if_f h_ hf
        refine lv_aload_n hx hb dX5_readsPerson_40 rfl (lv_at hl 1 rfl) ?_
        refine lv_iconst (v := 1) hx hb dX5_readsPerson_41 (by decide) ?_
        refine lv_bipush (v := 99) hx hb dX5_readsPerson_42 (by decide) ?_
        obtain ⟨r_6, re_7, hc_, hf⟩ := bd2_some hf
        refine call_Vi X hI (Cj.keep (Cj.keep Cj.nil)) (c_X5_takesWhole l g a_re a_ta (a_to 0) re_5 ta (1 : Int32) (99 : Int32) r_6 re_7 hc_) ⟨rfl, rfl⟩ ⟨ht _ w_801, w_804, ht _ w_140, lk_X5_takesWhole⟩ w_803 w_12 rfl rfl rfl hl rfl rfl dX5_readsPerson_44 rfl rfl rfl rfl (fun H locs hI => ?_)
        refine lv_if_ne (tgt := 52) hx hb dX5_readsPerson_47 (by decide) (fun h_ => ?_) (fun h_ => ?_)
        · replace hf := if_f h_ hf
          refine lv_aload_n hx hb dX5_readsPerson_52 rfl (lv_at hl 1 rfl) ?_
          refine g_Re_told X hI has_Re.l (X.fl w_354) dX5_readsPerson_53 ?_
          refine lv_lload_n hx hb dX5_readsPerson_56 rfl (lv_at hl 0 rfl) ?_
          refine lv_aload_n hx hb dX5_readsPerson_57 rfl (lv_at hl 1 rfl) ?_
          refine g_Re_taken X hI has_Re.l (X.fl w_361) dX5_readsPerson_58 ?_
          obtain ⟨to_8, hc_, hf⟩ := bd1_some hf
          refine call_Vv X hI (Cj.skip (Cj.skip (Cj.keep Cj.id))) (c_X9_addPerson l g a_to to v_3 (Re_taken re_7) to_8 hc_) ⟨rfl, rfl⟩ ⟨ht _ w_832, w_835, ht _ w_146, lk_X9_addPerson⟩ w_833 w_834 rfl rfl rfl hl rfl rfl dX5_readsPerson_61 rfl rfl rfl rfl (fun H locs hI => ?_)
          refine lv_iconst (v := 1) hx hb dX5_readsPerson_64 (by decide) ?_
          cases hf
          exact end_z hQ hA X hI rfl dX5_readsPerson_65
        · replace hf := if_t h_ hf
          refine lv_iconst (v := 0) hx hb dX5_readsPerson_50 (by decide) ?_
          cases hf
          exact end_z hQ hA X hI rfl dX5_readsPerson_51
    · replace hf := if_t h_ hf
      refine lv_iconst (v := 0) hx hb dX5_readsPerson_25 (by decide) ?_
      cases hf
      exact end_z hQ hA X hI rfl dX5_readsPerson_26
  · replace hf := if_f h_ hf
    refine lv_aload_n hx hb dX5_readsPerson_12 rfl (lv_at hl 0 rfl) ?_
    refine lv_iconst (v := 5) hx hb dX5_readsPerson_13 (by decide) ?_
    obtain ⟨r_9, re_10, hc_, hf⟩ := bd2_some hf
    refine call_Vi X hI (Cj.keep (Cj.keep Cj.nil)) (c_X5_isFaulty l g a_re a_ta (a_to 0) re ta (5 : Int32) r_9 re_10 hc_) ⟨rfl, rfl⟩ ⟨ht _ w_793, w_796, ht _ w_140, lk_X5_isFaulty⟩ w_795 w_10 rfl rfl rfl hl rfl rfl dX5_readsPerson_14 rfl rfl rfl rfl (fun H locs hI => ?_)
    obtain ⟨hzb_, hf⟩ := zb_some hf
    cases hf
    exact end_z hQ hA X hI (zb_n hzb_) dX5_readsPerson_17
abbrev rm_X5_readsLine : Room := { frames := 5, cells := 0, slots := 0, locals := 108 }
set_option maxRecDepth 20000 in
theorem c_X5_readsLine (l : Launch) (g : GT) (a_re : Nat → Nat) (a_ta : Nat → Nat) (a_to : Nat → Nat) (re : ReS) (ta : TaS) (to : ToS) (r_ : Int32) (o_re : ReS) (o_to : ToS) (hf : f_X5_readsLine re ta to = some (r_, o_re, o_to)) : CI l yX5_readsLine cX5_readsLine 4 (some .boolean) rm_X5_readsLine g [.ref (a_re 0)] (wRe g a_re (a_ta 0) (a_to 0) re ++ (wTa g a_ta ta ++ (wTo g a_to to ++ []))) (wRe g a_re (a_ta 0) (a_to 0) o_re ++ (wTa g a_ta ta ++ (wTo g a_to o_to ++ []))) r_ := by
  refine start2 (y := yX5_readsLine) (cc := cX5_readsLine) (n := 4) (av := [.ref (a_re 0)]) (ws := (wRe g a_re (a_ta 0) (a_to 0) re ++ (wTa g a_ta ta ++ (wTo g a_to to ++ [])))) (Qc := fun sz => QI g (wRe g a_re (a_ta 0) (a_to 0) re ++ (wTa g a_ta ta ++ (wTo g a_to to ++ []))) (wRe g a_re (a_ta 0) (a_to 0) o_re ++ (wTa g a_ta ta ++ (wTo g a_to o_to ++ []))) r_ sz) (by decide) rfl ?_
  intro p e s m args below meth c ls Q A ha hQ hA X hl hI hin
  have X : Cx p s m args meth c cX5_readsLine 4 RX5 (some .boolean) := X
  have hl : lv_has ls 4 [(0, .ref (a_re 0))] := hl
  obtain ⟨hx, hb, hml, hown, ht, hr, hlk⟩ := id X
  clear ha hin
  have L_94 : ∀ (t0i : Int32) (re : ReS) (to : ToS) (H : Heap) (locs : List Loc) (ls : Array Slot), lv_has ls 4 [(0, .ref (a_re 0))] → In g A s.heap s (wRe g a_re (a_ta 0) (a_to 0) re ++ (wTa g a_ta ta ++ (wTo g a_to to ++ []))) H locs → f_X5_readsLine_L94 t0i re to ta = some (r_, o_re, o_to) → W p l e rm_X5_readsLine s m args below meth c H locs 0 0 Q (F0 m 94 ls [.int t0i]) := by
    intro t0i re to H locs ls hl hI hf
    unfold f_X5_readsLine_L94 at hf
    refine lv_istore_n (lv' := [(3, .int t0i), (0, .ref (a_re 0))]) hx hb dX5_readsLine_94 rfl hl (by decide) rfl (fun ls hl => ?_)
    refine lv_iload_n hx hb dX5_readsLine_95 rfl (lv_at hl 0 rfl) ?_
    refine lv_if_eq (tgt := 103) hx hb dX5_readsLine_96 (by decide) (fun h_ => ?_) (fun h_ => ?_)
    · replace hf := if_t h_ hf
      refine lv_iload_n hx hb dX5_readsLine_103 rfl (lv_at hl 0 rfl) ?_
      obtain ⟨hzb_, hf⟩ := zb_some hf
      cases hf
      exact end_z hQ hA X hI (zb_n hzb_) dX5_readsLine_104
    · replace hf := if_f h_ hf
      refine lv_aload_n hx hb dX5_readsLine_99 rfl (lv_at hl 1 rfl) ?_
      obtain ⟨re_22, hc_, hf⟩ := bd1_some hf
      refine call_Vv X hI (Cj.keep (Cj.keep Cj.nil)) (c_X5_advance l g a_re a_ta (a_to 0) re ta re_22 hc_) ⟨rfl, rfl⟩ ⟨ht _ w_781, w_784, ht _ w_140, lk_X5_advance⟩ w_783 w_7 rfl rfl rfl hl rfl rfl dX5_readsLine_100 rfl rfl rfl rfl (fun H locs hI => ?_)
      refine lv_iload_n hx hb dX5_readsLine_103 rfl (lv_at hl 0 rfl) ?_
      obtain ⟨hzb_, hf⟩ := zb_some hf
      cases hf
      exact end_z hQ hA X hI (zb_n hzb_) dX5_readsLine_104
  have L_51 : ∀ (x1 : Int32) (x2 : Int32) (re : ReS) (to : ToS) (H : Heap) (locs : List Loc) (ls : Array Slot), lv_has ls 4 [(0, .ref (a_re 0)), (1, .int x1), (2, .int x2)] → In g A s.heap s (wRe g a_re (a_ta 0) (a_to 0) re ++ (wTa g a_ta ta ++ (wTo g a_to to ++ []))) H locs → f_X5_readsLine_L51 x1 x2 re to ta = some (r_, o_re, o_to) → W p l e rm_X5_readsLine s m args below meth c H locs 0 0 Q (F0 m 51 ls []) := by
    intro x1 x2 re to H locs ls hl hI hf
    unfold f_X5_readsLine_L51 at hf
    refine lv_aload_n hx hb dX5_readsLine_51 rfl (lv_at hl 0 rfl) ?_
    refine g_Re_told X hI has_Re.l (X.fl w_354) dX5_readsLine_52 ?_
    refine g_To_begun X hI has_To.l.r.r (hI.fn (List.mem_of_getElem? (i := 6) rfl)) dX5_readsLine_55 ?_
    refine lv_if_ne (tgt := 68) hx hb dX5_readsLine_58 (by decide) (fun h_ => ?_) (fun h_ => ?_)
    · replace hf := if_f h_ hf
      refine lv_iload_n hx hb dX5_readsLine_68 rfl (lv_at hl 1 rfl) ?_
      refine lv_if_eq (tgt := 79) hx hb dX5_readsLine_69 (by decide) (fun h_ => ?_) (fun h_ => ?_)
      · replace hf := if_t h_ hf
        refine lv_iload_n hx hb dX5_readsLine_79 rfl (lv_at hl 2 rfl) ?_
        refine lv_if_eq (tgt := 90) hx hb dX5_readsLine_80 (by decide) (fun h_ => ?_) (fun h_ => ?_)
        · replace hf := if_t h_ hf
          refine lv_aload_n hx hb dX5_readsLine_90 rfl (lv_at hl 0 rfl) ?_
          obtain ⟨r_11, re_12, to_13, hc_, hf⟩ := bd3_some hf
          refine call_Vi X hI (Cj.keep (Cj.keep (Cj.keep Cj.id))) (c_X5_readsCross l g a_re a_ta a_to re ta to r_11 re_12 to_13 hc_) ⟨rfl, rfl⟩ ⟨ht _ w_863, w_866, ht _ w_140, lk_X5_readsCross⟩ w_865 w_20 rfl rfl rfl hl rfl rfl dX5_readsLine_91 rfl rfl rfl rfl (fun H locs hI => ?_)
          exact L_94 r_11 re_12 to_13 _ _ _ (lv_sub hl [0] rfl) hI hf
        · replace hf := if_f h_ hf
          refine lv_aload_n hx hb dX5_readsLine_83 rfl (lv_at hl 0 rfl) ?_
          obtain ⟨r_14, re_15, to_16, hc_, hf⟩ := bd3_some hf
          refine call_Vi X hI (Cj.keep (Cj.keep (Cj.keep Cj.id))) (c_X5_readsHold l g a_re a_ta a_to re ta to r_14 re_15 to_16 hc_) ⟨rfl, rfl⟩ ⟨ht _ w_836, w_839, ht _ w_140, lk_X5_readsHold⟩ w_838 w_17 rfl rfl rfl hl rfl rfl dX5_readsLine_84 rfl rfl rfl rfl (fun H locs hI => ?_)
          refine lv_goto (tgt := 94) hx hb dX5_readsLine_87 (by decide) ?_
          exact L_94 r_14 re_15 to_16 _ _ _ (lv_sub hl [0] rfl) hI hf
      · replace hf := if_f h_ hf
        refine lv_aload_n hx hb dX5_readsLine_72 rfl (lv_at hl 0 rfl) ?_
        obtain ⟨r_17, re_18, to_19, hc_, hf⟩ := bd3_some hf
        refine call_Vi X hI (Cj.keep (Cj.keep (Cj.keep Cj.id))) (c_X5_readsPerson l g a_re a_ta a_to re ta to r_17 re_18 to_19 hc_) ⟨rfl, rfl⟩ ⟨ht _ w_809, w_812, ht _ w_140, lk_X5_readsPerson⟩ w_811 w_14 rfl rfl rfl hl rfl rfl dX5_readsLine_73 rfl rfl rfl rfl (fun H locs hI => ?_)
        refine lv_goto (tgt := 94) hx hb dX5_readsLine_76 (by decide) ?_
        exact L_94 r_17 re_18 to_19 _ _ _ (lv_sub hl [0] rfl) hI hf
    · replace hf := if_t h_ hf
      refine lv_aload_n hx hb dX5_readsLine_61 rfl (lv_at hl 0 rfl) ?_
      refine lv_bipush (v := 6) hx hb dX5_readsLine_62 (by decide) ?_
      obtain ⟨r_20, re_21, hc_, hf⟩ := bd2_some hf
      refine call_Vi X hI (Cj.keep (Cj.keep Cj.nil)) (c_X5_isFaulty l g a_re a_ta (a_to 0) re ta (6 : Int32) r_20 re_21 hc_) ⟨rfl, rfl⟩ ⟨ht _ w_793, w_796, ht _ w_140, lk_X5_isFaulty⟩ w_795 w_10 rfl rfl rfl hl rfl rfl dX5_readsLine_64 rfl rfl rfl rfl (fun H locs hI => ?_)
      obtain ⟨hzb_, hf⟩ := zb_some hf
      cases hf
      exact end_z hQ hA X hI (zb_n hzb_) dX5_readsLine_67
  unfold f_X5_readsLine at hf
  refine lv_aload_n hx hb dX5_readsLine_0 rfl (lv_at hl 0 rfl) ?_
  obtain ⟨re_1, hc_, hf⟩ := bd1_some hf
  refine call_Vv X hI (Cj.keep (Cj.keep Cj.nil)) (c_X5_advance l g a_re a_ta (a_to 0) re ta re_1 hc_) ⟨rfl, rfl⟩ ⟨ht _ w_781, w_784, ht _ w_140, lk_X5_advance⟩ w_783 w_7 rfl rfl rfl hl rfl rfl dX5_readsLine_1 rfl rfl rfl rfl (fun H locs hI => ?_)
  refine lv_aload_n hx hb dX5_readsLine_4 rfl (lv_at hl 0 rfl) ?_
  refine lv_iconst (v := 0) hx hb dX5_readsLine_5 (by decide) ?_
  obtain ⟨r_2, hc_, hf⟩ := bd1_some hf
  refine call_Vi X hI (Cj.keep (Cj.keep Cj.nil)) (c_X5_isWord l g a_re a_ta (a_to 0) re_1 ta (0 : Int32) r_2 hc_) ⟨rfl, rfl⟩ ⟨ht _ w_785, w_788, ht _ w_140, lk_X5_isWord⟩ w_787 w_8 rfl rfl rfl hl rfl rfl dX5_readsLine_6 rfl rfl rfl rfl (fun H locs hI => ?_)
  refine lv_if_eq (tgt := 17) hx hb dX5_readsLine_9 (by decide) (fun h_ => ?_) (fun h_ => ?_)
  · replace hf := if_t h_ hf
    refine lv_aload_n hx hb dX5_readsLine_17 rfl (lv_at hl 0 rfl) ?_
    refine lv_iconst (v := 1) hx hb dX5_readsLine_18 (by decide) ?_
    obtain ⟨r_3, hc_, hf⟩ := bd1_some hf
    refine call_Vi X hI (Cj.keep (Cj.keep Cj.nil)) (c_X5_isWord l g a_re a_ta (a_to 0) re_1 ta (1 : Int32) r_3 hc_) ⟨rfl, rfl⟩ ⟨ht _ w_785, w_788, ht _ w_140, lk_X5_isWord⟩ w_787 w_8 rfl rfl rfl hl rfl rfl dX5_readsLine_19 rfl rfl rfl rfl (fun H locs hI => ?_)
    refine lv_istore_n (lv' := [(1, .int r_3), (0, .ref (a_re 0))]) hx hb dX5_readsLine_22 rfl hl (by decide) rfl (fun ls hl => ?_)
    refine lv_aload_n hx hb dX5_readsLine_23 rfl (lv_at hl 1 rfl) ?_
    refine lv_iconst (v := 2) hx hb dX5_readsLine_24 (by decide) ?_
    obtain ⟨r_4, hc_, hf⟩ := bd1_some hf
    refine call_Vi X hI (Cj.keep (Cj.keep Cj.nil)) (c_X5_isWord l g a_re a_ta (a_to 0) re_1 ta (2 : Int32) r_4 hc_) ⟨rfl, rfl⟩ ⟨ht _ w_785, w_788, ht _ w_140, lk_X5_isWord⟩ w_787 w_8 rfl rfl rfl hl rfl rfl dX5_readsLine_25 rfl rfl rfl rfl (fun H locs hI => ?_)
    refine lv_istore_n (lv' := [(2, .int r_4), (1, .int r_3), (0, .ref (a_re 0))]) hx hb dX5_readsLine_28 rfl hl (by decide) rfl (fun ls hl => ?_)
    refine lv_iload_n hx hb dX5_readsLine_29 rfl (lv_at hl 1 rfl) ?_
    refine lv_if_ne (tgt := 51) hx hb dX5_readsLine_30 (by decide) (fun h_ => ?_) (fun h_ => ?_)
    · replace hf := if_f h_ hf
      exact L_51 r_3 r_4 re_1 to _ _ _ (lv_sub hl [2, 1, 0] rfl) hI hf
    · replace hf := if_t h_ hf
      refine lv_iload_n hx hb dX5_readsLine_33 rfl (lv_at hl 0 rfl) ?_
      refine lv_if_ne (tgt := 51) hx hb dX5_readsLine_34 (by decide) (fun h_ => ?_) (fun h_ => ?_)
      · replace hf := if_f h_ hf
        exact L_51 r_3 r_4 re_1 to _ _ _ (lv_sub hl [2, 1, 0] rfl) hI hf
      · replace hf := if_t h_ hf
        refine lv_aload_n hx hb dX5_readsLine_37 rfl (lv_at hl 2 rfl) ?_
        refine lv_iconst (v := 3) hx hb dX5_readsLine_38 (by decide) ?_
        obtain ⟨r_5, hc_, hf⟩ := bd1_some hf
        refine call_Vi X hI (Cj.keep (Cj.keep Cj.nil)) (c_X5_isWord l g a_re a_ta (a_to 0) re_1 ta (3 : Int32) r_5 hc_) ⟨rfl, rfl⟩ ⟨ht _ w_785, w_788, ht _ w_140, lk_X5_isWord⟩ w_787 w_8 rfl rfl rfl hl rfl rfl dX5_readsLine_39 rfl rfl rfl rfl (fun H locs hI => ?_)
        refine lv_if_ne (tgt := 51) hx hb dX5_readsLine_42 (by decide) (fun h_ => ?_) (fun h_ => ?_)
        · replace hf := if_f h_ hf
          exact L_51 r_3 r_4 re_1 to _ _ _ (lv_sub hl [2, 1, 0] rfl) hI hf
        · replace hf := if_t h_ hf
          refine lv_aload_n hx hb dX5_readsLine_45 rfl (lv_at hl 2 rfl) ?_
          refine lv_iconst (v := 1) hx hb dX5_readsLine_46 (by decide) ?_
          obtain ⟨r_6, re_7, hc_, hf⟩ := bd2_some hf
          refine call_Vi X hI (Cj.keep (Cj.keep Cj.nil)) (c_X5_isFaulty l g a_re a_ta (a_to 0) re_1 ta (1 : Int32) r_6 re_7 hc_) ⟨rfl, rfl⟩ ⟨ht _ w_793, w_796, ht _ w_140, lk_X5_isFaulty⟩ w_795 w_10 rfl rfl rfl hl rfl rfl dX5_readsLine_47 rfl rfl rfl rfl (fun H locs hI => ?_)
          obtain ⟨hzb_, hf⟩ := zb_some hf
          cases hf
          exact end_z hQ hA X hI (zb_n hzb_) dX5_readsLine_50
  · replace hf := if_f h_ hf
    refine lv_aload_n hx hb dX5_readsLine_12 rfl (lv_at hl 0 rfl) ?_
    obtain ⟨r_8, re_9, to_10, hc_, hf⟩ := bd3_some hf
    refine call_Vi X hI (Cj.keep (Cj.keep (Cj.keep Cj.id))) (c_X5_readsTangle l g a_re a_ta a_to re_1 ta to r_8 re_9 to_10 hc_) ⟨rfl, rfl⟩ ⟨ht _ w_789, w_792, ht _ w_140, lk_X5_readsTangle⟩ w_791 w_9 rfl rfl rfl hl rfl rfl dX5_readsLine_13 rfl rfl rfl rfl (fun H locs hI => ?_)
    obtain ⟨hzb_, hf⟩ := zb_some hf
    cases hf
    exact end_z hQ hA X hI (zb_n hzb_) dX5_readsLine_16
abbrev rm_X5_reads : Room := { frames := 6, cells := 0, slots := 0, locals := 131 }
set_option maxRecDepth 20000 in
theorem c_X5_reads (l : Launch) (g : GT) (a_re : Nat → Nat) (a_ta : Nat → Nat) (a_to : Nat → Nat) (re : ReS) (ta : TaS) (to : ToS) (p1 : Int32) (r_ : Int32) (o_re : ReS) (o_ta : TaS) (o_to : ToS) (hf : f_X5_reads re ta to p1 = some (r_, o_re, o_ta, o_to)) : CI l yX5_reads cX5_reads 3 (some .boolean) rm_X5_reads g [.ref (a_re 0), .int p1] (wRe g a_re (a_ta 0) (a_to 0) re ++ (wTa g a_ta ta ++ (wTo g a_to to ++ []))) (wRe g a_re (a_ta 0) (a_to 0) o_re ++ (wTa g a_ta o_ta ++ (wTo g a_to o_to ++ []))) r_ := by
  refine start2 (y := yX5_reads) (cc := cX5_reads) (n := 3) (av := [.ref (a_re 0), .int p1]) (ws := (wRe g a_re (a_ta 0) (a_to 0) re ++ (wTa g a_ta ta ++ (wTo g a_to to ++ [])))) (Qc := fun sz => QI g (wRe g a_re (a_ta 0) (a_to 0) re ++ (wTa g a_ta ta ++ (wTo g a_to to ++ []))) (wRe g a_re (a_ta 0) (a_to 0) o_re ++ (wTa g a_ta o_ta ++ (wTo g a_to o_to ++ []))) r_ sz) (by decide) rfl ?_
  intro p e s m args below meth c ls Q A ha hQ hA X hl hI hin
  have X : Cx p s m args meth c cX5_reads 3 RX5 (some .boolean) := X
  have hl : lv_has ls 3 [(0, .ref (a_re 0)), (1, .int p1)] := hl
  obtain ⟨hx, hb, hml, hown, ht, hr, hlk⟩ := id X
  clear ha hin
  have L_32 : ∀ (n_ : Nat) (x2 : Int32) (re : ReS) (ta : TaS) (to : ToS) (H : Heap) (locs : List Loc) (ls : Array Slot), lv_has ls 3 [(0, .ref (a_re 0)), (2, .int x2)] → In g A s.heap s (wRe g a_re (a_ta 0) (a_to 0) re ++ (wTa g a_ta ta ++ (wTo g a_to to ++ []))) H locs → f_X5_reads_L32 n_ x2 re ta to = some (r_, o_re, o_ta, o_to) → W p l e rm_X5_reads s m args below meth c H locs 0 0 Q (F0 m 32 ls []) := by
    intro n_
    induction n_ with
    | zero =>
      intro x2 re ta to H locs ls hl hI hf
      rw [f_X5_reads_L32] at hf
      cases hf
    | succ n_ ih =>
      intro x2 re ta to H locs ls hl hI hf
      rw [f_X5_reads_L32] at hf
      refine lv_iload_n hx hb dX5_reads_32 rfl (lv_at hl 1 rfl) ?_
      refine lv_aload_n hx hb dX5_reads_33 rfl (lv_at hl 0 rfl) ?_
      refine g_Re_tape X hI has_Re.l (X.fl w_352) dX5_reads_34 ?_
      refine g_Ta_count X hI has_Ta.l.r (hI.fn (List.mem_of_getElem? (i := 5) rfl)) dX5_reads_37 ?_
      refine lv_icmp_ge (tgt := 104) hx hb dX5_reads_40 (by decide) (fun h_ => ?_) (fun h_ => ?_)
      · replace hf := if_t h_ hf
        refine lv_aload_n hx hb dX5_reads_104 rfl (lv_at hl 0 rfl) ?_
        refine lv_iconst (v := 1) hx hb dX5_reads_105 (by decide) ?_
        obtain ⟨r_6, re_7, hc_, hf⟩ := bd2_some hf
        refine call_Vi X hI (Cj.keep (Cj.keep Cj.nil)) (c_X5_isFaulty l g a_re a_ta (a_to 0) re ta (1 : Int32) r_6 re_7 hc_) ⟨rfl, rfl⟩ ⟨ht _ w_793, w_796, ht _ w_140, lk_X5_isFaulty⟩ w_795 w_10 rfl rfl rfl hl rfl rfl dX5_reads_106 rfl rfl rfl rfl (fun H locs hI => ?_)
        obtain ⟨hzb_, hf⟩ := zb_some hf
        cases hf
        exact end_z hQ hA X hI (zb_n hzb_) dX5_reads_109
      · replace hf := if_f h_ hf
        refine lv_aload_n hx hb dX5_reads_43 rfl (lv_at hl 0 rfl) ?_
        obtain ⟨r_8, re_9, to_10, hc_, hf⟩ := bd3_some hf
        refine call_Vi X hI (Cj.keep (Cj.keep (Cj.keep Cj.id))) (c_X5_readsLine l g a_re a_ta a_to re ta to r_8 re_9 to_10 hc_) ⟨rfl, rfl⟩ ⟨ht _ w_777, w_780, ht _ w_140, lk_X5_readsLine⟩ w_779 w_6 rfl rfl rfl hl rfl rfl dX5_reads_44 rfl rfl rfl rfl (fun H locs hI => ?_)
        refine lv_if_ne (tgt := 52) hx hb dX5_reads_47 (by decide) (fun h_ => ?_) (fun h_ => ?_)
        · replace hf := if_f h_ hf
          refine lv_aload_n hx hb dX5_reads_52 rfl (lv_at hl 0 rfl) ?_
          obtain ⟨r_11, hc_, hf⟩ := bd1_some hf
          refine call_Vi X hI (Cj.keep (Cj.keep Cj.nil)) (c_X5_kind l g a_re a_ta (a_to 0) re_9 ta r_11 hc_) ⟨rfl, rfl⟩ ⟨ht _ w_805, w_808, ht _ w_140, lk_X5_kind⟩ w_807 w_13 rfl rfl rfl hl rfl rfl dX5_reads_53 rfl rfl rfl rfl (fun H locs hI => ?_)
          refine lv_if_ne (tgt := 84) hx hb dX5_reads_56 (by decide) (fun h_ => ?_) (fun h_ => ?_)
          · replace hf := if_f h_ hf
            refine lv_aload_n hx hb dX5_reads_84 rfl (lv_at hl 0 rfl) ?_
            obtain ⟨r_12, hc_, hf⟩ := bd1_some hf
            refine call_Vi X hI (Cj.keep (Cj.keep Cj.nil)) (c_X5_kind l g a_re a_ta (a_to 0) re_9 ta r_12 hc_) ⟨rfl, rfl⟩ ⟨ht _ w_805, w_808, ht _ w_140, lk_X5_kind⟩ w_807 w_13 rfl rfl rfl hl rfl rfl dX5_reads_85 rfl rfl rfl rfl (fun H locs hI => ?_)
            refine lv_iconst (v := 3) hx hb dX5_reads_88 (by decide) ?_
            refine lv_icmp_eq (tgt := 98) hx hb dX5_reads_89 (by decide) (fun h_ => ?_) (fun h_ => ?_)
            · replace hf := if_t h_ hf
              obtain ⟨v_13, e_⟩ : ∃ y : Int32, y = (x2 + (1 : Int32)) := ⟨_, rfl⟩
              replace hf := lt_to e_ hf
              refine lv_iinc (v := v_13) (lv' := [(2, .int v_13), (0, .ref (a_re 0))]) hx hb dX5_reads_98 hl (k := 1) rfl (by rw [e_]; rfl) (by decide) rfl (fun ls hl => ?_)
              clear e_
              refine lv_goto (tgt := 32) hx hb dX5_reads_101 (by decide) ?_
              exact ih v_13 re_9 ta to_10 _ _ _ (lv_sub hl [1, 0] rfl) hI hf
            · replace hf := if_f h_ hf
              refine lv_aload_n hx hb dX5_reads_92 rfl (lv_at hl 0 rfl) ?_
              refine lv_iconst (v := 1) hx hb dX5_reads_93 (by decide) ?_
              obtain ⟨r_14, re_15, hc_, hf⟩ := bd2_some hf
              refine call_Vi X hI (Cj.keep (Cj.keep Cj.nil)) (c_X5_isFaulty l g a_re a_ta (a_to 0) re_9 ta (1 : Int32) r_14 re_15 hc_) ⟨rfl, rfl⟩ ⟨ht _ w_793, w_796, ht _ w_140, lk_X5_isFaulty⟩ w_795 w_10 rfl rfl rfl hl rfl rfl dX5_reads_94 rfl rfl rfl rfl (fun H locs hI => ?_)
              obtain ⟨hzb_, hf⟩ := zb_some hf
              cases hf
              exact end_z hQ hA X hI (zb_n hzb_) dX5_reads_97
          · replace hf := if_t h_ hf
            refine lv_aload_n hx hb dX5_reads_59 rfl (lv_at hl 0 rfl) ?_
            refine g_Re_told X hI has_Re.l (X.fl w_354) dX5_reads_60 ?_
            obtain ⟨r_16, hc_, hf⟩ := bd1_some hf
            refine call_Vi X hI (Cj.skip (Cj.skip (Cj.keep Cj.id))) (c_X9_lacksSomething l g a_to to_10 r_16 hc_) ⟨rfl, rfl⟩ ⟨ht _ w_890, w_893, ht _ w_146, lk_X9_lacksSomething⟩ w_891 w_892 rfl rfl rfl hl rfl rfl dX5_reads_63 rfl rfl rfl rfl (fun H locs hI => ?_)
            refine lv_if_eq (tgt := 78) hx hb dX5_reads_66 (by decide) (fun h_ => ?_) (fun h_ => ?_)
            · replace hf := if_t h_ hf
              refine lv_iconst (v := 1) hx hb dX5_reads_78 (by decide) ?_
              refine lv_goto (tgt := 83) hx hb dX5_reads_79 (by decide) ?_
              cases hf
              exact end_z hQ hA X hI rfl dX5_reads_83
            · replace hf := if_f h_ hf
              refine lv_aload_n hx hb dX5_reads_69 rfl (lv_at hl 0 rfl) ?_
              refine lv_bipush (v := 6) hx hb dX5_reads_70 (by decide) ?_
              obtain ⟨r_17, re_18, hc_, hf⟩ := bd2_some hf
              refine call_Vi X hI (Cj.keep (Cj.keep Cj.nil)) (c_X5_isFaulty l g a_re a_ta (a_to 0) re_9 ta (6 : Int32) r_17 re_18 hc_) ⟨rfl, rfl⟩ ⟨ht _ w_793, w_796, ht _ w_140, lk_X5_isFaulty⟩ w_795 w_10 rfl rfl rfl hl rfl rfl dX5_reads_72 rfl rfl rfl rfl (fun H locs hI => ?_)
              refine lv_if_eq (tgt := 82) hx hb dX5_reads_75 (by decide) (fun h_ => ?_) (fun h_ => ?_)
              · replace hf := if_t h_ hf
                refine lv_iconst (v := 0) hx hb dX5_reads_82 (by decide) ?_
                cases hf
                exact end_z hQ hA X hI rfl dX5_reads_83
              · replace hf := if_f h_ hf
                refine lv_iconst (v := 1) hx hb dX5_reads_78 (by decide) ?_
                refine lv_goto (tgt := 83) hx hb dX5_reads_79 (by decide) ?_
                cases hf
                exact end_z hQ hA X hI rfl dX5_reads_83
        · replace hf := if_t h_ hf
          refine lv_iconst (v := 0) hx hb dX5_reads_50 (by decide) ?_
          cases hf
          exact end_z hQ hA X hI rfl dX5_reads_51
  unfold f_X5_reads at hf
  refine lv_aload_n hx hb dX5_reads_0 rfl (lv_at hl 0 rfl) ?_
  refine g_Re_tape X hI has_Re.l (X.fl w_352) dX5_reads_1 ?_
  refine lv_iload_n hx hb dX5_reads_4 rfl (lv_at hl 1 rfl) ?_
  obtain ⟨ta_1, hc_, hf⟩ := bd1_some hf
  refine call_Vv X hI (Cj.skip (Cj.keep Cj.nil)) (c_X8_cut l g a_ta ta p1 ta_1 hc_) ⟨rfl, rfl⟩ ⟨ht _ w_737, w_740, ht _ w_141, lk_X8_cut⟩ w_738 w_739 rfl rfl rfl hl rfl rfl dX5_reads_5 rfl rfl rfl rfl (fun H locs hI => ?_)
  refine lv_aload_n hx hb dX5_reads_8 rfl (lv_at hl 0 rfl) ?_
  refine g_Re_told X hI has_Re.l (X.fl w_354) dX5_reads_9 ?_
  obtain ⟨to_2, hc_, hf⟩ := bd1_some hf
  refine call_Vv X hI (Cj.skip (Cj.skip (Cj.keep Cj.id))) (c_X9_clear l g a_to to to_2 hc_) ⟨rfl, rfl⟩ ⟨ht _ w_770, w_773, ht _ w_146, lk_X9_clear⟩ w_771 w_772 rfl rfl rfl hl rfl rfl dX5_reads_12 rfl rfl rfl rfl (fun H locs hI => ?_)
  refine lv_aload_n hx hb dX5_reads_15 rfl (lv_at hl 0 rfl) ?_
  refine lv_iconst (v := 0) hx hb dX5_reads_16 (by decide) ?_
  refine p_Re_fault X hI up_Re_fault.l (X.fl w_356) dX5_reads_17 (fun H locs hI => ?_)
  generalize hz_ : (Re_fault' re (0 : Int32)) = re_3 at hI hf
  clear hz_
  replace hf := lt_e hf
  refine lv_aload_n hx hb dX5_reads_20 rfl (lv_at hl 0 rfl) ?_
  refine lv_iconst (v := 0) hx hb dX5_reads_21 (by decide) ?_
  refine p_Re_place X hI up_Re_place.l (X.fl w_358) dX5_reads_22 (fun H locs hI => ?_)
  generalize hz_ : (Re_place' re_3 (0 : Int32)) = re_4 at hI hf
  clear hz_
  replace hf := lt_e hf
  refine lv_aload_n hx hb dX5_reads_25 rfl (lv_at hl 0 rfl) ?_
  refine lv_iconst (v := (-1)) hx hb dX5_reads_26 (by decide) ?_
  refine p_Re_token X hI up_Re_token.l (X.fl w_360) dX5_reads_27 (fun H locs hI => ?_)
  generalize hz_ : (Re_token' re_4 (-1 : Int32)) = re_5 at hI hf
  clear hz_
  replace hf := lt_e hf
  refine lv_iconst (v := 0) hx hb dX5_reads_30 (by decide) ?_
  refine lv_istore_n (lv' := [(2, .int (0 : Int32)), (0, .ref (a_re 0)), (1, .int p1)]) hx hb dX5_reads_31 rfl hl (by decide) rfl (fun ls hl => ?_)
  exact L_32 FU (0 : Int32) re_5 ta_1 to_2 _ _ _ (lv_sub hl [1, 0] rfl) hI hf
