abbrev rm_X13_thrown : Room := { frames := 0, cells := 0, slots := 0, locals := 0 }
set_option maxRecDepth 20000 in
theorem c_X13_thrown (l : Launch) (g : GT) (a_md : Nat → Nat) (q_md_tangle : Option Nat) (q_md_read : Option Nat) (md : MdS) (r_ : Int32) (hf : f_X13_thrown md = some (r_)) : CI l yX13_thrown cX13_thrown 1 (some .int) rm_X13_thrown g [.ref (a_md 0)] (wMd g a_md q_md_tangle q_md_read md ++ []) (wMd g a_md q_md_tangle q_md_read md ++ []) r_ := by
  refine start2 (y := yX13_thrown) (cc := cX13_thrown) (n := 1) (av := [.ref (a_md 0)]) (ws := (wMd g a_md q_md_tangle q_md_read md ++ [])) (Qc := fun sz => QI g (wMd g a_md q_md_tangle q_md_read md ++ []) (wMd g a_md q_md_tangle q_md_read md ++ []) r_ sz) (by decide) rfl ?_
  intro p e s m args below meth c ls Q A ha hQ hA X hl hI hin
  have X : Cx p s m args meth c cX13_thrown 1 RX13 (some .int) := X
  have hl : lv_has ls 1 [(0, .ref (a_md 0))] := hl
  obtain ⟨hx, hb, hml, hown, ht, hr, hlk⟩ := id X
  clear ha hin
  unfold f_X13_thrown at hf
  refine lv_aload_n hx hb dX13_thrown_0 rfl (lv_at hl 0 rfl) ?_
  refine g_Md_thrown X hI has_Md.l (X.fl w_1583) dX13_thrown_1 ?_
  cases hf
  exact end_i hQ hA X hI dX13_thrown_4
abbrev rm_X13_refused : Room := { frames := 0, cells := 0, slots := 0, locals := 0 }
set_option maxRecDepth 20000 in
theorem c_X13_refused (l : Launch) (g : GT) (a_md : Nat → Nat) (q_md_tangle : Option Nat) (q_md_read : Option Nat) (md : MdS) (p1 : Int32) (r_ : Int32) (o_md : MdS) (hf : f_X13_refused md p1 = some (r_, o_md)) : CI l yX13_refused cX13_refused 2 (some .int) rm_X13_refused g [.ref (a_md 0), .int p1] (wMd g a_md q_md_tangle q_md_read md ++ []) (wMd g a_md q_md_tangle q_md_read o_md ++ []) r_ := by
  refine start2 (y := yX13_refused) (cc := cX13_refused) (n := 2) (av := [.ref (a_md 0), .int p1]) (ws := (wMd g a_md q_md_tangle q_md_read md ++ [])) (Qc := fun sz => QI g (wMd g a_md q_md_tangle q_md_read md ++ []) (wMd g a_md q_md_tangle q_md_read o_md ++ []) r_ sz) (by decide) rfl ?_
  intro p e s m args below meth c ls Q A ha hQ hA X hl hI hin
  have X : Cx p s m args meth c cX13_refused 2 RX13 (some .int) := X
  have hl : lv_has ls 2 [(0, .ref (a_md 0)), (1, .int p1)] := hl
  obtain ⟨hx, hb, hml, hown, ht, hr, hlk⟩ := id X
  clear ha hin
  unfold f_X13_refused at hf
  refine lv_aload_n hx hb dX13_refused_0 rfl (lv_at hl 0 rfl) ?_
  refine lv_iload_n hx hb dX13_refused_1 rfl (lv_at hl 1 rfl) ?_
  refine p_Md_trouble X hI up_Md_trouble.l (X.fl w_1584) dX13_refused_2 (fun H locs hI => ?_)
  generalize hz_ : (Md_trouble' md p1) = md_1 at hI hf
  clear hz_
  replace hf := lt_e hf
  refine lv_aload_n hx hb dX13_refused_5 rfl (lv_at hl 0 rfl) ?_
  refine lv_iconst (v := (-1)) hx hb dX13_refused_6 (by decide) ?_
  refine p_Md_where X hI up_Md_where.l (X.fl w_1585) dX13_refused_7 (fun H locs hI => ?_)
  generalize hz_ : (Md_where' md_1 (-1 : Int32)) = md_2 at hI hf
  clear hz_
  replace hf := lt_e hf
  refine lv_iconst (v := (-1)) hx hb dX13_refused_10 (by decide) ?_
  cases hf
  exact end_i hQ hA X hI dX13_refused_11
abbrev rm_X13_lost : Room := { frames := 1, cells := 0, slots := 0, locals := 21 }
set_option maxRecDepth 20000 in
theorem c_X13_lost (l : Launch) (g : GT) (a_md : Nat → Nat) (q_md_tangle : Option Nat) (q_md_read : Option Nat) (md : MdS) (p1 : Int32) (r_ : Int32) (o_md : MdS) (hf : f_X13_lost md p1 = some (r_, o_md)) : CI l yX13_lost cX13_lost 2 (some .int) rm_X13_lost g [.ref (a_md 0), .int p1] (wMd g a_md q_md_tangle q_md_read md ++ []) (wMd g a_md q_md_tangle q_md_read o_md ++ []) r_ := by
  refine start2 (y := yX13_lost) (cc := cX13_lost) (n := 2) (av := [.ref (a_md 0), .int p1]) (ws := (wMd g a_md q_md_tangle q_md_read md ++ [])) (Qc := fun sz => QI g (wMd g a_md q_md_tangle q_md_read md ++ []) (wMd g a_md q_md_tangle q_md_read o_md ++ []) r_ sz) (by decide) rfl ?_
  intro p e s m args below meth c ls Q A ha hQ hA X hl hI hin
  have X : Cx p s m args meth c cX13_lost 2 RX13 (some .int) := X
  have hl : lv_has ls 2 [(0, .ref (a_md 0)), (1, .int p1)] := hl
  obtain ⟨hx, hb, hml, hown, ht, hr, hlk⟩ := id X
  clear ha hin
  unfold f_X13_lost at hf
  refine lv_aload_n hx hb dX13_lost_0 rfl (lv_at hl 0 rfl) ?_
  refine lv_iload_n hx hb dX13_lost_1 rfl (lv_at hl 1 rfl) ?_
  obtain ⟨r_1, md_2, hc_, hf⟩ := bd2_some hf
  refine call_Vi X hI (Cj.keep Cj.id) (c_X13_refused l g a_md q_md_tangle q_md_read md p1 r_1 md_2 hc_) ⟨rfl, rfl⟩ ⟨ht _ w_1719, w_1722, ht _ w_155, lk_X13_refused⟩ w_1721 w_65 rfl rfl rfl hl rfl rfl dX13_lost_2 rfl rfl rfl rfl (fun H locs hI => ?_)
  refine lv_pop hx hb dX13_lost_5 rfl ?_
  refine lv_bipush (v := (-100)) hx hb dX13_lost_6 (by decide) ?_
  cases hf
  exact end_i hQ hA X hI dX13_lost_8
abbrev rm_X13_denied : Room := { frames := 1, cells := 0, slots := 0, locals := 21 }
set_option maxRecDepth 20000 in
theorem c_X13_denied (l : Launch) (g : GT) (a_md : Nat → Nat) (q_md_tangle : Option Nat) (q_md_read : Option Nat) (md : MdS) (p1 : Int32) (r_ : Int32) (o_md : MdS) (hf : f_X13_denied md p1 = some (r_, o_md)) : CI l yX13_denied cX13_denied 2 (some .boolean) rm_X13_denied g [.ref (a_md 0), .int p1] (wMd g a_md q_md_tangle q_md_read md ++ []) (wMd g a_md q_md_tangle q_md_read o_md ++ []) r_ := by
  refine start2 (y := yX13_denied) (cc := cX13_denied) (n := 2) (av := [.ref (a_md 0), .int p1]) (ws := (wMd g a_md q_md_tangle q_md_read md ++ [])) (Qc := fun sz => QI g (wMd g a_md q_md_tangle q_md_read md ++ []) (wMd g a_md q_md_tangle q_md_read o_md ++ []) r_ sz) (by decide) rfl ?_
  intro p e s m args below meth c ls Q A ha hQ hA X hl hI hin
  have X : Cx p s m args meth c cX13_denied 2 RX13 (some .boolean) := X
  have hl : lv_has ls 2 [(0, .ref (a_md 0)), (1, .int p1)] := hl
  obtain ⟨hx, hb, hml, hown, ht, hr, hlk⟩ := id X
  clear ha hin
  unfold f_X13_denied at hf
  refine lv_aload_n hx hb dX13_denied_0 rfl (lv_at hl 0 rfl) ?_
  refine lv_iload_n hx hb dX13_denied_1 rfl (lv_at hl 1 rfl) ?_
  obtain ⟨r_1, md_2, hc_, hf⟩ := bd2_some hf
  refine call_Vi X hI (Cj.keep Cj.id) (c_X13_refused l g a_md q_md_tangle q_md_read md p1 r_1 md_2 hc_) ⟨rfl, rfl⟩ ⟨ht _ w_1719, w_1722, ht _ w_155, lk_X13_refused⟩ w_1721 w_65 rfl rfl rfl hl rfl rfl dX13_denied_2 rfl rfl rfl rfl (fun H locs hI => ?_)
  refine lv_pop hx hb dX13_denied_5 rfl ?_
  refine lv_iconst (v := 0) hx hb dX13_denied_6 (by decide) ?_
  cases hf
  exact end_z hQ hA X hI rfl dX13_denied_7
abbrev rm_X13_good : Room := { frames := 0, cells := 0, slots := 0, locals := 0 }
set_option maxRecDepth 20000 in
theorem c_X13_good (l : Launch) (g : GT) (a_md : Nat → Nat) (q_md_tangle : Option Nat) (q_md_read : Option Nat) (md : MdS) (p1 : Int32) (r_ : Int32) (o_md : MdS) (hf : f_X13_good md p1 = some (r_, o_md)) : CI l yX13_good cX13_good 2 (some .int) rm_X13_good g [.ref (a_md 0), .int p1] (wMd g a_md q_md_tangle q_md_read md ++ []) (wMd g a_md q_md_tangle q_md_read o_md ++ []) r_ := by
  refine start2 (y := yX13_good) (cc := cX13_good) (n := 2) (av := [.ref (a_md 0), .int p1]) (ws := (wMd g a_md q_md_tangle q_md_read md ++ [])) (Qc := fun sz => QI g (wMd g a_md q_md_tangle q_md_read md ++ []) (wMd g a_md q_md_tangle q_md_read o_md ++ []) r_ sz) (by decide) rfl ?_
  intro p e s m args below meth c ls Q A ha hQ hA X hl hI hin
  have X : Cx p s m args meth c cX13_good 2 RX13 (some .int) := X
  have hl : lv_has ls 2 [(0, .ref (a_md 0)), (1, .int p1)] := hl
  obtain ⟨hx, hb, hml, hown, ht, hr, hlk⟩ := id X
  clear ha hin
  unfold f_X13_good at hf
  refine lv_aload_n hx hb dX13_good_0 rfl (lv_at hl 0 rfl) ?_
  refine lv_iconst (v := 0) hx hb dX13_good_1 (by decide) ?_
  refine p_Md_trouble X hI up_Md_trouble.l (X.fl w_1584) dX13_good_2 (fun H locs hI => ?_)
  generalize hz_ : (Md_trouble' md (0 : Int32)) = md_1 at hI hf
  clear hz_
  replace hf := lt_e hf
  refine lv_aload_n hx hb dX13_good_5 rfl (lv_at hl 0 rfl) ?_
  refine lv_iconst (v := (-1)) hx hb dX13_good_6 (by decide) ?_
  refine p_Md_where X hI up_Md_where.l (X.fl w_1585) dX13_good_7 (fun H locs hI => ?_)
  generalize hz_ : (Md_where' md_1 (-1 : Int32)) = md_2 at hI hf
  clear hz_
  replace hf := lt_e hf
  refine lv_iload_n hx hb dX13_good_10 rfl (lv_at hl 1 rfl) ?_
  cases hf
  exact end_i hQ hA X hI dX13_good_11
abbrev rm_X13_granted : Room := { frames := 1, cells := 0, slots := 0, locals := 21 }
set_option maxRecDepth 20000 in
theorem c_X13_granted (l : Launch) (g : GT) (a_md : Nat → Nat) (q_md_tangle : Option Nat) (q_md_read : Option Nat) (md : MdS) (r_ : Int32) (o_md : MdS) (hf : f_X13_granted md = some (r_, o_md)) : CI l yX13_granted cX13_granted 1 (some .boolean) rm_X13_granted g [.ref (a_md 0)] (wMd g a_md q_md_tangle q_md_read md ++ []) (wMd g a_md q_md_tangle q_md_read o_md ++ []) r_ := by
  refine start2 (y := yX13_granted) (cc := cX13_granted) (n := 1) (av := [.ref (a_md 0)]) (ws := (wMd g a_md q_md_tangle q_md_read md ++ [])) (Qc := fun sz => QI g (wMd g a_md q_md_tangle q_md_read md ++ []) (wMd g a_md q_md_tangle q_md_read o_md ++ []) r_ sz) (by decide) rfl ?_
  intro p e s m args below meth c ls Q A ha hQ hA X hl hI hin
  have X : Cx p s m args meth c cX13_granted 1 RX13 (some .boolean) := X
  have hl : lv_has ls 1 [(0, .ref (a_md 0))] := hl
  obtain ⟨hx, hb, hml, hown, ht, hr, hlk⟩ := id X
  clear ha hin
  unfold f_X13_granted at hf
  refine lv_aload_n hx hb dX13_granted_0 rfl (lv_at hl 0 rfl) ?_
  refine lv_iconst (v := 0) hx hb dX13_granted_1 (by decide) ?_
  obtain ⟨r_1, md_2, hc_, hf⟩ := bd2_some hf
  refine call_Vi X hI (Cj.keep Cj.id) (c_X13_good l g a_md q_md_tangle q_md_read md (0 : Int32) r_1 md_2 hc_) ⟨rfl, rfl⟩ ⟨ht _ w_1998, w_2001, ht _ w_155, lk_X13_good⟩ w_2000 w_92 rfl rfl rfl hl rfl rfl dX13_granted_2 rfl rfl rfl rfl (fun H locs hI => ?_)
  refine lv_pop hx hb dX13_granted_5 rfl ?_
  refine lv_iconst (v := 1) hx hb dX13_granted_6 (by decide) ?_
  cases hf
  exact end_z hQ hA X hI rfl dX13_granted_7
abbrev rm_X13_in : Room := { frames := 0, cells := 0, slots := 0, locals := 0 }
set_option maxRecDepth 20000 in
theorem c_X13_in (l : Launch) (g : GT) (p0 : Int32) (p1 : Int32) (p2 : Int32) (r_ : Int32) (hf : f_X13_in p0 p1 p2 = some (r_)) : CI l yX13_in cX13_in 3 (some .boolean) rm_X13_in g [.int p0, .int p1, .int p2] ([]) ([]) r_ := by
  refine start2 (y := yX13_in) (cc := cX13_in) (n := 3) (av := [.int p0, .int p1, .int p2]) (ws := ([])) (Qc := fun sz => QI g ([]) ([]) r_ sz) (by decide) rfl ?_
  intro p e s m args below meth c ls Q A ha hQ hA X hl hI hin
  have X : Cx p s m args meth c cX13_in 3 RX13 (some .boolean) := X
  have hl : lv_has ls 3 [(0, .int p0), (1, .int p1), (2, .int p2)] := hl
  obtain ⟨hx, hb, hml, hown, ht, hr, hlk⟩ := id X
  clear ha hin
  unfold f_X13_in at hf
  refine lv_iload_n hx hb dX13_in_0 rfl (lv_at hl 0 rfl) ?_
  refine lv_iload_n hx hb dX13_in_1 rfl (lv_at hl 1 rfl) ?_
  refine lv_icmp_lt (tgt := 14) hx hb dX13_in_2 (by decide) (fun h_ => ?_) (fun h_ => ?_)
  · replace hf := if_t h_ hf
    refine lv_iconst (v := 0) hx hb dX13_in_14 (by decide) ?_
    cases hf
    exact end_z hQ hA X hI rfl dX13_in_15
  · replace hf := if_f h_ hf
    refine lv_iload_n hx hb dX13_in_5 rfl (lv_at hl 0 rfl) ?_
    refine lv_iload_n hx hb dX13_in_6 rfl (lv_at hl 2 rfl) ?_
    refine lv_icmp_gt (tgt := 14) hx hb dX13_in_7 (by decide) (fun h_ => ?_) (fun h_ => ?_)
    · replace hf := if_t h_ hf
      refine lv_iconst (v := 0) hx hb dX13_in_14 (by decide) ?_
      cases hf
      exact end_z hQ hA X hI rfl dX13_in_15
    · replace hf := if_f h_ hf
      refine lv_iconst (v := 1) hx hb dX13_in_10 (by decide) ?_
      refine lv_goto (tgt := 15) hx hb dX13_in_11 (by decide) ?_
      cases hf
      exact end_z hQ hA X hI rfl dX13_in_15
abbrev rm_X13_byteAt : Room := { frames := 0, cells := 0, slots := 0, locals := 0 }
set_option maxRecDepth 20000 in
theorem c_X13_byteAt (l : Launch) (g : GT) (a_md : Nat → Nat) (q_md_tangle : Option Nat) (q_md_read : Option Nat) (md : MdS) (p1 : Int32) (r_ : Int32) (hf : f_X13_byteAt md p1 = some (r_)) : CI l yX13_byteAt cX13_byteAt 2 (some .int) rm_X13_byteAt g [.ref (a_md 0), .int p1] (wMd g a_md q_md_tangle q_md_read md ++ []) (wMd g a_md q_md_tangle q_md_read md ++ []) r_ := by
  refine start2 (y := yX13_byteAt) (cc := cX13_byteAt) (n := 2) (av := [.ref (a_md 0), .int p1]) (ws := (wMd g a_md q_md_tangle q_md_read md ++ [])) (Qc := fun sz => QI g (wMd g a_md q_md_tangle q_md_read md ++ []) (wMd g a_md q_md_tangle q_md_read md ++ []) r_ sz) (by decide) rfl ?_
  intro p e s m args below meth c ls Q A ha hQ hA X hl hI hin
  have X : Cx p s m args meth c cX13_byteAt 2 RX13 (some .int) := X
  have hl : lv_has ls 2 [(0, .ref (a_md 0)), (1, .int p1)] := hl
  obtain ⟨hx, hb, hml, hown, ht, hr, hlk⟩ := id X
  clear ha hin
  unfold f_X13_byteAt at hf
  refine lv_iload_n hx hb dX13_byteAt_0 rfl (lv_at hl 1 rfl) ?_
  refine lv_aload_n hx hb dX13_byteAt_1 rfl (lv_at hl 0 rfl) ?_
  refine g_Md_size X hI has_Md.l (X.fl w_1590) dX13_byteAt_2 ?_
  refine lv_icmp_ge (tgt := 21) hx hb dX13_byteAt_5 (by decide) (fun h_ => ?_) (fun h_ => ?_)
  · replace hf := if_t h_ hf
    refine lv_iconst (v := (-1)) hx hb dX13_byteAt_21 (by decide) ?_
    cases hf
    exact end_i hQ hA X hI dX13_byteAt_22
  · replace hf := if_f h_ hf
    refine lv_aload_n hx hb dX13_byteAt_8 rfl (lv_at hl 0 rfl) ?_
    refine g_Md_tape X hI has_Md.l (X.fl w_1588) dX13_byteAt_9 ?_
    refine lv_iload_n hx hb dX13_byteAt_12 rfl (lv_at hl 1 rfl) ?_
    obtain ⟨h_, hf⟩ := ck_someM hf
    refine ld_B X hI has_Md_tape.l h_ dX13_byteAt_13 ?_
    refine lv_sipush (v := 255) hx hb dX13_byteAt_14 (by decide) ?_
    refine lv_iand hx hb dX13_byteAt_17 ?_
    refine lv_goto (tgt := 22) hx hb dX13_byteAt_18 (by decide) ?_
    cases hf
    exact end_i hQ hA X hI dX13_byteAt_22
abbrev rm_X13_isLetter : Room := { frames := 0, cells := 0, slots := 0, locals := 0 }
set_option maxRecDepth 20000 in
theorem c_X13_isLetter (l : Launch) (g : GT) (p0 : Int32) (r_ : Int32) (hf : f_X13_isLetter p0 = some (r_)) : CI l yX13_isLetter cX13_isLetter 1 (some .boolean) rm_X13_isLetter g [.int p0] ([]) ([]) r_ := by
  refine start2 (y := yX13_isLetter) (cc := cX13_isLetter) (n := 1) (av := [.int p0]) (ws := ([])) (Qc := fun sz => QI g ([]) ([]) r_ sz) (by decide) rfl ?_
  intro p e s m args below meth c ls Q A ha hQ hA X hl hI hin
  have X : Cx p s m args meth c cX13_isLetter 1 RX13 (some .boolean) := X
  have hl : lv_has ls 1 [(0, .int p0)] := hl
  obtain ⟨hx, hb, hml, hown, ht, hr, hlk⟩ := id X
  clear ha hin
  unfold f_X13_isLetter at hf
  refine lv_iload_n hx hb dX13_isLetter_0 rfl (lv_at hl 0 rfl) ?_
  refine lv_bipush (v := 97) hx hb dX13_isLetter_1 (by decide) ?_
  refine lv_icmp_lt (tgt := 16) hx hb dX13_isLetter_3 (by decide) (fun h_ => ?_) (fun h_ => ?_)
  · replace hf := if_t h_ hf
    refine lv_iconst (v := 0) hx hb dX13_isLetter_16 (by decide) ?_
    cases hf
    exact end_z hQ hA X hI rfl dX13_isLetter_17
  · replace hf := if_f h_ hf
    refine lv_iload_n hx hb dX13_isLetter_6 rfl (lv_at hl 0 rfl) ?_
    refine lv_bipush (v := 122) hx hb dX13_isLetter_7 (by decide) ?_
    refine lv_icmp_gt (tgt := 16) hx hb dX13_isLetter_9 (by decide) (fun h_ => ?_) (fun h_ => ?_)
    · replace hf := if_t h_ hf
      refine lv_iconst (v := 0) hx hb dX13_isLetter_16 (by decide) ?_
      cases hf
      exact end_z hQ hA X hI rfl dX13_isLetter_17
    · replace hf := if_f h_ hf
      refine lv_iconst (v := 1) hx hb dX13_isLetter_12 (by decide) ?_
      refine lv_goto (tgt := 17) hx hb dX13_isLetter_13 (by decide) ?_
      cases hf
      exact end_z hQ hA X hI rfl dX13_isLetter_17
abbrev rm_X13_isDigit : Room := { frames := 0, cells := 0, slots := 0, locals := 0 }
set_option maxRecDepth 20000 in
theorem c_X13_isDigit (l : Launch) (g : GT) (p0 : Int32) (r_ : Int32) (hf : f_X13_isDigit p0 = some (r_)) : CI l yX13_isDigit cX13_isDigit 1 (some .boolean) rm_X13_isDigit g [.int p0] ([]) ([]) r_ := by
  refine start2 (y := yX13_isDigit) (cc := cX13_isDigit) (n := 1) (av := [.int p0]) (ws := ([])) (Qc := fun sz => QI g ([]) ([]) r_ sz) (by decide) rfl ?_
  intro p e s m args below meth c ls Q A ha hQ hA X hl hI hin
  have X : Cx p s m args meth c cX13_isDigit 1 RX13 (some .boolean) := X
  have hl : lv_has ls 1 [(0, .int p0)] := hl
  obtain ⟨hx, hb, hml, hown, ht, hr, hlk⟩ := id X
  clear ha hin
  unfold f_X13_isDigit at hf
  refine lv_iload_n hx hb dX13_isDigit_0 rfl (lv_at hl 0 rfl) ?_
  refine lv_bipush (v := 48) hx hb dX13_isDigit_1 (by decide) ?_
  refine lv_icmp_lt (tgt := 16) hx hb dX13_isDigit_3 (by decide) (fun h_ => ?_) (fun h_ => ?_)
  · replace hf := if_t h_ hf
    refine lv_iconst (v := 0) hx hb dX13_isDigit_16 (by decide) ?_
    cases hf
    exact end_z hQ hA X hI rfl dX13_isDigit_17
  · replace hf := if_f h_ hf
    refine lv_iload_n hx hb dX13_isDigit_6 rfl (lv_at hl 0 rfl) ?_
    refine lv_bipush (v := 57) hx hb dX13_isDigit_7 (by decide) ?_
    refine lv_icmp_gt (tgt := 16) hx hb dX13_isDigit_9 (by decide) (fun h_ => ?_) (fun h_ => ?_)
    · replace hf := if_t h_ hf
      refine lv_iconst (v := 0) hx hb dX13_isDigit_16 (by decide) ?_
      cases hf
      exact end_z hQ hA X hI rfl dX13_isDigit_17
    · replace hf := if_f h_ hf
      refine lv_iconst (v := 1) hx hb dX13_isDigit_12 (by decide) ?_
      refine lv_goto (tgt := 17) hx hb dX13_isDigit_13 (by decide) ?_
      cases hf
      exact end_z hQ hA X hI rfl dX13_isDigit_17
abbrev rm_X13_goesOn : Room := { frames := 1, cells := 0, slots := 0, locals := 21 }
set_option maxRecDepth 20000 in
theorem c_X13_goesOn (l : Launch) (g : GT) (a_md : Nat → Nat) (q_md_tangle : Option Nat) (q_md_read : Option Nat) (md : MdS) (o_md : MdS) (hf : f_X13_goesOn md = some (o_md)) : CV l yX13_goesOn cX13_goesOn 3 none rm_X13_goesOn g [.ref (a_md 0)] (wMd g a_md q_md_tangle q_md_read md ++ []) (wMd g a_md q_md_tangle q_md_read o_md ++ []) := by
  refine start2 (y := yX13_goesOn) (cc := cX13_goesOn) (n := 3) (av := [.ref (a_md 0)]) (ws := (wMd g a_md q_md_tangle q_md_read md ++ [])) (Qc := fun sz => QV g (wMd g a_md q_md_tangle q_md_read md ++ []) (wMd g a_md q_md_tangle q_md_read o_md ++ []) sz) (by decide) rfl ?_
  intro p e s m args below meth c ls Q A ha hQ hA X hl hI hin
  have X : Cx p s m args meth c cX13_goesOn 3 RX13 none := X
  have hl : lv_has ls 3 [(0, .ref (a_md 0))] := hl
  obtain ⟨hx, hb, hml, hown, ht, hr, hlk⟩ := id X
  clear ha hin
  have L_131 : ∀ (x2 : Int32) (md : MdS) (k84 : (Int32) → (MdS) → Option ((MdS))) (H : Heap) (locs : List Loc) (ls : Array Slot), lv_has ls 3 [(0, .ref (a_md 0)), (2, .int x2)] → In g A s.heap s (wMd g a_md q_md_tangle q_md_read md ++ []) H locs → f_X13_goesOn_L131 x2 md k84 = some (o_md) → (∀ (x2 : Int32) (md : MdS) (H : Heap) (locs : List Loc) (ls : Array Slot), lv_has ls 3 [(0, .ref (a_md 0)), (2, .int x2)] → In g A s.heap s (wMd g a_md q_md_tangle q_md_read md ++ []) H locs → k84 x2 md = some (o_md) → W p l e rm_X13_goesOn s m args below meth c H locs 0 0 Q (F0 m 84 ls [])) → W p l e rm_X13_goesOn s m args below meth c H locs 0 0 Q (F0 m 131 ls []) := by
    intro x2 md k84 H locs ls hl hI hf hk84
    unfold f_X13_goesOn_L131 at hf
    obtain ⟨v_25, e_⟩ : ∃ y : Int32, y = (x2 + (1 : Int32)) := ⟨_, rfl⟩
    replace hf := lt_to e_ hf
    refine lv_iinc (v := v_25) (lv' := [(2, .int v_25), (0, .ref (a_md 0))]) hx hb dX13_goesOn_131 hl (k := 1) rfl (by rw [e_]; rfl) (by decide) rfl (fun ls hl => ?_)
    clear e_
    refine lv_aload_n hx hb dX13_goesOn_134 rfl (lv_at hl 1 rfl) ?_
    refine lv_dup hx hb dX13_goesOn_135 rfl ?_
    refine g_Md_spot X hI has_Md.l (X.fl w_1591) dX13_goesOn_136 ?_
    refine lv_iconst (v := 1) hx hb dX13_goesOn_139 (by decide) ?_
    refine lv_iadd hx hb dX13_goesOn_140 ?_
    refine p_Md_spot X hI up_Md_spot.l (X.fl w_1591) dX13_goesOn_141 (fun H locs hI => ?_)
    generalize hz_ : (Md_spot' md ((Md_spot md) + (1 : Int32))) = md_26 at hI hf
    clear hz_
    replace hf := lt_e hf
    refine lv_goto (tgt := 84) hx hb dX13_goesOn_144 (by decide) ?_
    exact hk84 v_25 md_26 _ _ _ (lv_sub hl [1, 0] rfl) hI hf
  have L_84 : ∀ (n_ : Nat) (x2 : Int32) (md : MdS) (H : Heap) (locs : List Loc) (ls : Array Slot), lv_has ls 3 [(0, .ref (a_md 0)), (2, .int x2)] → In g A s.heap s (wMd g a_md q_md_tangle q_md_read md ++ []) H locs → f_X13_goesOn_L84 n_ x2 md = some (o_md) → W p l e rm_X13_goesOn s m args below meth c H locs 0 0 Q (F0 m 84 ls []) := by
    intro n_
    induction n_ with
    | zero =>
      intro x2 md H locs ls hl hI hf
      rw [f_X13_goesOn_L84] at hf
      cases hf
    | succ n_ ih =>
      intro x2 md H locs ls hl hI hf
      rw [f_X13_goesOn_L84] at hf
      refine lv_aload_n hx hb dX13_goesOn_84 rfl (lv_at hl 0 rfl) ?_
      refine lv_aload_n hx hb dX13_goesOn_85 rfl (lv_at hl 0 rfl) ?_
      refine g_Md_spot X hI has_Md.l (X.fl w_1591) dX13_goesOn_86 ?_
      obtain ⟨r_18, hc_, hf⟩ := bd1_some hf
      refine call_Vi X hI (Cj.keep Cj.id) (c_X13_byteAt l g a_md q_md_tangle q_md_read md (Md_spot md) r_18 hc_) ⟨rfl, rfl⟩ ⟨ht _ w_1860, w_1863, ht _ w_155, lk_X13_byteAt⟩ w_1862 w_67 rfl rfl rfl hl rfl rfl dX13_goesOn_89 rfl rfl rfl rfl (fun H locs hI => ?_)
      obtain ⟨r_19, hc_, hf⟩ := bd1_some hf
      refine call_Si X hI Cj.nil (c_X13_isLetter l g r_18 r_19 hc_) ⟨rfl, rfl⟩ ⟨ht _ w_1864, w_1866, ht _ w_155, lk_X13_isLetter⟩ w_1865 rfl hl rfl rfl dX13_goesOn_92 rfl rfl rfl rfl (fun H locs hI => ?_)
      refine lv_if_eq (tgt := 147) hx hb dX13_goesOn_95 (by decide) (fun h_ => ?_) (fun h_ => ?_)
      · replace hf := if_t h_ hf
        refine lv_iload_n hx hb dX13_goesOn_147 rfl (lv_at hl 1 rfl) ?_
        refine lv_bipush (v := 8) hx hb dX13_goesOn_148 (by decide) ?_
        refine lv_icmp_gt (tgt := 265) hx hb dX13_goesOn_150 (by decide) (fun h_ => ?_) (fun h_ => ?_)
        · replace hf := if_t h_ hf
          cases hf
          exact end_v hQ hA X hI dX13_goesOn_265
        · replace hf := if_f h_ hf
          refine lv_aload_n hx hb dX13_goesOn_153 rfl (lv_at hl 0 rfl) ?_
          refine lv_iconst (v := 2) hx hb dX13_goesOn_154 (by decide) ?_
          refine p_Md_sort X hI up_Md_sort.l (X.fl w_1592) dX13_goesOn_155 (fun H locs hI => ?_)
          generalize hz_ : (Md_sort' md (2 : Int32)) = md_20 at hI hf
          clear hz_
          replace hf := lt_e hf
          refine lv_goto (tgt := 265) hx hb dX13_goesOn_158 (by decide) ?_
          cases hf
          exact end_v hQ hA X hI dX13_goesOn_265
      · replace hf := if_f h_ hf
        refine lv_iload_n hx hb dX13_goesOn_98 rfl (lv_at hl 1 rfl) ?_
        refine lv_bipush (v := 8) hx hb dX13_goesOn_99 (by decide) ?_
        refine lv_icmp_ge (tgt := 131) hx hb dX13_goesOn_101 (by decide) (fun h_ => ?_) (fun h_ => ?_)
        · replace hf := if_t h_ hf
          exact L_131 x2 md _ _ _ _ hl hI hf (fun z_0 z_1 _ _ _ hl hI hf => ih z_0 z_1 _ _ _ hl hI hf)
        · replace hf := if_f h_ hf
          refine lv_aload_n hx hb dX13_goesOn_104 rfl (lv_at hl 0 rfl) ?_
          refine lv_ldc2 (v := 32) hx hb hown (ht _ w_1867) dX13_goesOn_105 ?_
          refine lv_aload_n hx hb dX13_goesOn_108 rfl (lv_at hl 0 rfl) ?_
          refine g_Md_word X hI has_Md.l (X.fl w_1597) dX13_goesOn_109 ?_
          refine lv_lmul hx hb dX13_goesOn_112 ?_
          refine lv_aload_n hx hb dX13_goesOn_113 rfl (lv_at hl 0 rfl) ?_
          refine lv_aload_n hx hb dX13_goesOn_114 rfl (lv_at hl 0 rfl) ?_
          refine g_Md_spot X hI has_Md.l (X.fl w_1591) dX13_goesOn_115 ?_
          obtain ⟨r_21, hc_, hf⟩ := bd1_some hf
          refine call_Vi X hI (Cj.keep Cj.id) (c_X13_byteAt l g a_md q_md_tangle q_md_read md (Md_spot md) r_21 hc_) ⟨rfl, rfl⟩ ⟨ht _ w_1860, w_1863, ht _ w_155, lk_X13_byteAt⟩ w_1862 w_67 rfl rfl rfl hl rfl rfl dX13_goesOn_118 rfl rfl rfl rfl (fun H locs hI => ?_)
          refine lv_bipush (v := 97) hx hb dX13_goesOn_121 (by decide) ?_
          refine lv_isub hx hb dX13_goesOn_123 ?_
          refine lv_iconst (v := 1) hx hb dX13_goesOn_124 (by decide) ?_
          refine lv_iadd hx hb dX13_goesOn_125 ?_
          refine lv_i2l hx hb dX13_goesOn_126 rfl ?_
          refine lv_ladd hx hb dX13_goesOn_127 ?_
          refine p_Md_word X hI up_Md_word.l (X.fl w_1597) dX13_goesOn_128 (fun H locs hI => ?_)
          generalize hz_ : (Md_word' md (((32 : Int64) * (Md_word md)) + (Int32.toInt64 ((r_21 - (97 : Int32)) + (1 : Int32))))) = md_22 at hI hf
          clear hz_
          replace hf := lt_e hf
          exact L_131 x2 md_22 _ _ _ _ hl hI hf (fun z_0 z_1 _ _ _ hl hI hf => ih z_0 z_1 _ _ _ hl hI hf)
  have L_215 : ∀ (x2 : Int32) (md : MdS) (k173 : (Int32) → (MdS) → Option ((MdS))) (H : Heap) (locs : List Loc) (ls : Array Slot), lv_has ls 3 [(0, .ref (a_md 0)), (2, .int x2)] → In g A s.heap s (wMd g a_md q_md_tangle q_md_read md ++ []) H locs → f_X13_goesOn_L215 x2 md k173 = some (o_md) → (∀ (x2 : Int32) (md : MdS) (H : Heap) (locs : List Loc) (ls : Array Slot), lv_has ls 3 [(0, .ref (a_md 0)), (2, .int x2)] → In g A s.heap s (wMd g a_md q_md_tangle q_md_read md ++ []) H locs → k173 x2 md = some (o_md) → W p l e rm_X13_goesOn s m args below meth c H locs 0 0 Q (F0 m 173 ls [])) → W p l e rm_X13_goesOn s m args below meth c H locs 0 0 Q (F0 m 215 ls []) := by
    intro x2 md k173 H locs ls hl hI hf hk173
    unfold f_X13_goesOn_L215 at hf
    obtain ⟨v_23, e_⟩ : ∃ y : Int32, y = (x2 + (1 : Int32)) := ⟨_, rfl⟩
    replace hf := lt_to e_ hf
    refine lv_iinc (v := v_23) (lv' := [(2, .int v_23), (0, .ref (a_md 0))]) hx hb dX13_goesOn_215 hl (k := 1) rfl (by rw [e_]; rfl) (by decide) rfl (fun ls hl => ?_)
    clear e_
    refine lv_aload_n hx hb dX13_goesOn_218 rfl (lv_at hl 1 rfl) ?_
    refine lv_dup hx hb dX13_goesOn_219 rfl ?_
    refine g_Md_spot X hI has_Md.l (X.fl w_1591) dX13_goesOn_220 ?_
    refine lv_iconst (v := 1) hx hb dX13_goesOn_223 (by decide) ?_
    refine lv_iadd hx hb dX13_goesOn_224 ?_
    refine p_Md_spot X hI up_Md_spot.l (X.fl w_1591) dX13_goesOn_225 (fun H locs hI => ?_)
    generalize hz_ : (Md_spot' md ((Md_spot md) + (1 : Int32))) = md_24 at hI hf
    clear hz_
    replace hf := lt_e hf
    refine lv_goto (tgt := 173) hx hb dX13_goesOn_228 (by decide) ?_
    exact hk173 v_23 md_24 _ _ _ (lv_sub hl [1, 0] rfl) hI hf
  have L_173 : ∀ (n_ : Nat) (x2 : Int32) (md : MdS) (H : Heap) (locs : List Loc) (ls : Array Slot), lv_has ls 3 [(0, .ref (a_md 0)), (2, .int x2)] → In g A s.heap s (wMd g a_md q_md_tangle q_md_read md ++ []) H locs → f_X13_goesOn_L173 n_ x2 md = some (o_md) → W p l e rm_X13_goesOn s m args below meth c H locs 0 0 Q (F0 m 173 ls []) := by
    intro n_
    induction n_ with
    | zero =>
      intro x2 md H locs ls hl hI hf
      rw [f_X13_goesOn_L173] at hf
      cases hf
    | succ n_ ih =>
      intro x2 md H locs ls hl hI hf
      rw [f_X13_goesOn_L173] at hf
      refine lv_aload_n hx hb dX13_goesOn_173 rfl (lv_at hl 0 rfl) ?_
      refine lv_aload_n hx hb dX13_goesOn_174 rfl (lv_at hl 0 rfl) ?_
      refine g_Md_spot X hI has_Md.l (X.fl w_1591) dX13_goesOn_175 ?_
      obtain ⟨r_13, hc_, hf⟩ := bd1_some hf
      refine call_Vi X hI (Cj.keep Cj.id) (c_X13_byteAt l g a_md q_md_tangle q_md_read md (Md_spot md) r_13 hc_) ⟨rfl, rfl⟩ ⟨ht _ w_1860, w_1863, ht _ w_155, lk_X13_byteAt⟩ w_1862 w_67 rfl rfl rfl hl rfl rfl dX13_goesOn_178 rfl rfl rfl rfl (fun H locs hI => ?_)
      obtain ⟨r_14, hc_, hf⟩ := bd1_some hf
      refine call_Si X hI Cj.nil (c_X13_isDigit l g r_13 r_14 hc_) ⟨rfl, rfl⟩ ⟨ht _ w_1868, w_1870, ht _ w_155, lk_X13_isDigit⟩ w_1869 rfl hl rfl rfl dX13_goesOn_181 rfl rfl rfl rfl (fun H locs hI => ?_)
      refine lv_if_eq (tgt := 231) hx hb dX13_goesOn_184 (by decide) (fun h_ => ?_) (fun h_ => ?_)
      · replace hf := if_t h_ hf
        refine lv_iload_n hx hb dX13_goesOn_231 rfl (lv_at hl 1 rfl) ?_
        refine lv_iconst (v := 3) hx hb dX13_goesOn_232 (by decide) ?_
        refine lv_icmp_gt (tgt := 265) hx hb dX13_goesOn_233 (by decide) (fun h_ => ?_) (fun h_ => ?_)
        · replace hf := if_t h_ hf
          cases hf
          exact end_v hQ hA X hI dX13_goesOn_265
        · replace hf := if_f h_ hf
          refine lv_aload_n hx hb dX13_goesOn_236 rfl (lv_at hl 0 rfl) ?_
          refine lv_iconst (v := 3) hx hb dX13_goesOn_237 (by decide) ?_
          refine p_Md_sort X hI up_Md_sort.l (X.fl w_1592) dX13_goesOn_238 (fun H locs hI => ?_)
          generalize hz_ : (Md_sort' md (3 : Int32)) = md_15 at hI hf
          clear hz_
          replace hf := lt_e hf
          refine lv_goto (tgt := 265) hx hb dX13_goesOn_241 (by decide) ?_
          cases hf
          exact end_v hQ hA X hI dX13_goesOn_265
      · replace hf := if_f h_ hf
        refine lv_iload_n hx hb dX13_goesOn_187 rfl (lv_at hl 1 rfl) ?_
        refine lv_iconst (v := 3) hx hb dX13_goesOn_188 (by decide) ?_
        refine lv_icmp_ge (tgt := 215) hx hb dX13_goesOn_189 (by decide) (fun h_ => ?_) (fun h_ => ?_)
        · replace hf := if_t h_ hf
          exact L_215 x2 md _ _ _ _ hl hI hf (fun z_0 z_1 _ _ _ hl hI hf => ih z_0 z_1 _ _ _ hl hI hf)
        · replace hf := if_f h_ hf
          refine lv_aload_n hx hb dX13_goesOn_192 rfl (lv_at hl 0 rfl) ?_
          refine lv_bipush (v := 10) hx hb dX13_goesOn_193 (by decide) ?_
          refine lv_aload_n hx hb dX13_goesOn_195 rfl (lv_at hl 0 rfl) ?_
          refine g_Md_number X hI has_Md.l (X.fl w_1594) dX13_goesOn_196 ?_
          refine lv_imul hx hb dX13_goesOn_199 ?_
          refine lv_aload_n hx hb dX13_goesOn_200 rfl (lv_at hl 0 rfl) ?_
          refine lv_aload_n hx hb dX13_goesOn_201 rfl (lv_at hl 0 rfl) ?_
          refine g_Md_spot X hI has_Md.l (X.fl w_1591) dX13_goesOn_202 ?_
          obtain ⟨r_16, hc_, hf⟩ := bd1_some hf
          refine call_Vi X hI (Cj.keep Cj.id) (c_X13_byteAt l g a_md q_md_tangle q_md_read md (Md_spot md) r_16 hc_) ⟨rfl, rfl⟩ ⟨ht _ w_1860, w_1863, ht _ w_155, lk_X13_byteAt⟩ w_1862 w_67 rfl rfl rfl hl rfl rfl dX13_goesOn_205 rfl rfl rfl rfl (fun H locs hI => ?_)
          refine lv_iadd hx hb dX13_goesOn_208 ?_
          refine lv_bipush (v := 48) hx hb dX13_goesOn_209 (by decide) ?_
          refine lv_isub hx hb dX13_goesOn_211 ?_
          refine p_Md_number X hI up_Md_number.l (X.fl w_1594) dX13_goesOn_212 (fun H locs hI => ?_)
          generalize hz_ : (Md_number' md ((((10 : Int32) * (Md_number md)) + r_16) - (48 : Int32))) = md_17 at hI hf
          clear hz_
          replace hf := lt_e hf
          exact L_215 x2 md_17 _ _ _ _ hl hI hf (fun z_0 z_1 _ _ _ hl hI hf => ih z_0 z_1 _ _ _ hl hI hf)
  have L_9 : ∀ (n_ : Nat) (md : MdS) (H : Heap) (locs : List Loc) (ls : Array Slot), lv_has ls 3 [(0, .ref (a_md 0))] → In g A s.heap s (wMd g a_md q_md_tangle q_md_read md ++ []) H locs → f_X13_goesOn_L9 n_ md = some (o_md) → W p l e rm_X13_goesOn s m args below meth c H locs 0 0 Q (F0 m 9 ls []) := by
    intro n_
    induction n_ with
    | zero =>
      intro md H locs ls hl hI hf
      rw [f_X13_goesOn_L9] at hf
      cases hf
    | succ n_ ih =>
      intro md H locs ls hl hI hf
      rw [f_X13_goesOn_L9] at hf
      refine lv_aload_n hx hb dX13_goesOn_9 rfl (lv_at hl 0 rfl) ?_
      refine lv_aload_n hx hb dX13_goesOn_10 rfl (lv_at hl 0 rfl) ?_
      refine g_Md_spot X hI has_Md.l (X.fl w_1591) dX13_goesOn_11 ?_
      obtain ⟨r_1, hc_, hf⟩ := bd1_some hf
      refine call_Vi X hI (Cj.keep Cj.id) (c_X13_byteAt l g a_md q_md_tangle q_md_read md (Md_spot md) r_1 hc_) ⟨rfl, rfl⟩ ⟨ht _ w_1860, w_1863, ht _ w_155, lk_X13_byteAt⟩ w_1862 w_67 rfl rfl rfl hl rfl rfl dX13_goesOn_14 rfl rfl rfl rfl (fun H locs hI => ?_)
      refine lv_bipush (v := 32) hx hb dX13_goesOn_17 (by decide) ?_
      refine lv_icmp_ne (tgt := 35) hx hb dX13_goesOn_19 (by decide) (fun h_ => ?_) (fun h_ => ?_)
      · replace hf := if_f h_ hf
        refine lv_aload_n hx hb dX13_goesOn_35 rfl (lv_at hl 0 rfl) ?_
        refine lv_aload_n hx hb dX13_goesOn_36 rfl (lv_at hl 0 rfl) ?_
        refine g_Md_spot X hI has_Md.l (X.fl w_1591) dX13_goesOn_37 ?_
        refine p_Md_place X hI up_Md_place.l (X.fl w_1593) dX13_goesOn_40 (fun H locs hI => ?_)
        generalize hz_ : (Md_place' md (Md_spot md)) = md_2 at hI hf
        clear hz_
        replace hf := lt_e hf
        refine lv_aload_n hx hb dX13_goesOn_43 rfl (lv_at hl 0 rfl) ?_
        refine lv_iconst (v := 0) hx hb dX13_goesOn_44 (by decide) ?_
        refine p_Md_sort X hI up_Md_sort.l (X.fl w_1592) dX13_goesOn_45 (fun H locs hI => ?_)
        generalize hz_ : (Md_sort' md_2 (0 : Int32)) = md_3 at hI hf
        clear hz_
        replace hf := lt_e hf
        refine lv_aload_n hx hb dX13_goesOn_48 rfl (lv_at hl 0 rfl) ?_
        refine lv_aload_n hx hb dX13_goesOn_49 rfl (lv_at hl 0 rfl) ?_
        refine g_Md_spot X hI has_Md.l (X.fl w_1591) dX13_goesOn_50 ?_
        obtain ⟨r_4, hc_, hf⟩ := bd1_some hf
        refine call_Vi X hI (Cj.keep Cj.id) (c_X13_byteAt l g a_md q_md_tangle q_md_read md_3 (Md_spot md_3) r_4 hc_) ⟨rfl, rfl⟩ ⟨ht _ w_1860, w_1863, ht _ w_155, lk_X13_byteAt⟩ w_1862 w_67 rfl rfl rfl hl rfl rfl dX13_goesOn_53 rfl rfl rfl rfl (fun H locs hI => ?_)
        refine lv_istore_n (lv' := [(1, .int r_4), (0, .ref (a_md 0))]) hx hb dX13_goesOn_56 rfl hl (by decide) rfl (fun ls hl => ?_)
        refine lv_iconst (v := 0) hx hb dX13_goesOn_57 (by decide) ?_
        refine lv_istore_n (lv' := [(2, .int (0 : Int32)), (1, .int r_4), (0, .ref (a_md 0))]) hx hb dX13_goesOn_58 rfl hl (by decide) rfl (fun ls hl => ?_)
        refine lv_iload_n hx hb dX13_goesOn_59 rfl (lv_at hl 1 rfl) ?_
        refine lv_iconst (v := (-1)) hx hb dX13_goesOn_60 (by decide) ?_
        refine lv_icmp_ne (tgt := 72) hx hb dX13_goesOn_61 (by decide) (fun h_ => ?_) (fun h_ => ?_)
        · replace hf := if_f h_ hf
          refine lv_iload_n hx hb dX13_goesOn_72 rfl (lv_at hl 1 rfl) ?_
          obtain ⟨r_5, hc_, hf⟩ := bd1_some hf
          refine call_Si X hI Cj.nil (c_X13_isLetter l g r_4 r_5 hc_) ⟨rfl, rfl⟩ ⟨ht _ w_1864, w_1866, ht _ w_155, lk_X13_isLetter⟩ w_1865 rfl hl rfl rfl dX13_goesOn_73 rfl rfl rfl rfl (fun H locs hI => ?_)
          refine lv_if_eq (tgt := 161) hx hb dX13_goesOn_76 (by decide) (fun h_ => ?_) (fun h_ => ?_)
          · replace hf := if_t h_ hf
            refine lv_iload_n hx hb dX13_goesOn_161 rfl (lv_at hl 1 rfl) ?_
            obtain ⟨r_6, hc_, hf⟩ := bd1_some hf
            refine call_Si X hI Cj.nil (c_X13_isDigit l g r_4 r_6 hc_) ⟨rfl, rfl⟩ ⟨ht _ w_1868, w_1870, ht _ w_155, lk_X13_isDigit⟩ w_1869 rfl hl rfl rfl dX13_goesOn_162 rfl rfl rfl rfl (fun H locs hI => ?_)
            refine lv_if_eq (tgt := 244) hx hb dX13_goesOn_165 (by decide) (fun h_ => ?_) (fun h_ => ?_)
            · replace hf := if_t h_ hf
              refine lv_iload_n hx hb dX13_goesOn_244 rfl (lv_at hl 1 rfl) ?_
              refine lv_bipush (v := 59) hx hb dX13_goesOn_245 (by decide) ?_
              refine lv_icmp_ne (tgt := 265) hx hb dX13_goesOn_247 (by decide) (fun h_ => ?_) (fun h_ => ?_)
              · replace hf := if_f h_ hf
                cases hf
                exact end_v hQ hA X hI dX13_goesOn_265
              · replace hf := if_t h_ hf
                refine lv_aload_n hx hb dX13_goesOn_250 rfl (lv_at hl 2 rfl) ?_
                refine lv_iconst (v := 4) hx hb dX13_goesOn_251 (by decide) ?_
                refine p_Md_sort X hI up_Md_sort.l (X.fl w_1592) dX13_goesOn_252 (fun H locs hI => ?_)
                generalize hz_ : (Md_sort' md_3 (4 : Int32)) = md_7 at hI hf
                clear hz_
                replace hf := lt_e hf
                refine lv_aload_n hx hb dX13_goesOn_255 rfl (lv_at hl 2 rfl) ?_
                refine lv_dup hx hb dX13_goesOn_256 rfl ?_
                refine g_Md_spot X hI has_Md.l (X.fl w_1591) dX13_goesOn_257 ?_
                refine lv_iconst (v := 1) hx hb dX13_goesOn_260 (by decide) ?_
                refine lv_iadd hx hb dX13_goesOn_261 ?_
                refine p_Md_spot X hI up_Md_spot.l (X.fl w_1591) dX13_goesOn_262 (fun H locs hI => ?_)
                generalize hz_ : (Md_spot' md_7 ((Md_spot md_7) + (1 : Int32))) = md_8 at hI hf
                clear hz_
                replace hf := lt_e hf
                cases hf
                exact end_v hQ hA X hI dX13_goesOn_265
            · replace hf := if_f h_ hf
              refine lv_aload_n hx hb dX13_goesOn_168 rfl (lv_at hl 2 rfl) ?_
              refine lv_iconst (v := 0) hx hb dX13_goesOn_169 (by decide) ?_
              refine p_Md_number X hI up_Md_number.l (X.fl w_1594) dX13_goesOn_170 (fun H locs hI => ?_)
              generalize hz_ : (Md_number' md_3 (0 : Int32)) = md_9 at hI hf
              clear hz_
              replace hf := lt_e hf
              exact L_173 FU (0 : Int32) md_9 _ _ _ (lv_sub hl [2, 0] rfl) hI hf
          · replace hf := if_f h_ hf
            refine lv_aload_n hx hb dX13_goesOn_79 rfl (lv_at hl 2 rfl) ?_
            refine lv_lconst (v := 0) hx hb dX13_goesOn_80 (by decide) ?_
            refine p_Md_word X hI up_Md_word.l (X.fl w_1597) dX13_goesOn_81 (fun H locs hI => ?_)
            generalize hz_ : (Md_word' md_3 (0 : Int64)) = md_10 at hI hf
            clear hz_
            replace hf := lt_e hf
            exact L_84 FU (0 : Int32) md_10 _ _ _ (lv_sub hl [2, 0] rfl) hI hf
        · replace hf := if_t h_ hf
          refine lv_aload_n hx hb dX13_goesOn_64 rfl (lv_at hl 2 rfl) ?_
          refine lv_iconst (v := 1) hx hb dX13_goesOn_65 (by decide) ?_
          refine p_Md_sort X hI up_Md_sort.l (X.fl w_1592) dX13_goesOn_66 (fun H locs hI => ?_)
          generalize hz_ : (Md_sort' md_3 (1 : Int32)) = md_11 at hI hf
          clear hz_
          replace hf := lt_e hf
          refine lv_goto (tgt := 265) hx hb dX13_goesOn_69 (by decide) ?_
          cases hf
          exact end_v hQ hA X hI dX13_goesOn_265
      · replace hf := if_t h_ hf
        refine lv_aload_n hx hb dX13_goesOn_22 rfl (lv_at hl 0 rfl) ?_
        refine lv_dup hx hb dX13_goesOn_23 rfl ?_
        refine g_Md_spot X hI has_Md.l (X.fl w_1591) dX13_goesOn_24 ?_
        refine lv_iconst (v := 1) hx hb dX13_goesOn_27 (by decide) ?_
        refine lv_iadd hx hb dX13_goesOn_28 ?_
        refine p_Md_spot X hI up_Md_spot.l (X.fl w_1591) dX13_goesOn_29 (fun H locs hI => ?_)
        generalize hz_ : (Md_spot' md ((Md_spot md) + (1 : Int32))) = md_12 at hI hf
        clear hz_
        replace hf := lt_e hf
        refine lv_goto (tgt := 9) hx hb dX13_goesOn_32 (by decide) ?_
        exact ih md_12 _ _ _ hl hI hf
  unfold f_X13_goesOn at hf
  refine lv_aload_n hx hb dX13_goesOn_0 rfl (lv_at hl 0 rfl) ?_
  refine g_Md_sort X hI has_Md.l (X.fl w_1592) dX13_goesOn_1 ?_
  refine lv_iconst (v := 5) hx hb dX13_goesOn_4 (by decide) ?_
  refine lv_icmp_ne (tgt := 9) hx hb dX13_goesOn_5 (by decide) (fun h_ => ?_) (fun h_ => ?_)
  · replace hf := if_f h_ hf
    exact L_9 FU md _ _ _ hl hI hf
  · replace hf := if_t h_ hf
    cases hf
    exact end_v hQ hA X hI dX13_goesOn_8
abbrev rm_X13_flaw : Room := { frames := 0, cells := 0, slots := 0, locals := 0 }
set_option maxRecDepth 20000 in
theorem c_X13_flaw (l : Launch) (g : GT) (a_md : Nat → Nat) (q_md_tangle : Option Nat) (q_md_read : Option Nat) (md : MdS) (p1 : Int32) (o_md : MdS) (hf : f_X13_flaw md p1 = some (o_md)) : CV l yX13_flaw cX13_flaw 2 none rm_X13_flaw g [.ref (a_md 0), .int p1] (wMd g a_md q_md_tangle q_md_read md ++ []) (wMd g a_md q_md_tangle q_md_read o_md ++ []) := by
  refine start2 (y := yX13_flaw) (cc := cX13_flaw) (n := 2) (av := [.ref (a_md 0), .int p1]) (ws := (wMd g a_md q_md_tangle q_md_read md ++ [])) (Qc := fun sz => QV g (wMd g a_md q_md_tangle q_md_read md ++ []) (wMd g a_md q_md_tangle q_md_read o_md ++ []) sz) (by decide) rfl ?_
  intro p e s m args below meth c ls Q A ha hQ hA X hl hI hin
  have X : Cx p s m args meth c cX13_flaw 2 RX13 none := X
  have hl : lv_has ls 2 [(0, .ref (a_md 0)), (1, .int p1)] := hl
  obtain ⟨hx, hb, hml, hown, ht, hr, hlk⟩ := id X
  clear ha hin
  unfold f_X13_flaw at hf
  refine lv_aload_n hx hb dX13_flaw_0 rfl (lv_at hl 0 rfl) ?_
  refine g_Md_sort X hI has_Md.l (X.fl w_1592) dX13_flaw_1 ?_
  refine lv_iconst (v := 5) hx hb dX13_flaw_4 (by decide) ?_
  refine lv_icmp_ne (tgt := 9) hx hb dX13_flaw_5 (by decide) (fun h_ => ?_) (fun h_ => ?_)
  · replace hf := if_f h_ hf
    refine lv_aload_n hx hb dX13_flaw_9 rfl (lv_at hl 0 rfl) ?_
    refine lv_iload_n hx hb dX13_flaw_10 rfl (lv_at hl 1 rfl) ?_
    refine p_Md_fault X hI up_Md_fault.l (X.fl w_1595) dX13_flaw_11 (fun H locs hI => ?_)
    generalize hz_ : (Md_fault' md p1) = md_1 at hI hf
    clear hz_
    replace hf := lt_e hf
    refine lv_aload_n hx hb dX13_flaw_14 rfl (lv_at hl 0 rfl) ?_
    refine lv_aload_n hx hb dX13_flaw_15 rfl (lv_at hl 0 rfl) ?_
    refine g_Md_place X hI has_Md.l (X.fl w_1593) dX13_flaw_16 ?_
    refine p_Md_wrongAt X hI up_Md_wrongAt.l (X.fl w_1596) dX13_flaw_19 (fun H locs hI => ?_)
    generalize hz_ : (Md_wrongAt' md_1 (Md_place md_1)) = md_2 at hI hf
    clear hz_
    replace hf := lt_e hf
    refine lv_aload_n hx hb dX13_flaw_22 rfl (lv_at hl 0 rfl) ?_
    refine lv_iconst (v := 5) hx hb dX13_flaw_23 (by decide) ?_
    refine p_Md_sort X hI up_Md_sort.l (X.fl w_1592) dX13_flaw_24 (fun H locs hI => ?_)
    generalize hz_ : (Md_sort' md_2 (5 : Int32)) = md_3 at hI hf
    clear hz_
    replace hf := lt_e hf
    cases hf
    exact end_v hQ hA X hI dX13_flaw_27
  · replace hf := if_t h_ hf
    cases hf
    exact end_v hQ hA X hI dX13_flaw_8
abbrev rm_X13_eatsSemicolon : Room := { frames := 2, cells := 0, slots := 0, locals := 43 }
set_option maxRecDepth 20000 in
theorem c_X13_eatsSemicolon (l : Launch) (g : GT) (a_md : Nat → Nat) (q_md_tangle : Option Nat) (q_md_read : Option Nat) (md : MdS) (r_ : Int32) (o_md : MdS) (hf : f_X13_eatsSemicolon md = some (r_, o_md)) : CI l yX13_eatsSemicolon cX13_eatsSemicolon 2 (some .boolean) rm_X13_eatsSemicolon g [.ref (a_md 0)] (wMd g a_md q_md_tangle q_md_read md ++ []) (wMd g a_md q_md_tangle q_md_read o_md ++ []) r_ := by
  refine start2 (y := yX13_eatsSemicolon) (cc := cX13_eatsSemicolon) (n := 2) (av := [.ref (a_md 0)]) (ws := (wMd g a_md q_md_tangle q_md_read md ++ [])) (Qc := fun sz => QI g (wMd g a_md q_md_tangle q_md_read md ++ []) (wMd g a_md q_md_tangle q_md_read o_md ++ []) r_ sz) (by decide) rfl ?_
  intro p e s m args below meth c ls Q A ha hQ hA X hl hI hin
  have X : Cx p s m args meth c cX13_eatsSemicolon 2 RX13 (some .boolean) := X
  have hl : lv_has ls 2 [(0, .ref (a_md 0))] := hl
  obtain ⟨hx, hb, hml, hown, ht, hr, hlk⟩ := id X
  clear ha hin
  have L_13 : ∀ (t0i : Int32) (md : MdS) (H : Heap) (locs : List Loc) (ls : Array Slot), lv_has ls 2 [(0, .ref (a_md 0))] → In g A s.heap s (wMd g a_md q_md_tangle q_md_read md ++ []) H locs → f_X13_eatsSemicolon_L13 t0i md = some (r_, o_md) → W p l e rm_X13_eatsSemicolon s m args below meth c H locs 0 0 Q (F0 m 13 ls [.int t0i]) := by
    intro t0i md H locs ls hl hI hf
    unfold f_X13_eatsSemicolon_L13 at hf
    refine lv_istore_n (lv' := [(1, .int t0i), (0, .ref (a_md 0))]) hx hb dX13_eatsSemicolon_13 rfl hl (by decide) rfl (fun ls hl => ?_)
    refine lv_iload_n hx hb dX13_eatsSemicolon_14 rfl (lv_at hl 0 rfl) ?_
    refine lv_if_eq (tgt := 22) hx hb dX13_eatsSemicolon_15 (by decide) (fun h_ => ?_) (fun h_ => ?_)
    · replace hf := if_t h_ hf
      refine lv_iload_n hx hb dX13_eatsSemicolon_22 rfl (lv_at hl 0 rfl) ?_
      obtain ⟨hzb_, hf⟩ := zb_some hf
      cases hf
      exact end_z hQ hA X hI (zb_n hzb_) dX13_eatsSemicolon_23
    · replace hf := if_f h_ hf
      refine lv_aload_n hx hb dX13_eatsSemicolon_18 rfl (lv_at hl 1 rfl) ?_
      obtain ⟨md_1, hc_, hf⟩ := bd1_some hf
      refine call_Vv X hI (Cj.keep Cj.id) (c_X13_goesOn l g a_md q_md_tangle q_md_read md md_1 hc_) ⟨rfl, rfl⟩ ⟨ht _ w_1856, w_1859, ht _ w_155, lk_X13_goesOn⟩ w_1858 w_66 rfl rfl rfl hl rfl rfl dX13_eatsSemicolon_19 rfl rfl rfl rfl (fun H locs hI => ?_)
      refine lv_iload_n hx hb dX13_eatsSemicolon_22 rfl (lv_at hl 0 rfl) ?_
      obtain ⟨hzb_, hf⟩ := zb_some hf
      cases hf
      exact end_z hQ hA X hI (zb_n hzb_) dX13_eatsSemicolon_23
  unfold f_X13_eatsSemicolon at hf
  refine lv_aload_n hx hb dX13_eatsSemicolon_0 rfl (lv_at hl 0 rfl) ?_
  refine g_Md_sort X hI has_Md.l (X.fl w_1592) dX13_eatsSemicolon_1 ?_
  refine lv_iconst (v := 4) hx hb dX13_eatsSemicolon_4 (by decide) ?_
  refine lv_icmp_ne (tgt := 12) hx hb dX13_eatsSemicolon_5 (by decide) (fun h_ => ?_) (fun h_ => ?_)
  · replace hf := if_f h_ hf
    refine lv_iconst (v := 0) hx hb dX13_eatsSemicolon_12 (by decide) ?_
    exact L_13 (0 : Int32) md _ _ _ hl hI hf
  · replace hf := if_t h_ hf
    refine lv_iconst (v := 1) hx hb dX13_eatsSemicolon_8 (by decide) ?_
    refine lv_goto (tgt := 13) hx hb dX13_eatsSemicolon_9 (by decide) ?_
    exact L_13 (1 : Int32) md _ _ _ hl hI hf
abbrev rm_X13_bounded : Room := { frames := 1, cells := 0, slots := 0, locals := 22 }
set_option maxRecDepth 20000 in
theorem c_X13_bounded (l : Launch) (g : GT) (a_md : Nat → Nat) (q_md_tangle : Option Nat) (q_md_read : Option Nat) (md : MdS) (p1 : Int32) (p2 : Int32) (r_ : Int32) (o_md : MdS) (hf : f_X13_bounded md p1 p2 = some (r_, o_md)) : CI l yX13_bounded cX13_bounded 3 (some .int) rm_X13_bounded g [.ref (a_md 0), .int p1, .int p2] (wMd g a_md q_md_tangle q_md_read md ++ []) (wMd g a_md q_md_tangle q_md_read o_md ++ []) r_ := by
  refine start2 (y := yX13_bounded) (cc := cX13_bounded) (n := 3) (av := [.ref (a_md 0), .int p1, .int p2]) (ws := (wMd g a_md q_md_tangle q_md_read md ++ [])) (Qc := fun sz => QI g (wMd g a_md q_md_tangle q_md_read md ++ []) (wMd g a_md q_md_tangle q_md_read o_md ++ []) r_ sz) (by decide) rfl ?_
  intro p e s m args below meth c ls Q A ha hQ hA X hl hI hin
  have X : Cx p s m args meth c cX13_bounded 3 RX13 (some .int) := X
  have hl : lv_has ls 3 [(0, .ref (a_md 0)), (1, .int p1), (2, .int p2)] := hl
  obtain ⟨hx, hb, hml, hown, ht, hr, hlk⟩ := id X
  clear ha hin
  have L_33 : ∀ (x1 : Int32) (md : MdS) (H : Heap) (locs : List Loc) (ls : Array Slot), lv_has ls 3 [(0, .ref (a_md 0)), (1, .int x1)] → In g A s.heap s (wMd g a_md q_md_tangle q_md_read md ++ []) H locs → f_X13_bounded_L33 x1 md = some (r_, o_md) → W p l e rm_X13_bounded s m args below meth c H locs 0 0 Q (F0 m 33 ls []) := by
    intro x1 md H locs ls hl hI hf
    unfold f_X13_bounded_L33 at hf
    refine lv_aload_n hx hb dX13_bounded_33 rfl (lv_at hl 0 rfl) ?_
    refine g_Md_sort X hI has_Md.l (X.fl w_1592) dX13_bounded_34 ?_
    refine lv_iconst (v := 5) hx hb dX13_bounded_37 (by decide) ?_
    refine lv_icmp_ne (tgt := 45) hx hb dX13_bounded_38 (by decide) (fun h_ => ?_) (fun h_ => ?_)
    · replace hf := if_f h_ hf
      refine lv_aload_n hx hb dX13_bounded_45 rfl (lv_at hl 0 rfl) ?_
      refine g_Md_number X hI has_Md.l (X.fl w_1594) dX13_bounded_46 ?_
      cases hf
      exact end_i hQ hA X hI dX13_bounded_49
    · replace hf := if_t h_ hf
      refine lv_iload_n hx hb dX13_bounded_41 rfl (lv_at hl 1 rfl) ?_
      refine lv_goto (tgt := 49) hx hb dX13_bounded_42 (by decide) ?_
      cases hf
      exact end_i hQ hA X hI dX13_bounded_49
  unfold f_X13_bounded at hf
  refine lv_aload_n hx hb dX13_bounded_0 rfl (lv_at hl 0 rfl) ?_
  refine g_Md_sort X hI has_Md.l (X.fl w_1592) dX13_bounded_1 ?_
  refine lv_iconst (v := 3) hx hb dX13_bounded_4 (by decide) ?_
  refine lv_icmp_eq (tgt := 16) hx hb dX13_bounded_5 (by decide) (fun h_ => ?_) (fun h_ => ?_)
  · replace hf := if_t h_ hf
    refine lv_aload_n hx hb dX13_bounded_16 rfl (lv_at hl 0 rfl) ?_
    refine g_Md_number X hI has_Md.l (X.fl w_1594) dX13_bounded_17 ?_
    refine lv_iload_n hx hb dX13_bounded_20 rfl (lv_at hl 1 rfl) ?_
    refine lv_iload_n hx hb dX13_bounded_21 rfl (lv_at hl 2 rfl) ?_
    obtain ⟨r_1, hc_, hf⟩ := bd1_some hf
    refine call_Si X hI Cj.nil (c_X13_in l g (Md_number md) p1 p2 r_1 hc_) ⟨rfl, rfl⟩ ⟨ht _ w_1910, w_1912, ht _ w_155, lk_X13_in⟩ w_1911 rfl hl rfl rfl dX13_bounded_22 rfl rfl rfl rfl (fun H locs hI => ?_)
    refine lv_if_ne (tgt := 33) hx hb dX13_bounded_25 (by decide) (fun h_ => ?_) (fun h_ => ?_)
    · replace hf := if_f h_ hf
      exact L_33 p1 md _ _ _ (lv_sub hl [0, 1] rfl) hI hf
    · replace hf := if_t h_ hf
      refine lv_aload_n hx hb dX13_bounded_28 rfl (lv_at hl 0 rfl) ?_
      refine lv_iconst (v := 4) hx hb dX13_bounded_29 (by decide) ?_
      obtain ⟨md_2, hc_, hf⟩ := bd1_some hf
      refine call_Vv X hI (Cj.keep Cj.id) (c_X13_flaw l g a_md q_md_tangle q_md_read md (4 : Int32) md_2 hc_) ⟨rfl, rfl⟩ ⟨ht _ w_1893, w_1896, ht _ w_155, lk_X13_flaw⟩ w_1895 w_72 rfl rfl rfl hl rfl rfl dX13_bounded_30 rfl rfl rfl rfl (fun H locs hI => ?_)
      exact L_33 p1 md_2 _ _ _ (lv_sub hl [0, 1] rfl) hI hf
  · replace hf := if_f h_ hf
    refine lv_aload_n hx hb dX13_bounded_8 rfl (lv_at hl 0 rfl) ?_
    refine lv_iconst (v := 1) hx hb dX13_bounded_9 (by decide) ?_
    obtain ⟨md_3, hc_, hf⟩ := bd1_some hf
    refine call_Vv X hI (Cj.keep Cj.id) (c_X13_flaw l g a_md q_md_tangle q_md_read md (1 : Int32) md_3 hc_) ⟨rfl, rfl⟩ ⟨ht _ w_1893, w_1896, ht _ w_155, lk_X13_flaw⟩ w_1895 w_72 rfl rfl rfl hl rfl rfl dX13_bounded_10 rfl rfl rfl rfl (fun H locs hI => ?_)
    refine lv_goto (tgt := 33) hx hb dX13_bounded_13 (by decide) ?_
    exact L_33 p1 md_3 _ _ _ (lv_sub hl [0, 1] rfl) hI hf
abbrev rm_X13_begins : Room := { frames := 2, cells := 0, slots := 0, locals := 43 }
set_option maxRecDepth 20000 in
theorem c_X13_begins (l : Launch) (g : GT) (a_md : Nat → Nat) (a_rd : Nat → Nat) (q_md_tangle : Option Nat) (md : MdS) (rd : TnS) (p1 : Int32) (p2 : Int32) (o_md : MdS) (hf : f_X13_begins md rd p1 p2 = some (o_md)) : CV l yX13_begins cX13_begins 3 none rm_X13_begins g [.ref (a_md 0), .int p1, .int p2] (wMd g a_md q_md_tangle (some (a_rd 0)) md ++ (wTn g a_rd rd ++ [])) (wMd g a_md q_md_tangle (some (a_rd 0)) o_md ++ (wTn g a_rd rd ++ [])) := by
  refine start2 (y := yX13_begins) (cc := cX13_begins) (n := 3) (av := [.ref (a_md 0), .int p1, .int p2]) (ws := (wMd g a_md q_md_tangle (some (a_rd 0)) md ++ (wTn g a_rd rd ++ []))) (Qc := fun sz => QV g (wMd g a_md q_md_tangle (some (a_rd 0)) md ++ (wTn g a_rd rd ++ [])) (wMd g a_md q_md_tangle (some (a_rd 0)) o_md ++ (wTn g a_rd rd ++ [])) sz) (by decide) rfl ?_
  intro p e s m args below meth c ls Q A ha hQ hA X hl hI hin
  have X : Cx p s m args meth c cX13_begins 3 RX13 none := X
  have hl : lv_has ls 3 [(0, .ref (a_md 0)), (1, .int p1), (2, .int p2)] := hl
  obtain ⟨hx, hb, hml, hown, ht, hr, hlk⟩ := id X
  clear ha hin
  have L_27 : ∀ (md : MdS) (H : Heap) (locs : List Loc) (ls : Array Slot), lv_has ls 3 [(0, .ref (a_md 0))] → In g A s.heap s (wMd g a_md q_md_tangle (some (a_rd 0)) md ++ (wTn g a_rd rd ++ [])) H locs → f_X13_begins_L27 md = some (o_md) → W p l e rm_X13_begins s m args below meth c H locs 0 0 Q (F0 m 27 ls []) := by
    intro md H locs ls hl hI hf
    unfold f_X13_begins_L27 at hf
    refine lv_aload_n hx hb dX13_begins_27 rfl (lv_at hl 0 rfl) ?_
    obtain ⟨md_3, hc_, hf⟩ := bd1_some hf
    refine call_Vv X hI (Cj.keep Cj.nil) (c_X13_goesOn l g a_md q_md_tangle (some (a_rd 0)) md md_3 hc_) ⟨rfl, rfl⟩ ⟨ht _ w_1856, w_1859, ht _ w_155, lk_X13_goesOn⟩ w_1858 w_66 rfl rfl rfl hl rfl rfl dX13_begins_28 rfl rfl rfl rfl (fun H locs hI => ?_)
    cases hf
    exact end_v hQ hA X hI dX13_begins_31
  have L_10 : ∀ (md : MdS) (H : Heap) (locs : List Loc) (ls : Array Slot), lv_has ls 3 [(0, .ref (a_md 0))] → In g A s.heap s (wMd g a_md q_md_tangle (some (a_rd 0)) md ++ (wTn g a_rd rd ++ [])) H locs → f_X13_begins_L10 md rd = some (o_md) → W p l e rm_X13_begins s m args below meth c H locs 0 0 Q (F0 m 10 ls []) := by
    intro md H locs ls hl hI hf
    unfold f_X13_begins_L10 at hf
    refine lv_aload_n hx hb dX13_begins_10 rfl (lv_at hl 0 rfl) ?_
    refine g_Md_read_S X hI has_Md.l (X.fl w_1587) dX13_begins_11 ?_
    refine g_Tn_height X hI has_Tn.l.r (hI.fn (List.mem_of_getElem? (i := 79) rfl)) dX13_begins_14 ?_
    refine lv_iconst (v := (-1)) hx hb dX13_begins_17 (by decide) ?_
    refine lv_icmp_ne (tgt := 27) hx hb dX13_begins_18 (by decide) (fun h_ => ?_) (fun h_ => ?_)
    · replace hf := if_f h_ hf
      exact L_27 md _ _ _ hl hI hf
    · replace hf := if_t h_ hf
      refine lv_aload_n hx hb dX13_begins_21 rfl (lv_at hl 0 rfl) ?_
      refine lv_bipush (v := 6) hx hb dX13_begins_22 (by decide) ?_
      obtain ⟨md_2, hc_, hf⟩ := bd1_some hf
      refine call_Vv X hI (Cj.keep Cj.nil) (c_X13_flaw l g a_md q_md_tangle (some (a_rd 0)) md (6 : Int32) md_2 hc_) ⟨rfl, rfl⟩ ⟨ht _ w_1893, w_1896, ht _ w_155, lk_X13_flaw⟩ w_1895 w_72 rfl rfl rfl hl rfl rfl dX13_begins_24 rfl rfl rfl rfl (fun H locs hI => ?_)
      exact L_27 md_2 _ _ _ hl hI hf
  unfold f_X13_begins at hf
  refine lv_iload_n hx hb dX13_begins_0 rfl (lv_at hl 1 rfl) ?_
  refine lv_iload_n hx hb dX13_begins_1 rfl (lv_at hl 2 rfl) ?_
  refine lv_icmp_ne (tgt := 10) hx hb dX13_begins_2 (by decide) (fun h_ => ?_) (fun h_ => ?_)
  · replace hf := if_f h_ hf
    exact L_10 md _ _ _ (lv_sub hl [0] rfl) hI hf
  · replace hf := if_t h_ hf
    refine lv_aload_n hx hb dX13_begins_5 rfl (lv_at hl 0 rfl) ?_
    refine lv_iconst (v := 5) hx hb dX13_begins_6 (by decide) ?_
    obtain ⟨md_1, hc_, hf⟩ := bd1_some hf
    refine call_Vv X hI (Cj.keep Cj.nil) (c_X13_flaw l g a_md q_md_tangle (some (a_rd 0)) md (5 : Int32) md_1 hc_) ⟨rfl, rfl⟩ ⟨ht _ w_1893, w_1896, ht _ w_155, lk_X13_flaw⟩ w_1895 w_72 rfl rfl rfl hl rfl rfl dX13_begins_7 rfl rfl rfl rfl (fun H locs hI => ?_)
    exact L_10 md_1 _ _ _ (lv_sub hl [0] rfl) hI hf
abbrev rm_X13_names : Room := { frames := 0, cells := 0, slots := 0, locals := 0 }
set_option maxRecDepth 20000 in
theorem c_X13_names (l : Launch) (g : GT) (a_md : Nat → Nat) (a_rd : Nat → Nat) (q_md_tangle : Option Nat) (md : MdS) (rd : TnS) (p1 : Int64) (p3 : Int32) (p4 : Int32) (o_rd : TnS) (hf : f_X13_names rd p1 p3 p4 = some (o_rd)) : CV l yX13_names cX13_names 5 none rm_X13_names g [.ref (a_md 0), .long p1, .int p3, .int p4] (wMd g a_md q_md_tangle (some (a_rd 0)) md ++ (wTn g a_rd rd ++ [])) (wMd g a_md q_md_tangle (some (a_rd 0)) md ++ (wTn g a_rd o_rd ++ [])) := by
  refine start2 (y := yX13_names) (cc := cX13_names) (n := 5) (av := [.ref (a_md 0), .long p1, .int p3, .int p4]) (ws := (wMd g a_md q_md_tangle (some (a_rd 0)) md ++ (wTn g a_rd rd ++ []))) (Qc := fun sz => QV g (wMd g a_md q_md_tangle (some (a_rd 0)) md ++ (wTn g a_rd rd ++ [])) (wMd g a_md q_md_tangle (some (a_rd 0)) md ++ (wTn g a_rd o_rd ++ [])) sz) (by decide) rfl ?_
  intro p e s m args below meth c ls Q A ha hQ hA X hl hI hin
  have X : Cx p s m args meth c cX13_names 5 RX13 none := X
  have hl : lv_has ls 5 [(0, .ref (a_md 0)), (1, .long p1), (3, .int p3), (4, .int p4)] := hl
  obtain ⟨hx, hb, hml, hown, ht, hr, hlk⟩ := id X
  clear ha hin
  unfold f_X13_names at hf
  refine lv_aload_n hx hb dX13_names_0 rfl (lv_at hl 0 rfl) ?_
  refine g_Md_read_S X hI has_Md.l (X.fl w_1587) dX13_names_1 ?_
  refine g_Tn_name X hI has_Tn.l.r (hI.fn (List.mem_of_getElem? (i := 98) rfl)) dX13_names_4 ?_
  refine lv_aload_n hx hb dX13_names_7 rfl (lv_at hl 0 rfl) ?_
  refine g_Md_read_S X hI has_Md.l (X.fl w_1587) dX13_names_8 ?_
  refine g_Tn_names X hI has_Tn.l.r (hI.fn (List.mem_of_getElem? (i := 83) rfl)) dX13_names_11 ?_
  refine lv_lload_n hx hb dX13_names_14 rfl (lv_at hl 1 rfl) ?_
  obtain ⟨h_, hf⟩ := ck_someM hf
  refine st_J X hI up_Tn_name.l.r h_ dX13_names_15 (fun H locs hI => ?_)
  generalize hz_ : (Tn_name' rd (vp_updL (Tn_name rd) (Int32.toNatClampNeg (Tn_names rd)) p1)) = rd_1 at hI hf
  clear hz_
  replace hf := lt_e hf
  refine lv_aload_n hx hb dX13_names_16 rfl (lv_at hl 0 rfl) ?_
  refine g_Md_read_S X hI has_Md.l (X.fl w_1587) dX13_names_17 ?_
  refine g_Tn_nameSort X hI has_Tn.l.r (hI.fn (List.mem_of_getElem? (i := 99) rfl)) dX13_names_20 ?_
  refine lv_aload_n hx hb dX13_names_23 rfl (lv_at hl 0 rfl) ?_
  refine g_Md_read_S X hI has_Md.l (X.fl w_1587) dX13_names_24 ?_
  refine g_Tn_names X hI has_Tn.l.r (hI.fn (List.mem_of_getElem? (i := 83) rfl)) dX13_names_27 ?_
  refine lv_iload_n hx hb dX13_names_30 rfl (lv_at hl 2 rfl) ?_
  obtain ⟨h_, hf⟩ := ck_someM hf
  refine st_I X hI up_Tn_nameSort.l.r h_ dX13_names_31 (fun H locs hI => ?_)
  generalize hz_ : (Tn_nameSort' rd_1 (upd (Tn_nameSort rd_1) (Int32.toNatClampNeg (Tn_names rd_1)) p3)) = rd_2 at hI hf
  clear hz_
  replace hf := lt_e hf
  refine lv_aload_n hx hb dX13_names_32 rfl (lv_at hl 0 rfl) ?_
  refine g_Md_read_S X hI has_Md.l (X.fl w_1587) dX13_names_33 ?_
  refine g_Tn_nameNumber X hI has_Tn.l.r (hI.fn (List.mem_of_getElem? (i := 100) rfl)) dX13_names_36 ?_
  refine lv_aload_n hx hb dX13_names_39 rfl (lv_at hl 0 rfl) ?_
  refine g_Md_read_S X hI has_Md.l (X.fl w_1587) dX13_names_40 ?_
  refine g_Tn_names X hI has_Tn.l.r (hI.fn (List.mem_of_getElem? (i := 83) rfl)) dX13_names_43 ?_
  refine lv_iload hx hb dX13_names_46 (lv_at hl 3 rfl) ?_
  obtain ⟨h_, hf⟩ := ck_someM hf
  refine st_I X hI up_Tn_nameNumber.l.r h_ dX13_names_48 (fun H locs hI => ?_)
  generalize hz_ : (Tn_nameNumber' rd_2 (upd (Tn_nameNumber rd_2) (Int32.toNatClampNeg (Tn_names rd_2)) p4)) = rd_3 at hI hf
  clear hz_
  replace hf := lt_e hf
  refine lv_aload_n hx hb dX13_names_49 rfl (lv_at hl 0 rfl) ?_
  refine g_Md_read_S X hI has_Md.l (X.fl w_1587) dX13_names_50 ?_
  refine lv_dup hx hb dX13_names_53 rfl ?_
  refine g_Tn_names X hI has_Tn.l.r (hI.fn (List.mem_of_getElem? (i := 83) rfl)) dX13_names_54 ?_
  refine lv_iconst (v := 1) hx hb dX13_names_57 (by decide) ?_
  refine lv_iadd hx hb dX13_names_58 ?_
  refine p_Tn_names X hI up_Tn_names.l.r (hI.fn (List.mem_of_getElem? (i := 83) rfl)) dX13_names_59 (fun H locs hI => ?_)
  generalize hz_ : (Tn_names' rd_3 ((Tn_names rd_3) + (1 : Int32))) = rd_4 at hI hf
  clear hz_
  replace hf := lt_e hf
  cases hf
  exact end_v hQ hA X hI dX13_names_62
abbrev rm_X13_readPlace : Room := { frames := 2, cells := 0, slots := 0, locals := 44 }
set_option maxRecDepth 20000 in
theorem c_X13_readPlace (l : Launch) (g : GT) (a_md : Nat → Nat) (a_rd : Nat → Nat) (q_md_tangle : Option Nat) (md : MdS) (rd : TnS) (p1 : Int32) (p2 : Int32) (r_ : Int32) (o_md : MdS) (hf : f_X13_readPlace md rd p1 p2 = some (r_, o_md)) : CI l yX13_readPlace cX13_readPlace 4 (some .int) rm_X13_readPlace g [.ref (a_md 0), .int p1, .int p2] (wMd g a_md q_md_tangle (some (a_rd 0)) md ++ (wTn g a_rd rd ++ [])) (wMd g a_md q_md_tangle (some (a_rd 0)) o_md ++ (wTn g a_rd rd ++ [])) r_ := by
  refine start2 (y := yX13_readPlace) (cc := cX13_readPlace) (n := 4) (av := [.ref (a_md 0), .int p1, .int p2]) (ws := (wMd g a_md q_md_tangle (some (a_rd 0)) md ++ (wTn g a_rd rd ++ []))) (Qc := fun sz => QI g (wMd g a_md q_md_tangle (some (a_rd 0)) md ++ (wTn g a_rd rd ++ [])) (wMd g a_md q_md_tangle (some (a_rd 0)) o_md ++ (wTn g a_rd rd ++ [])) r_ sz) (by decide) rfl ?_
  intro p e s m args below meth c ls Q A ha hQ hA X hl hI hin
  have X : Cx p s m args meth c cX13_readPlace 4 RX13 (some .int) := X
  have hl : lv_has ls 4 [(0, .ref (a_md 0)), (1, .int p1), (2, .int p2)] := hl
  obtain ⟨hx, hb, hml, hown, ht, hr, hlk⟩ := id X
  clear ha hin
  have L_43 : ∀ (x3 : Int32) (md : MdS) (H : Heap) (locs : List Loc) (ls : Array Slot), lv_has ls 4 [(0, .ref (a_md 0)), (3, .int x3)] → In g A s.heap s (wMd g a_md q_md_tangle (some (a_rd 0)) md ++ (wTn g a_rd rd ++ [])) H locs → f_X13_readPlace_L43 x3 md = some (r_, o_md) → W p l e rm_X13_readPlace s m args below meth c H locs 0 0 Q (F0 m 43 ls []) := by
    intro x3 md H locs ls hl hI hf
    unfold f_X13_readPlace_L43 at hf
    refine lv_aload_n hx hb dX13_readPlace_43 rfl (lv_at hl 0 rfl) ?_
    obtain ⟨md_3, hc_, hf⟩ := bd1_some hf
    refine call_Vv X hI (Cj.keep Cj.nil) (c_X13_goesOn l g a_md q_md_tangle (some (a_rd 0)) md md_3 hc_) ⟨rfl, rfl⟩ ⟨ht _ w_1856, w_1859, ht _ w_155, lk_X13_goesOn⟩ w_1858 w_66 rfl rfl rfl hl rfl rfl dX13_readPlace_44 rfl rfl rfl rfl (fun H locs hI => ?_)
    refine lv_iload_n hx hb dX13_readPlace_47 rfl (lv_at hl 1 rfl) ?_
    cases hf
    exact end_i hQ hA X hI dX13_readPlace_48
  have L_38 : ∀ (x3 : Int32) (md : MdS) (H : Heap) (locs : List Loc) (ls : Array Slot), lv_has ls 4 [(0, .ref (a_md 0)), (3, .int x3)] → In g A s.heap s (wMd g a_md q_md_tangle (some (a_rd 0)) md ++ (wTn g a_rd rd ++ [])) H locs → f_X13_readPlace_L38 x3 md = some (r_, o_md) → W p l e rm_X13_readPlace s m args below meth c H locs 0 0 Q (F0 m 38 ls []) := by
    intro x3 md H locs ls hl hI hf
    unfold f_X13_readPlace_L38 at hf
    refine lv_aload_n hx hb dX13_readPlace_38 rfl (lv_at hl 0 rfl) ?_
    refine lv_iconst (v := 3) hx hb dX13_readPlace_39 (by decide) ?_
    obtain ⟨md_4, hc_, hf⟩ := bd1_some hf
    refine call_Vv X hI (Cj.keep Cj.nil) (c_X13_flaw l g a_md q_md_tangle (some (a_rd 0)) md (3 : Int32) md_4 hc_) ⟨rfl, rfl⟩ ⟨ht _ w_1893, w_1896, ht _ w_155, lk_X13_flaw⟩ w_1895 w_72 rfl rfl rfl hl rfl rfl dX13_readPlace_40 rfl rfl rfl rfl (fun H locs hI => ?_)
    exact L_43 x3 md_4 _ _ _ hl hI hf
  unfold f_X13_readPlace at hf
  refine lv_aload_n hx hb dX13_readPlace_0 rfl (lv_at hl 0 rfl) ?_
  refine lv_iconst (v := 1) hx hb dX13_readPlace_1 (by decide) ?_
  refine lv_bipush (v := 9) hx hb dX13_readPlace_2 (by decide) ?_
  obtain ⟨r_1, md_2, hc_, hf⟩ := bd2_some hf
  refine call_Vi X hI (Cj.keep Cj.nil) (c_X13_bounded l g a_md q_md_tangle (some (a_rd 0)) md (1 : Int32) (9 : Int32) r_1 md_2 hc_) ⟨rfl, rfl⟩ ⟨ht _ w_1906, w_1909, ht _ w_155, lk_X13_bounded⟩ w_1908 w_75 rfl rfl rfl hl rfl rfl dX13_readPlace_4 rfl rfl rfl rfl (fun H locs hI => ?_)
  refine lv_istore_n (lv' := [(3, .int r_1), (0, .ref (a_md 0)), (1, .int p1), (2, .int p2)]) hx hb dX13_readPlace_7 rfl hl (by decide) rfl (fun ls hl => ?_)
  refine lv_aload_n hx hb dX13_readPlace_8 rfl (lv_at hl 1 rfl) ?_
  refine g_Md_sort X hI has_Md.l (X.fl w_1592) dX13_readPlace_9 ?_
  refine lv_iconst (v := 5) hx hb dX13_readPlace_12 (by decide) ?_
  refine lv_icmp_eq (tgt := 43) hx hb dX13_readPlace_13 (by decide) (fun h_ => ?_) (fun h_ => ?_)
  · replace hf := if_t h_ hf
    exact L_43 r_1 md_2 _ _ _ (lv_sub hl [1, 0] rfl) hI hf
  · replace hf := if_f h_ hf
    refine lv_iload_n hx hb dX13_readPlace_16 rfl (lv_at hl 0 rfl) ?_
    refine lv_iload_n hx hb dX13_readPlace_17 rfl (lv_at hl 3 rfl) ?_
    refine lv_icmp_eq (tgt := 38) hx hb dX13_readPlace_18 (by decide) (fun h_ => ?_) (fun h_ => ?_)
    · replace hf := if_t h_ hf
      exact L_38 r_1 md_2 _ _ _ (lv_sub hl [1, 0] rfl) hI hf
    · replace hf := if_f h_ hf
      refine lv_aload_n hx hb dX13_readPlace_21 rfl (lv_at hl 1 rfl) ?_
      refine g_Md_read_S X hI has_Md.l (X.fl w_1587) dX13_readPlace_22 ?_
      refine g_Tn_usedAt X hI has_Tn.l.r (hI.fn (List.mem_of_getElem? (i := 101) rfl)) dX13_readPlace_25 ?_
      refine lv_iload_n hx hb dX13_readPlace_28 rfl (lv_at hl 2 rfl) ?_
      obtain ⟨h_, hf⟩ := ck_someM hf
      refine ld_I X hI has_Tn_usedAt.l.r h_ dX13_readPlace_29 ?_
      refine lv_iload_n hx hb dX13_readPlace_30 rfl (lv_at hl 0 rfl) ?_
      refine lv_ishr hx hb dX13_readPlace_31 ?_
      refine lv_iconst (v := 1) hx hb dX13_readPlace_32 (by decide) ?_
      refine lv_iand hx hb dX13_readPlace_33 ?_
      refine lv_iconst (v := 1) hx hb dX13_readPlace_34 (by decide) ?_
      refine lv_icmp_ne (tgt := 43) hx hb dX13_readPlace_35 (by decide) (fun h_ => ?_) (fun h_ => ?_)
      · replace hf := if_f h_ hf
        exact L_43 r_1 md_2 _ _ _ (lv_sub hl [1, 0] rfl) hI hf
      · replace hf := if_t h_ hf
        exact L_38 r_1 md_2 _ _ _ (lv_sub hl [1, 0] rfl) hI hf
abbrev rm_X13_isHeld : Room := { frames := 0, cells := 0, slots := 0, locals := 0 }
set_option maxRecDepth 20000 in
theorem c_X13_isHeld (l : Launch) (g : GT) (a_md : Nat → Nat) (a_rd : Nat → Nat) (q_md_tangle : Option Nat) (md : MdS) (rd : TnS) (p1 : Int32) (p2 : Int32) (r_ : Int32) (hf : f_X13_isHeld rd p1 p2 = some (r_)) : CI l yX13_isHeld cX13_isHeld 4 (some .boolean) rm_X13_isHeld g [.ref (a_md 0), .int p1, .int p2] (wMd g a_md q_md_tangle (some (a_rd 0)) md ++ (wTn g a_rd rd ++ [])) (wMd g a_md q_md_tangle (some (a_rd 0)) md ++ (wTn g a_rd rd ++ [])) r_ := by
  refine start2 (y := yX13_isHeld) (cc := cX13_isHeld) (n := 4) (av := [.ref (a_md 0), .int p1, .int p2]) (ws := (wMd g a_md q_md_tangle (some (a_rd 0)) md ++ (wTn g a_rd rd ++ []))) (Qc := fun sz => QI g (wMd g a_md q_md_tangle (some (a_rd 0)) md ++ (wTn g a_rd rd ++ [])) (wMd g a_md q_md_tangle (some (a_rd 0)) md ++ (wTn g a_rd rd ++ [])) r_ sz) (by decide) rfl ?_
  intro p e s m args below meth c ls Q A ha hQ hA X hl hI hin
  have X : Cx p s m args meth c cX13_isHeld 4 RX13 (some .boolean) := X
  have hl : lv_has ls 4 [(0, .ref (a_md 0)), (1, .int p1), (2, .int p2)] := hl
  obtain ⟨hx, hb, hml, hown, ht, hr, hlk⟩ := id X
  clear ha hin
  have L_67 : ∀ (x1 : Int32) (x2 : Int32) (x3 : Int32) (k2 : (Int32) → (Int32) → (Int32) → (TnS) → Option (Int32)) (H : Heap) (locs : List Loc) (ls : Array Slot), lv_has ls 4 [(0, .ref (a_md 0)), (1, .int x1), (2, .int x2), (3, .int x3)] → In g A s.heap s (wMd g a_md q_md_tangle (some (a_rd 0)) md ++ (wTn g a_rd rd ++ [])) H locs → f_X13_isHeld_L67 x1 x2 x3 rd k2 = some (r_) → (∀ (x1 : Int32) (x2 : Int32) (x3 : Int32) (H : Heap) (locs : List Loc) (ls : Array Slot), lv_has ls 4 [(0, .ref (a_md 0)), (1, .int x1), (2, .int x2), (3, .int x3)] → In g A s.heap s (wMd g a_md q_md_tangle (some (a_rd 0)) md ++ (wTn g a_rd rd ++ [])) H locs → k2 x1 x2 x3 rd = some (r_) → W p l e rm_X13_isHeld s m args below meth c H locs 0 0 Q (F0 m 2 ls [])) → W p l e rm_X13_isHeld s m args below meth c H locs 0 0 Q (F0 m 67 ls []) := by
    intro x1 x2 x3 k2 H locs ls hl hI hf hk2
    unfold f_X13_isHeld_L67 at hf
    obtain ⟨v_1, e_⟩ : ∃ y : Int32, y = (x3 + (1 : Int32)) := ⟨_, rfl⟩
    replace hf := lt_to e_ hf
    refine lv_iinc (v := v_1) (lv' := [(3, .int v_1), (0, .ref (a_md 0)), (1, .int x1), (2, .int x2)]) hx hb dX13_isHeld_67 hl (k := 3) rfl (by rw [e_]; rfl) (by decide) rfl (fun ls hl => ?_)
    clear e_
    refine lv_goto (tgt := 2) hx hb dX13_isHeld_70 (by decide) ?_
    exact hk2 x1 x2 v_1 _ _ _ (lv_sub hl [1, 2, 3, 0] rfl) hI hf
  have L_39 : ∀ (x1 : Int32) (x2 : Int32) (x3 : Int32) (k2 : (Int32) → (Int32) → (Int32) → (TnS) → Option (Int32)) (H : Heap) (locs : List Loc) (ls : Array Slot), lv_has ls 4 [(0, .ref (a_md 0)), (1, .int x1), (2, .int x2), (3, .int x3)] → In g A s.heap s (wMd g a_md q_md_tangle (some (a_rd 0)) md ++ (wTn g a_rd rd ++ [])) H locs → f_X13_isHeld_L39 x1 x2 x3 rd k2 = some (r_) → (∀ (x1 : Int32) (x2 : Int32) (x3 : Int32) (H : Heap) (locs : List Loc) (ls : Array Slot), lv_has ls 4 [(0, .ref (a_md 0)), (1, .int x1), (2, .int x2), (3, .int x3)] → In g A s.heap s (wMd g a_md q_md_tangle (some (a_rd 0)) md ++ (wTn g a_rd rd ++ [])) H locs → k2 x1 x2 x3 rd = some (r_) → W p l e rm_X13_isHeld s m args below meth c H locs 0 0 Q (F0 m 2 ls [])) → W p l e rm_X13_isHeld s m args below meth c H locs 0 0 Q (F0 m 39 ls []) := by
    intro x1 x2 x3 k2 H locs ls hl hI hf hk2
    unfold f_X13_isHeld_L39 at hf
    refine lv_aload_n hx hb dX13_isHeld_39 rfl (lv_at hl 0 rfl) ?_
    refine g_Md_read_S X hI has_Md.l (X.fl w_1587) dX13_isHeld_40 ?_
    refine g_Tn_one X hI has_Tn.l.r (hI.fn (List.mem_of_getElem? (i := 88) rfl)) dX13_isHeld_43 ?_
    refine lv_iload_n hx hb dX13_isHeld_46 rfl (lv_at hl 3 rfl) ?_
    obtain ⟨h_, hf⟩ := ck_someM hf
    refine ld_I X hI has_Tn_one.l.r h_ dX13_isHeld_47 ?_
    refine lv_iload_n hx hb dX13_isHeld_48 rfl (lv_at hl 2 rfl) ?_
    refine lv_icmp_ne (tgt := 67) hx hb dX13_isHeld_49 (by decide) (fun h_ => ?_) (fun h_ => ?_)
    · replace hf := if_f h_ hf
      exact L_67 x1 x2 x3 _ _ _ _ hl hI hf hk2
    · replace hf := if_t h_ hf
      refine lv_aload_n hx hb dX13_isHeld_52 rfl (lv_at hl 0 rfl) ?_
      refine g_Md_read_S X hI has_Md.l (X.fl w_1587) dX13_isHeld_53 ?_
      refine g_Tn_two X hI has_Tn.l.r (hI.fn (List.mem_of_getElem? (i := 90) rfl)) dX13_isHeld_56 ?_
      refine lv_iload_n hx hb dX13_isHeld_59 rfl (lv_at hl 3 rfl) ?_
      obtain ⟨h_, hf⟩ := ck_someM hf
      refine ld_I X hI has_Tn_two.l.r h_ dX13_isHeld_60 ?_
      refine lv_iload_n hx hb dX13_isHeld_61 rfl (lv_at hl 1 rfl) ?_
      refine lv_icmp_ne (tgt := 67) hx hb dX13_isHeld_62 (by decide) (fun h_ => ?_) (fun h_ => ?_)
      · replace hf := if_f h_ hf
        exact L_67 x1 x2 x3 _ _ _ _ hl hI hf hk2
      · replace hf := if_t h_ hf
        refine lv_iconst (v := 1) hx hb dX13_isHeld_65 (by decide) ?_
        cases hf
        exact end_z hQ hA X hI rfl dX13_isHeld_66
  have L_2 : ∀ (n_ : Nat) (x1 : Int32) (x2 : Int32) (x3 : Int32) (H : Heap) (locs : List Loc) (ls : Array Slot), lv_has ls 4 [(0, .ref (a_md 0)), (1, .int x1), (2, .int x2), (3, .int x3)] → In g A s.heap s (wMd g a_md q_md_tangle (some (a_rd 0)) md ++ (wTn g a_rd rd ++ [])) H locs → f_X13_isHeld_L2 n_ x1 x2 x3 rd = some (r_) → W p l e rm_X13_isHeld s m args below meth c H locs 0 0 Q (F0 m 2 ls []) := by
    intro n_
    induction n_ with
    | zero =>
      intro x1 x2 x3 H locs ls hl hI hf
      rw [f_X13_isHeld_L2] at hf
      cases hf
    | succ n_ ih =>
      intro x1 x2 x3 H locs ls hl hI hf
      rw [f_X13_isHeld_L2] at hf
      refine lv_iload_n hx hb dX13_isHeld_2 rfl (lv_at hl 3 rfl) ?_
      refine lv_aload_n hx hb dX13_isHeld_3 rfl (lv_at hl 0 rfl) ?_
      refine g_Md_read_S X hI has_Md.l (X.fl w_1587) dX13_isHeld_4 ?_
      refine g_Tn_links X hI has_Tn.l.r (hI.fn (List.mem_of_getElem? (i := 81) rfl)) dX13_isHeld_7 ?_
      refine lv_icmp_ge (tgt := 73) hx hb dX13_isHeld_10 (by decide) (fun h_ => ?_) (fun h_ => ?_)
      · replace hf := if_t h_ hf
        refine lv_iconst (v := 0) hx hb dX13_isHeld_73 (by decide) ?_
        cases hf
        exact end_z hQ hA X hI rfl dX13_isHeld_74
      · replace hf := if_f h_ hf
        refine lv_aload_n hx hb dX13_isHeld_13 rfl (lv_at hl 0 rfl) ?_
        refine g_Md_read_S X hI has_Md.l (X.fl w_1587) dX13_isHeld_14 ?_
        refine g_Tn_one X hI has_Tn.l.r (hI.fn (List.mem_of_getElem? (i := 88) rfl)) dX13_isHeld_17 ?_
        refine lv_iload_n hx hb dX13_isHeld_20 rfl (lv_at hl 3 rfl) ?_
        obtain ⟨h_, hf⟩ := ck_someM hf
        refine ld_I X hI has_Tn_one.l.r h_ dX13_isHeld_21 ?_
        refine lv_iload_n hx hb dX13_isHeld_22 rfl (lv_at hl 1 rfl) ?_
        refine lv_icmp_ne (tgt := 39) hx hb dX13_isHeld_23 (by decide) (fun h_ => ?_) (fun h_ => ?_)
        · replace hf := if_f h_ hf
          exact L_39 x1 x2 x3 _ _ _ _ hl hI hf (fun z_0 z_1 z_2 _ _ _ hl hI hf => ih z_0 z_1 z_2 _ _ _ hl hI hf)
        · replace hf := if_t h_ hf
          refine lv_aload_n hx hb dX13_isHeld_26 rfl (lv_at hl 0 rfl) ?_
          refine g_Md_read_S X hI has_Md.l (X.fl w_1587) dX13_isHeld_27 ?_
          refine g_Tn_two X hI has_Tn.l.r (hI.fn (List.mem_of_getElem? (i := 90) rfl)) dX13_isHeld_30 ?_
          refine lv_iload_n hx hb dX13_isHeld_33 rfl (lv_at hl 3 rfl) ?_
          obtain ⟨h_, hf⟩ := ck_someM hf
          refine ld_I X hI has_Tn_two.l.r h_ dX13_isHeld_34 ?_
          refine lv_iload_n hx hb dX13_isHeld_35 rfl (lv_at hl 2 rfl) ?_
          refine lv_icmp_eq (tgt := 65) hx hb dX13_isHeld_36 (by decide) (fun h_ => ?_) (fun h_ => ?_)
          · replace hf := if_t h_ hf
            refine lv_iconst (v := 1) hx hb dX13_isHeld_65 (by decide) ?_
            cases hf
            exact end_z hQ hA X hI rfl dX13_isHeld_66
          · replace hf := if_f h_ hf
            exact L_39 x1 x2 x3 _ _ _ _ hl hI hf (fun z_0 z_1 z_2 _ _ _ hl hI hf => ih z_0 z_1 z_2 _ _ _ hl hI hf)
  unfold f_X13_isHeld at hf
  refine lv_iconst (v := 0) hx hb dX13_isHeld_0 (by decide) ?_
  refine lv_istore_n (lv' := [(3, .int (0 : Int32)), (0, .ref (a_md 0)), (1, .int p1), (2, .int p2)]) hx hb dX13_isHeld_1 rfl hl (by decide) rfl (fun ls hl => ?_)
  exact L_2 FU p1 p2 (0 : Int32) _ _ _ (lv_sub hl [1, 2, 3, 0] rfl) hI hf
abbrev rm_X13_feed : Room := { frames := 0, cells := 0, slots := 0, locals := 0 }
set_option maxRecDepth 20000 in
theorem c_X13_feed (l : Launch) (g : GT) (a_md : Nat → Nat) (q_md_tangle : Option Nat) (q_md_read : Option Nat) (md : MdS) (p1 : Int32) (p2 : Int32) (p3 : Int32) (p4 : Int32) (p5 : Int32) (r_ : Int32) (o_md : MdS) (hf : f_X13_feed md p1 p2 p3 p4 p5 = some (r_, o_md)) : CI l yX13_feed cX13_feed 8 (some .int) rm_X13_feed g [.ref (a_md 0), .int p1, .int p2, .int p3, .int p4, .int p5] (wMd g a_md q_md_tangle q_md_read md ++ []) (wMd g a_md q_md_tangle q_md_read o_md ++ []) r_ := by
  refine start2 (y := yX13_feed) (cc := cX13_feed) (n := 8) (av := [.ref (a_md 0), .int p1, .int p2, .int p3, .int p4, .int p5]) (ws := (wMd g a_md q_md_tangle q_md_read md ++ [])) (Qc := fun sz => QI g (wMd g a_md q_md_tangle q_md_read md ++ []) (wMd g a_md q_md_tangle q_md_read o_md ++ []) r_ sz) (by decide) rfl ?_
  intro p e s m args below meth c ls Q A ha hQ hA X hl hI hin
  have X : Cx p s m args meth c cX13_feed 8 RX13 (some .int) := X
  have hl : lv_has ls 8 [(0, .ref (a_md 0)), (1, .int p1), (2, .int p2), (3, .int p3), (4, .int p4), (5, .int p5)] := hl
  obtain ⟨hx, hb, hml, hown, ht, hr, hlk⟩ := id X
  clear ha hin
  have L_76 : ∀ (x1 : Int32) (x2 : Int32) (x3 : Int32) (x4 : Int32) (x5 : Int32) (x6 : Int32) (t0i : Int32) (md : MdS) (k23 : (Int32) → (Int32) → (Int32) → (Int32) → (Int32) → (Int32) → (MdS) → Option (Int32 × (MdS))) (H : Heap) (locs : List Loc) (ls : Array Slot), lv_has ls 8 [(0, .ref (a_md 0)), (1, .int x1), (2, .int x2), (3, .int x3), (4, .int x4), (5, .int x5), (6, .int x6)] → In g A s.heap s (wMd g a_md q_md_tangle q_md_read md ++ []) H locs → f_X13_feed_L76 x1 x2 x3 x4 x5 x6 t0i md k23 = some (r_, o_md) → (∀ (x1 : Int32) (x2 : Int32) (x3 : Int32) (x4 : Int32) (x5 : Int32) (x6 : Int32) (md : MdS) (H : Heap) (locs : List Loc) (ls : Array Slot), lv_has ls 8 [(0, .ref (a_md 0)), (1, .int x1), (2, .int x2), (3, .int x3), (4, .int x4), (5, .int x5), (6, .int x6)] → In g A s.heap s (wMd g a_md q_md_tangle q_md_read md ++ []) H locs → k23 x1 x2 x3 x4 x5 x6 md = some (r_, o_md) → W p l e rm_X13_feed s m args below meth c H locs 0 0 Q (F0 m 23 ls [])) → W p l e rm_X13_feed s m args below meth c H locs 0 0 Q (F0 m 76 ls [.int t0i]) := by
    intro x1 x2 x3 x4 x5 x6 t0i md k23 H locs ls hl hI hf hk23
    unfold f_X13_feed_L76 at hf
    refine lv_istore (lv' := [(7, .int t0i), (0, .ref (a_md 0)), (1, .int x1), (2, .int x2), (3, .int x3), (4, .int x4), (5, .int x5), (6, .int x6)]) hx hb dX13_feed_76 hl (by decide) rfl (fun ls hl => ?_)
    refine lv_aload_n hx hb dX13_feed_78 rfl (lv_at hl 1 rfl) ?_
    refine g_Md_tape X hI has_Md.l (X.fl w_1588) dX13_feed_79 ?_
    refine lv_aload_n hx hb dX13_feed_82 rfl (lv_at hl 1 rfl) ?_
    refine g_Md_taped X hI has_Md.l (X.fl w_1589) dX13_feed_83 ?_
    refine lv_iload hx hb dX13_feed_86 (lv_at hl 0 rfl) ?_
    refine lv_bipush (v := 24) hx hb dX13_feed_88 (by decide) ?_
    refine lv_bipush (v := 8) hx hb dX13_feed_90 (by decide) ?_
    refine lv_iload hx hb dX13_feed_92 (lv_at hl 7 rfl) ?_
    refine lv_iconst (v := 4) hx hb dX13_feed_94 (by decide) ?_
    refine lv_irem hx hb dX13_feed_95 (by decide) ?_
    refine lv_imul hx hb dX13_feed_96 ?_
    refine lv_isub hx hb dX13_feed_97 ?_
    refine lv_ishr hx hb dX13_feed_98 ?_
    refine lv_i2b hx hb dX13_feed_99 rfl ?_
    obtain ⟨h_, hf⟩ := ck_someM hf
    refine st_B X hI up_Md_tape.l h_ dX13_feed_100 (fun H locs hI => ?_)
    generalize hz_ : (Md_tape' md (upd (Md_tape md) (Int32.toNatClampNeg (Md_taped md)) (vp_nar .byte ((Int32.toInt8 (t0i >>> (((24 : Int32) - ((8 : Int32) * (x6 - x6 / (4 : Int32) * (4 : Int32)))) &&& 31))).toInt32)))) = md_2 at hI hf
    clear hz_
    replace hf := lt_e hf
    refine lv_aload_n hx hb dX13_feed_101 rfl (lv_at hl 1 rfl) ?_
    refine lv_dup hx hb dX13_feed_102 rfl ?_
    refine g_Md_taped X hI has_Md.l (X.fl w_1589) dX13_feed_103 ?_
    refine lv_iconst (v := 1) hx hb dX13_feed_106 (by decide) ?_
    refine lv_iadd hx hb dX13_feed_107 ?_
    refine p_Md_taped X hI up_Md_taped.l (X.fl w_1589) dX13_feed_108 (fun H locs hI => ?_)
    generalize hz_ : (Md_taped' md_2 ((Md_taped md_2) + (1 : Int32))) = md_3 at hI hf
    clear hz_
    replace hf := lt_e hf
    obtain ⟨v_4, e_⟩ : ∃ y : Int32, y = (x6 + (1 : Int32)) := ⟨_, rfl⟩
    replace hf := lt_to e_ hf
    refine lv_iinc (v := v_4) (lv' := [(6, .int v_4), (7, .int t0i), (0, .ref (a_md 0)), (1, .int x1), (2, .int x2), (3, .int x3), (4, .int x4), (5, .int x5)]) hx hb dX13_feed_111 hl (k := 7) rfl (by rw [e_]; rfl) (by decide) rfl (fun ls hl => ?_)
    clear e_
    refine lv_goto (tgt := 23) hx hb dX13_feed_114 (by decide) ?_
    exact hk23 x1 x2 x3 x4 x5 v_4 md_3 _ _ _ (lv_sub hl [2, 3, 4, 5, 6, 7, 0] rfl) hI hf
  have L_23 : ∀ (n_ : Nat) (x1 : Int32) (x2 : Int32) (x3 : Int32) (x4 : Int32) (x5 : Int32) (x6 : Int32) (md : MdS) (H : Heap) (locs : List Loc) (ls : Array Slot), lv_has ls 8 [(0, .ref (a_md 0)), (1, .int x1), (2, .int x2), (3, .int x3), (4, .int x4), (5, .int x5), (6, .int x6)] → In g A s.heap s (wMd g a_md q_md_tangle q_md_read md ++ []) H locs → f_X13_feed_L23 n_ x1 x2 x3 x4 x5 x6 md = some (r_, o_md) → W p l e rm_X13_feed s m args below meth c H locs 0 0 Q (F0 m 23 ls []) := by
    intro n_
    induction n_ with
    | zero =>
      intro x1 x2 x3 x4 x5 x6 md H locs ls hl hI hf
      rw [f_X13_feed_L23] at hf
      cases hf
    | succ n_ ih =>
      intro x1 x2 x3 x4 x5 x6 md H locs ls hl hI hf
      rw [f_X13_feed_L23] at hf
      refine lv_iload hx hb dX13_feed_23 (lv_at hl 6 rfl) ?_
      refine lv_bipush (v := 20) hx hb dX13_feed_25 (by decide) ?_
      refine lv_icmp_ge (tgt := 117) hx hb dX13_feed_27 (by decide) (fun h_ => ?_) (fun h_ => ?_)
      · replace hf := if_t h_ hf
        refine lv_aload_n hx hb dX13_feed_117 rfl (lv_at hl 0 rfl) ?_
        refine g_Md_taped X hI has_Md.l (X.fl w_1589) dX13_feed_118 ?_
        cases hf
        exact end_i hQ hA X hI dX13_feed_121
      · replace hf := if_f h_ hf
        refine lv_iload hx hb dX13_feed_30 (lv_at hl 6 rfl) ?_
        refine lv_iconst (v := 4) hx hb dX13_feed_32 (by decide) ?_
        refine lv_icmp_ge (tgt := 40) hx hb dX13_feed_33 (by decide) (fun h_ => ?_) (fun h_ => ?_)
        · replace hf := if_t h_ hf
          refine lv_iload hx hb dX13_feed_40 (lv_at hl 6 rfl) ?_
          refine lv_bipush (v := 8) hx hb dX13_feed_42 (by decide) ?_
          refine lv_icmp_ge (tgt := 51) hx hb dX13_feed_44 (by decide) (fun h_ => ?_) (fun h_ => ?_)
          · replace hf := if_t h_ hf
            refine lv_iload hx hb dX13_feed_51 (lv_at hl 6 rfl) ?_
            refine lv_bipush (v := 12) hx hb dX13_feed_53 (by decide) ?_
            refine lv_icmp_ge (tgt := 62) hx hb dX13_feed_55 (by decide) (fun h_ => ?_) (fun h_ => ?_)
            · replace hf := if_t h_ hf
              refine lv_iload hx hb dX13_feed_62 (lv_at hl 6 rfl) ?_
              refine lv_bipush (v := 16) hx hb dX13_feed_64 (by decide) ?_
              refine lv_icmp_ge (tgt := 74) hx hb dX13_feed_66 (by decide) (fun h_ => ?_) (fun h_ => ?_)
              · replace hf := if_t h_ hf
                refine lv_iload hx hb dX13_feed_74 (lv_at hl 5 rfl) ?_
                exact L_76 x1 x2 x3 x4 x5 x6 x5 md _ _ _ _ hl hI hf (fun z_0 z_1 z_2 z_3 z_4 z_5 z_6 _ _ _ hl hI hf => ih z_0 z_1 z_2 z_3 z_4 z_5 z_6 _ _ _ hl hI hf)
              · replace hf := if_f h_ hf
                refine lv_iload hx hb dX13_feed_69 (lv_at hl 4 rfl) ?_
                refine lv_goto (tgt := 76) hx hb dX13_feed_71 (by decide) ?_
                exact L_76 x1 x2 x3 x4 x5 x6 x4 md _ _ _ _ hl hI hf (fun z_0 z_1 z_2 z_3 z_4 z_5 z_6 _ _ _ hl hI hf => ih z_0 z_1 z_2 z_3 z_4 z_5 z_6 _ _ _ hl hI hf)
            · replace hf := if_f h_ hf
              refine lv_iload_n hx hb dX13_feed_58 rfl (lv_at hl 3 rfl) ?_
              refine lv_goto (tgt := 76) hx hb dX13_feed_59 (by decide) ?_
              exact L_76 x1 x2 x3 x4 x5 x6 x3 md _ _ _ _ hl hI hf (fun z_0 z_1 z_2 z_3 z_4 z_5 z_6 _ _ _ hl hI hf => ih z_0 z_1 z_2 z_3 z_4 z_5 z_6 _ _ _ hl hI hf)
          · replace hf := if_f h_ hf
            refine lv_iload_n hx hb dX13_feed_47 rfl (lv_at hl 2 rfl) ?_
            refine lv_goto (tgt := 76) hx hb dX13_feed_48 (by decide) ?_
            exact L_76 x1 x2 x3 x4 x5 x6 x2 md _ _ _ _ hl hI hf (fun z_0 z_1 z_2 z_3 z_4 z_5 z_6 _ _ _ hl hI hf => ih z_0 z_1 z_2 z_3 z_4 z_5 z_6 _ _ _ hl hI hf)
        · replace hf := if_f h_ hf
          refine lv_iload_n hx hb dX13_feed_36 rfl (lv_at hl 1 rfl) ?_
          refine lv_goto (tgt := 76) hx hb dX13_feed_37 (by decide) ?_
          exact L_76 x1 x2 x3 x4 x5 x6 x1 md _ _ _ _ hl hI hf (fun z_0 z_1 z_2 z_3 z_4 z_5 z_6 _ _ _ hl hI hf => ih z_0 z_1 z_2 z_3 z_4 z_5 z_6 _ _ _ hl hI hf)
  unfold f_X13_feed at hf
  refine lv_aload_n hx hb dX13_feed_0 rfl (lv_at hl 0 rfl) ?_
  refine lv_iconst (v := 0) hx hb dX13_feed_1 (by decide) ?_
  refine p_Md_thrown X hI up_Md_thrown.l (X.fl w_1583) dX13_feed_2 (fun H locs hI => ?_)
  generalize hz_ : (Md_thrown' md (0 : Int32)) = md_1 at hI hf
  clear hz_
  replace hf := lt_e hf
  refine lv_aload_n hx hb dX13_feed_5 rfl (lv_at hl 0 rfl) ?_
  refine g_Md_taped X hI has_Md.l (X.fl w_1589) dX13_feed_6 ?_
  refine lv_bipush (v := 20) hx hb dX13_feed_9 (by decide) ?_
  refine lv_iadd hx hb dX13_feed_11 ?_
  refine lv_sipush (v := 900) hx hb dX13_feed_12 (by decide) ?_
  refine lv_icmp_le (tgt := 20) hx hb dX13_feed_15 (by decide) (fun h_ => ?_) (fun h_ => ?_)
  · replace hf := if_t h_ hf
    refine lv_iconst (v := 0) hx hb dX13_feed_20 (by decide) ?_
    refine lv_istore (lv' := [(6, .int (0 : Int32)), (0, .ref (a_md 0)), (1, .int p1), (2, .int p2), (3, .int p3), (4, .int p4), (5, .int p5)]) hx hb dX13_feed_21 hl (by decide) rfl (fun ls hl => ?_)
    exact L_23 FU p1 p2 p3 p4 p5 (0 : Int32) md_1 _ _ _ (lv_sub hl [1, 2, 3, 4, 5, 6, 0] rfl) hI hf
  · replace hf := if_f h_ hf
    refine lv_iconst (v := (-1)) hx hb dX13_feed_18 (by decide) ?_
    cases hf
    exact end_i hQ hA X hI dX13_feed_19
abbrev rm_X13_fault : Room := { frames := 0, cells := 0, slots := 0, locals := 0 }
set_option maxRecDepth 20000 in
theorem c_X13_fault (l : Launch) (g : GT) (a_md : Nat → Nat) (q_md_tangle : Option Nat) (q_md_read : Option Nat) (md : MdS) (r_ : Int32) (o_md : MdS) (hf : f_X13_fault md = some (r_, o_md)) : CI l yX13_fault cX13_fault 1 (some .int) rm_X13_fault g [.ref (a_md 0)] (wMd g a_md q_md_tangle q_md_read md ++ []) (wMd g a_md q_md_tangle q_md_read o_md ++ []) r_ := by
  refine start2 (y := yX13_fault) (cc := cX13_fault) (n := 1) (av := [.ref (a_md 0)]) (ws := (wMd g a_md q_md_tangle q_md_read md ++ [])) (Qc := fun sz => QI g (wMd g a_md q_md_tangle q_md_read md ++ []) (wMd g a_md q_md_tangle q_md_read o_md ++ []) r_ sz) (by decide) rfl ?_
  intro p e s m args below meth c ls Q A ha hQ hA X hl hI hin
  have X : Cx p s m args meth c cX13_fault 1 RX13 (some .int) := X
  have hl : lv_has ls 1 [(0, .ref (a_md 0))] := hl
  obtain ⟨hx, hb, hml, hown, ht, hr, hlk⟩ := id X
  clear ha hin
  unfold f_X13_fault at hf
  refine lv_aload_n hx hb dX13_fault_0 rfl (lv_at hl 0 rfl) ?_
  refine lv_iconst (v := 0) hx hb dX13_fault_1 (by decide) ?_
  refine p_Md_thrown X hI up_Md_thrown.l (X.fl w_1583) dX13_fault_2 (fun H locs hI => ?_)
  generalize hz_ : (Md_thrown' md (0 : Int32)) = md_1 at hI hf
  clear hz_
  replace hf := lt_e hf
  refine lv_aload_n hx hb dX13_fault_5 rfl (lv_at hl 0 rfl) ?_
  refine g_Md_fault X hI has_Md.l (X.fl w_1595) dX13_fault_6 ?_
  cases hf
  exact end_i hQ hA X hI dX13_fault_9
abbrev rm_X13_where : Room := { frames := 0, cells := 0, slots := 0, locals := 0 }
set_option maxRecDepth 20000 in
theorem c_X13_where (l : Launch) (g : GT) (a_md : Nat → Nat) (q_md_tangle : Option Nat) (q_md_read : Option Nat) (md : MdS) (r_ : Int32) (o_md : MdS) (hf : f_X13_where md = some (r_, o_md)) : CI l yX13_where cX13_where 1 (some .int) rm_X13_where g [.ref (a_md 0)] (wMd g a_md q_md_tangle q_md_read md ++ []) (wMd g a_md q_md_tangle q_md_read o_md ++ []) r_ := by
  refine start2 (y := yX13_where) (cc := cX13_where) (n := 1) (av := [.ref (a_md 0)]) (ws := (wMd g a_md q_md_tangle q_md_read md ++ [])) (Qc := fun sz => QI g (wMd g a_md q_md_tangle q_md_read md ++ []) (wMd g a_md q_md_tangle q_md_read o_md ++ []) r_ sz) (by decide) rfl ?_
  intro p e s m args below meth c ls Q A ha hQ hA X hl hI hin
  have X : Cx p s m args meth c cX13_where 1 RX13 (some .int) := X
  have hl : lv_has ls 1 [(0, .ref (a_md 0))] := hl
  obtain ⟨hx, hb, hml, hown, ht, hr, hlk⟩ := id X
  clear ha hin
  unfold f_X13_where at hf
  refine lv_aload_n hx hb dX13_where_0 rfl (lv_at hl 0 rfl) ?_
  refine lv_iconst (v := 0) hx hb dX13_where_1 (by decide) ?_
  refine p_Md_thrown X hI up_Md_thrown.l (X.fl w_1583) dX13_where_2 (fun H locs hI => ?_)
  generalize hz_ : (Md_thrown' md (0 : Int32)) = md_1 at hI hf
  clear hz_
  replace hf := lt_e hf
  refine lv_aload_n hx hb dX13_where_5 rfl (lv_at hl 0 rfl) ?_
  refine g_Md_where X hI has_Md.l (X.fl w_1585) dX13_where_6 ?_
  cases hf
  exact end_i hQ hA X hI dX13_where_9
abbrev rm_X13_signNow : Room := { frames := 1, cells := 0, slots := 0, locals := 22 }
set_option maxRecDepth 20000 in
theorem c_X13_signNow (l : Launch) (g : GT) (a_md : Nat → Nat) (a_tn : Nat → Nat) (q_md_read : Option Nat) (md : MdS) (tn : TnS) (p1 : Int32) (r_ : Int32) (hf : f_X13_signNow md tn p1 = some (r_)) : CI l yX13_signNow cX13_signNow 2 (some .int) rm_X13_signNow g [.ref (a_md 0), .int p1] (wMd g a_md (some (a_tn 0)) q_md_read md ++ (wTn g a_tn tn ++ [])) (wMd g a_md (some (a_tn 0)) q_md_read md ++ (wTn g a_tn tn ++ [])) r_ := by
  refine start2 (y := yX13_signNow) (cc := cX13_signNow) (n := 2) (av := [.ref (a_md 0), .int p1]) (ws := (wMd g a_md (some (a_tn 0)) q_md_read md ++ (wTn g a_tn tn ++ []))) (Qc := fun sz => QI g (wMd g a_md (some (a_tn 0)) q_md_read md ++ (wTn g a_tn tn ++ [])) (wMd g a_md (some (a_tn 0)) q_md_read md ++ (wTn g a_tn tn ++ [])) r_ sz) (by decide) rfl ?_
  intro p e s m args below meth c ls Q A ha hQ hA X hl hI hin
  have X : Cx p s m args meth c cX13_signNow 2 RX13 (some .int) := X
  have hl : lv_has ls 2 [(0, .ref (a_md 0)), (1, .int p1)] := hl
  obtain ⟨hx, hb, hml, hown, ht, hr, hlk⟩ := id X
  clear ha hin
  unfold f_X13_signNow at hf
  refine lv_aload_n hx hb dX13_signNow_0 rfl (lv_at hl 0 rfl) ?_
  refine g_Md_tangle_S X hI has_Md.l (X.fl w_1586) dX13_signNow_1 ?_
  refine lv_iload_n hx hb dX13_signNow_4 rfl (lv_at hl 1 rfl) ?_
  refine lv_aload_n hx hb dX13_signNow_5 rfl (lv_at hl 0 rfl) ?_
  refine g_Md_lifted X hI has_Md.l (X.fl w_1600) dX13_signNow_6 ?_
  obtain ⟨r_1, hc_, hf⟩ := bd1_some hf
  refine call_Vi X hI (Cj.skip (Cj.keep Cj.id)) (c_X12_signOf l g a_tn tn p1 (Md_lifted md) r_1 hc_) ⟨rfl, rfl⟩ ⟨ht _ w_2087, w_2090, ht _ w_159, lk_X12_signOf⟩ w_2088 w_2089 rfl rfl rfl hl rfl rfl dX13_signNow_9 rfl rfl rfl rfl (fun H locs hI => ?_)
  cases hf
  exact end_i hQ hA X hI dX13_signNow_12
abbrev rm_X13_at : Room := { frames := 0, cells := 0, slots := 0, locals := 0 }
set_option maxRecDepth 20000 in
theorem c_X13_at (l : Launch) (g : GT) (p0 : Int64) (p2 : Int32) (r_ : Int32) (hf : f_X13_at p0 p2 = some (r_)) : CI l yX13_at cX13_at 3 (some .int) rm_X13_at g [.long p0, .int p2] ([]) ([]) r_ := by
  refine start2 (y := yX13_at) (cc := cX13_at) (n := 3) (av := [.long p0, .int p2]) (ws := ([])) (Qc := fun sz => QI g ([]) ([]) r_ sz) (by decide) rfl ?_
  intro p e s m args below meth c ls Q A ha hQ hA X hl hI hin
  have X : Cx p s m args meth c cX13_at 3 RX13 (some .int) := X
  have hl : lv_has ls 3 [(0, .long p0), (2, .int p2)] := hl
  obtain ⟨hx, hb, hml, hown, ht, hr, hlk⟩ := id X
  clear ha hin
  unfold f_X13_at at hf
  refine lv_lload_n hx hb dX13_at_0 rfl (lv_at hl 0 rfl) ?_
  refine lv_iconst (v := 4) hx hb dX13_at_1 (by decide) ?_
  refine lv_iload_n hx hb dX13_at_2 rfl (lv_at hl 1 rfl) ?_
  refine lv_imul hx hb dX13_at_3 ?_
  refine lv_lshr hx hb dX13_at_4 rfl ?_
  refine lv_ldc2 (v := 15) hx hb hown (ht _ w_2054) dX13_at_5 ?_
  refine lv_land hx hb dX13_at_8 ?_
  refine lv_l2i hx hb dX13_at_9 rfl ?_
  cases hf
  exact end_i hQ hA X hI dX13_at_10
abbrev rm_X13_with : Room := { frames := 0, cells := 0, slots := 0, locals := 0 }
set_option maxRecDepth 20000 in
theorem c_X13_with (l : Launch) (g : GT) (p0 : Int64) (p2 : Int32) (p3 : Int32) (r_ : Int64) (hf : f_X13_with p0 p2 p3 = some (r_)) : CL l yX13_with cX13_with 4 (some .long) rm_X13_with g [.long p0, .int p2, .int p3] ([]) ([]) r_ := by
  refine start2 (y := yX13_with) (cc := cX13_with) (n := 4) (av := [.long p0, .int p2, .int p3]) (ws := ([])) (Qc := fun sz => QL g ([]) ([]) r_ sz) (by decide) rfl ?_
  intro p e s m args below meth c ls Q A ha hQ hA X hl hI hin
  have X : Cx p s m args meth c cX13_with 4 RX13 (some .long) := X
  have hl : lv_has ls 4 [(0, .long p0), (2, .int p2), (3, .int p3)] := hl
  obtain ⟨hx, hb, hml, hown, ht, hr, hlk⟩ := id X
  clear ha hin
  unfold f_X13_with at hf
  refine lv_lload_n hx hb dX13_with_0 rfl (lv_at hl 0 rfl) ?_
  refine lv_ldc2 (v := 15) hx hb hown (ht _ w_2054) dX13_with_1 ?_
  refine lv_iconst (v := 4) hx hb dX13_with_4 (by decide) ?_
  refine lv_iload_n hx hb dX13_with_5 rfl (lv_at hl 1 rfl) ?_
  refine lv_imul hx hb dX13_with_6 ?_
  refine lv_lshl hx hb dX13_with_7 rfl ?_
  refine lv_ldc2 (v := (-1)) hx hb hown (ht _ w_2179) dX13_with_8 ?_
  refine lv_lxor hx hb dX13_with_11 ?_
  refine lv_land hx hb dX13_with_12 ?_
  refine lv_iload_n hx hb dX13_with_13 rfl (lv_at hl 2 rfl) ?_
  refine lv_i2l hx hb dX13_with_14 rfl ?_
  refine lv_iconst (v := 4) hx hb dX13_with_15 (by decide) ?_
  refine lv_iload_n hx hb dX13_with_16 rfl (lv_at hl 1 rfl) ?_
  refine lv_imul hx hb dX13_with_17 ?_
  refine lv_lshl hx hb dX13_with_18 rfl ?_
  refine lv_lor hx hb dX13_with_19 ?_
  cases hf
  exact end_l hQ hA X hI dX13_with_20
abbrev rm_X13_isOpen : Room := { frames := 0, cells := 0, slots := 0, locals := 0 }
set_option maxRecDepth 20000 in
theorem c_X13_isOpen (l : Launch) (g : GT) (a_md : Nat → Nat) (a_tn : Nat → Nat) (q_md_read : Option Nat) (md : MdS) (tn : TnS) (p1 : Int32) (p2 : Int32) (p3 : Int32) (r_ : Int32) (hf : f_X13_isOpen md tn p1 p2 p3 = some (r_)) : CI l yX13_isOpen cX13_isOpen 4 (some .boolean) rm_X13_isOpen g [.ref (a_md 0), .int p1, .int p2, .int p3] (wMd g a_md (some (a_tn 0)) q_md_read md ++ (wTn g a_tn tn ++ [])) (wMd g a_md (some (a_tn 0)) q_md_read md ++ (wTn g a_tn tn ++ [])) r_ := by
  refine start2 (y := yX13_isOpen) (cc := cX13_isOpen) (n := 4) (av := [.ref (a_md 0), .int p1, .int p2, .int p3]) (ws := (wMd g a_md (some (a_tn 0)) q_md_read md ++ (wTn g a_tn tn ++ []))) (Qc := fun sz => QI g (wMd g a_md (some (a_tn 0)) q_md_read md ++ (wTn g a_tn tn ++ [])) (wMd g a_md (some (a_tn 0)) q_md_read md ++ (wTn g a_tn tn ++ [])) r_ sz) (by decide) rfl ?_
  intro p e s m args below meth c ls Q A ha hQ hA X hl hI hin
  have X : Cx p s m args meth c cX13_isOpen 4 RX13 (some .boolean) := X
  have hl : lv_has ls 4 [(0, .ref (a_md 0)), (1, .int p1), (2, .int p2), (3, .int p3)] := hl
  obtain ⟨hx, hb, hml, hown, ht, hr, hlk⟩ := id X
  clear ha hin
  unfold f_X13_isOpen at hf
  refine lv_aload_n hx hb dX13_isOpen_0 rfl (lv_at hl 0 rfl) ?_
  refine g_Md_parted X hI has_Md.l (X.fl w_1599) dX13_isOpen_1 ?_
  refine lv_bipush (v := (-2)) hx hb dX13_isOpen_4 (by decide) ?_
  refine lv_icmp_eq (tgt := 61) hx hb dX13_isOpen_6 (by decide) (fun h_ => ?_) (fun h_ => ?_)
  · replace hf := if_t h_ hf
    refine lv_iconst (v := 0) hx hb dX13_isOpen_61 (by decide) ?_
    cases hf
    exact end_z hQ hA X hI rfl dX13_isOpen_62
  · replace hf := if_f h_ hf
    refine lv_aload_n hx hb dX13_isOpen_9 rfl (lv_at hl 0 rfl) ?_
    refine g_Md_tangle_S X hI has_Md.l (X.fl w_1586) dX13_isOpen_10 ?_
    refine g_Tn_linkRing X hI has_Tn.l.r (hI.fn (List.mem_of_getElem? (i := 103) rfl)) dX13_isOpen_13 ?_
    refine lv_aload_n hx hb dX13_isOpen_16 rfl (lv_at hl 0 rfl) ?_
    refine g_Md_parted X hI has_Md.l (X.fl w_1599) dX13_isOpen_17 ?_
    obtain ⟨h_, hf⟩ := ck_someM hf
    refine ld_I X hI has_Tn_linkRing.l.r h_ dX13_isOpen_20 ?_
    refine lv_iload_n hx hb dX13_isOpen_21 rfl (lv_at hl 3 rfl) ?_
    refine lv_icmp_ne (tgt := 61) hx hb dX13_isOpen_22 (by decide) (fun h_ => ?_) (fun h_ => ?_)
    · replace hf := if_f h_ hf
      refine lv_iconst (v := 0) hx hb dX13_isOpen_61 (by decide) ?_
      cases hf
      exact end_z hQ hA X hI rfl dX13_isOpen_62
    · replace hf := if_t h_ hf
      refine lv_aload_n hx hb dX13_isOpen_25 rfl (lv_at hl 0 rfl) ?_
      refine g_Md_tangle_S X hI has_Md.l (X.fl w_1586) dX13_isOpen_26 ?_
      refine g_Tn_linkRow X hI has_Tn.l.r (hI.fn (List.mem_of_getElem? (i := 104) rfl)) dX13_isOpen_29 ?_
      refine lv_aload_n hx hb dX13_isOpen_32 rfl (lv_at hl 0 rfl) ?_
      refine g_Md_parted X hI has_Md.l (X.fl w_1599) dX13_isOpen_33 ?_
      obtain ⟨h_, hf⟩ := ck_someM hf
      refine ld_I X hI has_Tn_linkRow.l.r h_ dX13_isOpen_36 ?_
      refine lv_iload_n hx hb dX13_isOpen_37 rfl (lv_at hl 1 rfl) ?_
      refine lv_icmp_le (tgt := 61) hx hb dX13_isOpen_38 (by decide) (fun h_ => ?_) (fun h_ => ?_)
      · replace hf := if_t h_ hf
        refine lv_iconst (v := 0) hx hb dX13_isOpen_61 (by decide) ?_
        cases hf
        exact end_z hQ hA X hI rfl dX13_isOpen_62
      · replace hf := if_f h_ hf
        refine lv_aload_n hx hb dX13_isOpen_41 rfl (lv_at hl 0 rfl) ?_
        refine g_Md_tangle_S X hI has_Md.l (X.fl w_1586) dX13_isOpen_42 ?_
        refine g_Tn_linkRow X hI has_Tn.l.r (hI.fn (List.mem_of_getElem? (i := 104) rfl)) dX13_isOpen_45 ?_
        refine lv_aload_n hx hb dX13_isOpen_48 rfl (lv_at hl 0 rfl) ?_
        refine g_Md_parted X hI has_Md.l (X.fl w_1599) dX13_isOpen_49 ?_
        obtain ⟨h_, hf⟩ := ck_someM hf
        refine ld_I X hI has_Tn_linkRow.l.r h_ dX13_isOpen_52 ?_
        refine lv_iload_n hx hb dX13_isOpen_53 rfl (lv_at hl 2 rfl) ?_
        refine lv_icmp_ge (tgt := 61) hx hb dX13_isOpen_54 (by decide) (fun h_ => ?_) (fun h_ => ?_)
        · replace hf := if_t h_ hf
          refine lv_iconst (v := 0) hx hb dX13_isOpen_61 (by decide) ?_
          cases hf
          exact end_z hQ hA X hI rfl dX13_isOpen_62
        · replace hf := if_f h_ hf
          refine lv_iconst (v := 1) hx hb dX13_isOpen_57 (by decide) ?_
          refine lv_goto (tgt := 62) hx hb dX13_isOpen_58 (by decide) ?_
          cases hf
          exact end_z hQ hA X hI rfl dX13_isOpen_62
abbrev rm_X13_nextFrom : Room := { frames := 1, cells := 0, slots := 0, locals := 23 }
set_option maxRecDepth 20000 in
theorem c_X13_nextFrom (l : Launch) (g : GT) (a_md : Nat → Nat) (a_tn : Nat → Nat) (q_md_read : Option Nat) (md : MdS) (tn : TnS) (p1 : Int64) (p3 : Int32) (r_ : Int32) (hf : f_X13_nextFrom md tn p1 p3 = some (r_)) : CI l yX13_nextFrom cX13_nextFrom 6 (some .int) rm_X13_nextFrom g [.ref (a_md 0), .long p1, .int p3] (wMd g a_md (some (a_tn 0)) q_md_read md ++ (wTn g a_tn tn ++ [])) (wMd g a_md (some (a_tn 0)) q_md_read md ++ (wTn g a_tn tn ++ [])) r_ := by
  refine start2 (y := yX13_nextFrom) (cc := cX13_nextFrom) (n := 6) (av := [.ref (a_md 0), .long p1, .int p3]) (ws := (wMd g a_md (some (a_tn 0)) q_md_read md ++ (wTn g a_tn tn ++ []))) (Qc := fun sz => QI g (wMd g a_md (some (a_tn 0)) q_md_read md ++ (wTn g a_tn tn ++ [])) (wMd g a_md (some (a_tn 0)) q_md_read md ++ (wTn g a_tn tn ++ [])) r_ sz) (by decide) rfl ?_
  intro p e s m args below meth c ls Q A ha hQ hA X hl hI hin
  have X : Cx p s m args meth c cX13_nextFrom 6 RX13 (some .int) := X
  have hl : lv_has ls 6 [(0, .ref (a_md 0)), (1, .long p1), (3, .int p3)] := hl
  obtain ⟨hx, hb, hml, hown, ht, hr, hlk⟩ := id X
  clear ha hin
  have L_209 : ∀ (x1 : Int64) (x3 : Int32) (x4 : Int32) (x5 : Int32) (k114 : (Int64) → (Int32) → (Int32) → (Int32) → (MdS) → (TnS) → Option (Int32)) (H : Heap) (locs : List Loc) (ls : Array Slot), lv_has ls 6 [(0, .ref (a_md 0)), (1, .long x1), (3, .int x3), (4, .int x4), (5, .int x5)] → In g A s.heap s (wMd g a_md (some (a_tn 0)) q_md_read md ++ (wTn g a_tn tn ++ [])) H locs → f_X13_nextFrom_L209 x1 x3 x4 x5 md tn k114 = some (r_) → (∀ (x1 : Int64) (x3 : Int32) (x4 : Int32) (x5 : Int32) (H : Heap) (locs : List Loc) (ls : Array Slot), lv_has ls 6 [(0, .ref (a_md 0)), (1, .long x1), (3, .int x3), (4, .int x4), (5, .int x5)] → In g A s.heap s (wMd g a_md (some (a_tn 0)) q_md_read md ++ (wTn g a_tn tn ++ [])) H locs → k114 x1 x3 x4 x5 md tn = some (r_) → W p l e rm_X13_nextFrom s m args below meth c H locs 0 0 Q (F0 m 114 ls [])) → W p l e rm_X13_nextFrom s m args below meth c H locs 0 0 Q (F0 m 209 ls []) := by
    intro x1 x3 x4 x5 k114 H locs ls hl hI hf hk114
    unfold f_X13_nextFrom_L209 at hf
    obtain ⟨v_9, e_⟩ : ∃ y : Int32, y = (x5 + (1 : Int32)) := ⟨_, rfl⟩
    replace hf := lt_to e_ hf
    refine lv_iinc (v := v_9) (lv' := [(5, .int v_9), (0, .ref (a_md 0)), (1, .long x1), (3, .int x3), (4, .int x4)]) hx hb dX13_nextFrom_209 hl (k := 4) rfl (by rw [e_]; rfl) (by decide) rfl (fun ls hl => ?_)
    clear e_
    refine lv_goto (tgt := 114) hx hb dX13_nextFrom_212 (by decide) ?_
    exact hk114 x1 x3 x4 v_9 _ _ _ (lv_sub hl [1, 2, 3, 4, 0] rfl) hI hf
  have L_114 : ∀ (n_ : Nat) (x1 : Int64) (x3 : Int32) (x4 : Int32) (x5 : Int32) (H : Heap) (locs : List Loc) (ls : Array Slot), lv_has ls 6 [(0, .ref (a_md 0)), (1, .long x1), (3, .int x3), (4, .int x4), (5, .int x5)] → In g A s.heap s (wMd g a_md (some (a_tn 0)) q_md_read md ++ (wTn g a_tn tn ++ [])) H locs → f_X13_nextFrom_L114 n_ x1 x3 x4 x5 md tn = some (r_) → W p l e rm_X13_nextFrom s m args below meth c H locs 0 0 Q (F0 m 114 ls []) := by
    intro n_
    induction n_ with
    | zero =>
      intro x1 x3 x4 x5 H locs ls hl hI hf
      rw [f_X13_nextFrom_L114] at hf
      cases hf
    | succ n_ ih =>
      intro x1 x3 x4 x5 H locs ls hl hI hf
      rw [f_X13_nextFrom_L114] at hf
      refine lv_iload hx hb dX13_nextFrom_114 (lv_at hl 4 rfl) ?_
      refine lv_iload_n hx hb dX13_nextFrom_116 rfl (lv_at hl 2 rfl) ?_
      refine lv_icmp_gt (tgt := 215) hx hb dX13_nextFrom_117 (by decide) (fun h_ => ?_) (fun h_ => ?_)
      · replace hf := if_t h_ hf
        refine lv_iconst (v := (-1)) hx hb dX13_nextFrom_215 (by decide) ?_
        cases hf
        exact end_i hQ hA X hI dX13_nextFrom_216
      · replace hf := if_f h_ hf
        refine lv_aload_n hx hb dX13_nextFrom_120 rfl (lv_at hl 0 rfl) ?_
        refine g_Md_tangle_S X hI has_Md.l (X.fl w_1586) dX13_nextFrom_121 ?_
        refine g_Tn_standRing X hI has_Tn.l.r (hI.fn (List.mem_of_getElem? (i := 108) rfl)) dX13_nextFrom_124 ?_
        refine lv_iload hx hb dX13_nextFrom_127 (lv_at hl 4 rfl) ?_
        obtain ⟨h_, hf⟩ := ck_someM hf
        refine ld_I X hI has_Tn_standRing.l.r h_ dX13_nextFrom_129 ?_
        refine lv_iload hx hb dX13_nextFrom_130 (lv_at hl 3 rfl) ?_
        refine lv_icmp_ne (tgt := 209) hx hb dX13_nextFrom_132 (by decide) (fun h_ => ?_) (fun h_ => ?_)
        · replace hf := if_f h_ hf
          exact L_209 x1 x3 x4 x5 _ _ _ _ hl hI hf (fun z_0 z_1 z_2 z_3 _ _ _ hl hI hf => ih z_0 z_1 z_2 z_3 _ _ _ hl hI hf)
        · replace hf := if_t h_ hf
          refine lv_lload_n hx hb dX13_nextFrom_135 rfl (lv_at hl 1 rfl) ?_
          refine lv_iload hx hb dX13_nextFrom_136 (lv_at hl 4 rfl) ?_
          obtain ⟨r_6, hc_, hf⟩ := bd1_some hf
          refine call_Si X hI Cj.nil (c_X13_at l g x1 x5 r_6 hc_) ⟨rfl, rfl⟩ ⟨ht _ w_2051, w_2053, ht _ w_155, lk_X13_at⟩ w_2052 rfl hl rfl rfl dX13_nextFrom_138 rfl rfl rfl rfl (fun H locs hI => ?_)
          refine lv_bipush (v := 15) hx hb dX13_nextFrom_141 (by decide) ?_
          refine lv_icmp_eq (tgt := 209) hx hb dX13_nextFrom_143 (by decide) (fun h_ => ?_) (fun h_ => ?_)
          · replace hf := if_t h_ hf
            exact L_209 x1 x3 x4 x5 _ _ _ _ hl hI hf (fun z_0 z_1 z_2 z_3 _ _ _ hl hI hf => ih z_0 z_1 z_2 z_3 _ _ _ hl hI hf)
          · replace hf := if_f h_ hf
            refine lv_aload_n hx hb dX13_nextFrom_146 rfl (lv_at hl 0 rfl) ?_
            refine lv_aload_n hx hb dX13_nextFrom_147 rfl (lv_at hl 0 rfl) ?_
            refine g_Md_tangle_S X hI has_Md.l (X.fl w_1586) dX13_nextFrom_148 ?_
            refine g_Tn_linkRow X hI has_Tn.l.r (hI.fn (List.mem_of_getElem? (i := 104) rfl)) dX13_nextFrom_151 ?_
            refine lv_aload_n hx hb dX13_nextFrom_154 rfl (lv_at hl 0 rfl) ?_
            refine g_Md_tangle_S X hI has_Md.l (X.fl w_1586) dX13_nextFrom_155 ?_
            refine g_Tn_standLink X hI has_Tn.l.r (hI.fn (List.mem_of_getElem? (i := 109) rfl)) dX13_nextFrom_158 ?_
            refine lv_iload_n hx hb dX13_nextFrom_161 rfl (lv_at hl 2 rfl) ?_
            obtain ⟨h_, hf⟩ := ck_someM hf
            refine ld_I X hI has_Tn_standLink.l.r h_ dX13_nextFrom_162 ?_
            obtain ⟨h_, hf⟩ := ck_someM hf
            refine ld_I X hI has_Tn_linkRow.l.r h_ dX13_nextFrom_163 ?_
            refine lv_bipush (v := 8) hx hb dX13_nextFrom_164 (by decide) ?_
            refine lv_iload hx hb dX13_nextFrom_166 (lv_at hl 3 rfl) ?_
            obtain ⟨r_7, hc_, hf⟩ := bd1_some hf
            refine call_Vi X hI (Cj.keep (Cj.keep Cj.id)) (c_X13_isOpen l g a_md a_tn q_md_read md tn (Tn_linkRow tn (Int32.toNatClampNeg (Tn_standLink tn (Int32.toNatClampNeg x3)))) (8 : Int32) x4 r_7 hc_) ⟨rfl, rfl⟩ ⟨ht _ w_2079, w_2082, ht _ w_155, lk_X13_isOpen⟩ w_2081 w_101 rfl rfl rfl hl rfl rfl dX13_nextFrom_168 rfl rfl rfl rfl (fun H locs hI => ?_)
            refine lv_if_ne (tgt := 202) hx hb dX13_nextFrom_171 (by decide) (fun h_ => ?_) (fun h_ => ?_)
            · replace hf := if_f h_ hf
              refine lv_iconst (v := (-1)) hx hb dX13_nextFrom_202 (by decide) ?_
              refine lv_goto (tgt := 208) hx hb dX13_nextFrom_203 (by decide) ?_
              cases hf
              exact end_i hQ hA X hI dX13_nextFrom_208
            · replace hf := if_t h_ hf
              refine lv_aload_n hx hb dX13_nextFrom_174 rfl (lv_at hl 0 rfl) ?_
              refine lv_iconst (v := (-1)) hx hb dX13_nextFrom_175 (by decide) ?_
              refine lv_aload_n hx hb dX13_nextFrom_176 rfl (lv_at hl 0 rfl) ?_
              refine g_Md_tangle_S X hI has_Md.l (X.fl w_1586) dX13_nextFrom_177 ?_
              refine g_Tn_linkRow X hI has_Tn.l.r (hI.fn (List.mem_of_getElem? (i := 104) rfl)) dX13_nextFrom_180 ?_
              refine lv_aload_n hx hb dX13_nextFrom_183 rfl (lv_at hl 0 rfl) ?_
              refine g_Md_tangle_S X hI has_Md.l (X.fl w_1586) dX13_nextFrom_184 ?_
              refine g_Tn_standLink X hI has_Tn.l.r (hI.fn (List.mem_of_getElem? (i := 109) rfl)) dX13_nextFrom_187 ?_
              refine lv_iload hx hb dX13_nextFrom_190 (lv_at hl 4 rfl) ?_
              obtain ⟨h_, hf⟩ := ck_someM hf
              refine ld_I X hI has_Tn_standLink.l.r h_ dX13_nextFrom_192 ?_
              obtain ⟨h_, hf⟩ := ck_someM hf
              refine ld_I X hI has_Tn_linkRow.l.r h_ dX13_nextFrom_193 ?_
              refine lv_iload hx hb dX13_nextFrom_194 (lv_at hl 3 rfl) ?_
              obtain ⟨r_8, hc_, hf⟩ := bd1_some hf
              refine call_Vi X hI (Cj.keep (Cj.keep Cj.id)) (c_X13_isOpen l g a_md a_tn q_md_read md tn (-1 : Int32) (Tn_linkRow tn (Int32.toNatClampNeg (Tn_standLink tn (Int32.toNatClampNeg x5)))) x4 r_8 hc_) ⟨rfl, rfl⟩ ⟨ht _ w_2079, w_2082, ht _ w_155, lk_X13_isOpen⟩ w_2081 w_101 rfl rfl rfl hl rfl rfl dX13_nextFrom_196 rfl rfl rfl rfl (fun H locs hI => ?_)
              refine lv_if_eq (tgt := 206) hx hb dX13_nextFrom_199 (by decide) (fun h_ => ?_) (fun h_ => ?_)
              · replace hf := if_t h_ hf
                refine lv_iload hx hb dX13_nextFrom_206 (lv_at hl 4 rfl) ?_
                cases hf
                exact end_i hQ hA X hI dX13_nextFrom_208
              · replace hf := if_f h_ hf
                refine lv_iconst (v := (-1)) hx hb dX13_nextFrom_202 (by decide) ?_
                refine lv_goto (tgt := 208) hx hb dX13_nextFrom_203 (by decide) ?_
                cases hf
                exact end_i hQ hA X hI dX13_nextFrom_208
  have L_111 : ∀ (x1 : Int64) (x3 : Int32) (x4 : Int32) (H : Heap) (locs : List Loc) (ls : Array Slot), lv_has ls 6 [(0, .ref (a_md 0)), (1, .long x1), (3, .int x3), (4, .int x4)] → In g A s.heap s (wMd g a_md (some (a_tn 0)) q_md_read md ++ (wTn g a_tn tn ++ [])) H locs → f_X13_nextFrom_L111 x1 x3 x4 md tn = some (r_) → W p l e rm_X13_nextFrom s m args below meth c H locs 0 0 Q (F0 m 111 ls []) := by
    intro x1 x3 x4 H locs ls hl hI hf
    unfold f_X13_nextFrom_L111 at hf
    refine lv_iconst (v := 0) hx hb dX13_nextFrom_111 (by decide) ?_
    refine lv_istore (lv' := [(5, .int (0 : Int32)), (0, .ref (a_md 0)), (1, .long x1), (3, .int x3), (4, .int x4)]) hx hb dX13_nextFrom_112 hl (by decide) rfl (fun ls hl => ?_)
    exact L_114 FU x1 x3 x4 (0 : Int32) _ _ _ (lv_sub hl [1, 2, 3, 4, 0] rfl) hI hf
  have L_16 : ∀ (n_ : Nat) (x1 : Int64) (x3 : Int32) (x4 : Int32) (x5 : Int32) (H : Heap) (locs : List Loc) (ls : Array Slot), lv_has ls 6 [(0, .ref (a_md 0)), (1, .long x1), (3, .int x3), (4, .int x4), (5, .int x5)] → In g A s.heap s (wMd g a_md (some (a_tn 0)) q_md_read md ++ (wTn g a_tn tn ++ [])) H locs → f_X13_nextFrom_L16 n_ x1 x3 x4 x5 md tn = some (r_) → W p l e rm_X13_nextFrom s m args below meth c H locs 0 0 Q (F0 m 16 ls []) := by
    intro n_
    induction n_ with
    | zero =>
      intro x1 x3 x4 x5 H locs ls hl hI hf
      rw [f_X13_nextFrom_L16] at hf
      cases hf
    | succ n_ ih =>
      intro x1 x3 x4 x5 H locs ls hl hI hf
      rw [f_X13_nextFrom_L16] at hf
      refine lv_iload hx hb dX13_nextFrom_16 (lv_at hl 4 rfl) ?_
      refine lv_aload_n hx hb dX13_nextFrom_18 rfl (lv_at hl 0 rfl) ?_
      refine g_Md_tangle_S X hI has_Md.l (X.fl w_1586) dX13_nextFrom_19 ?_
      refine g_Tn_standings X hI has_Tn.l.r (hI.fn (List.mem_of_getElem? (i := 85) rfl)) dX13_nextFrom_22 ?_
      refine lv_icmp_ge (tgt := 111) hx hb dX13_nextFrom_25 (by decide) (fun h_ => ?_) (fun h_ => ?_)
      · replace hf := if_t h_ hf
        exact L_111 x1 x3 x4 _ _ _ (lv_sub hl [0, 1, 2, 3] rfl) hI hf
      · replace hf := if_f h_ hf
        refine lv_aload_n hx hb dX13_nextFrom_28 rfl (lv_at hl 0 rfl) ?_
        refine g_Md_tangle_S X hI has_Md.l (X.fl w_1586) dX13_nextFrom_29 ?_
        refine g_Tn_standRing X hI has_Tn.l.r (hI.fn (List.mem_of_getElem? (i := 108) rfl)) dX13_nextFrom_32 ?_
        refine lv_iload hx hb dX13_nextFrom_35 (lv_at hl 4 rfl) ?_
        obtain ⟨h_, hf⟩ := ck_someM hf
        refine ld_I X hI has_Tn_standRing.l.r h_ dX13_nextFrom_37 ?_
        refine lv_iload hx hb dX13_nextFrom_38 (lv_at hl 3 rfl) ?_
        refine lv_icmp_ne (tgt := 111) hx hb dX13_nextFrom_40 (by decide) (fun h_ => ?_) (fun h_ => ?_)
        · replace hf := if_f h_ hf
          exact L_111 x1 x3 x4 _ _ _ (lv_sub hl [0, 1, 2, 3] rfl) hI hf
        · replace hf := if_t h_ hf
          refine lv_lload_n hx hb dX13_nextFrom_43 rfl (lv_at hl 1 rfl) ?_
          refine lv_iload hx hb dX13_nextFrom_44 (lv_at hl 4 rfl) ?_
          obtain ⟨r_3, hc_, hf⟩ := bd1_some hf
          refine call_Si X hI Cj.nil (c_X13_at l g x1 x5 r_3 hc_) ⟨rfl, rfl⟩ ⟨ht _ w_2051, w_2053, ht _ w_155, lk_X13_at⟩ w_2052 rfl hl rfl rfl dX13_nextFrom_46 rfl rfl rfl rfl (fun H locs hI => ?_)
          refine lv_bipush (v := 15) hx hb dX13_nextFrom_49 (by decide) ?_
          refine lv_icmp_eq (tgt := 105) hx hb dX13_nextFrom_51 (by decide) (fun h_ => ?_) (fun h_ => ?_)
          · replace hf := if_t h_ hf
            obtain ⟨v_4, e_⟩ : ∃ y : Int32, y = (x5 + (1 : Int32)) := ⟨_, rfl⟩
            replace hf := lt_to e_ hf
            refine lv_iinc (v := v_4) (lv' := [(5, .int v_4), (0, .ref (a_md 0)), (1, .long x1), (3, .int x3), (4, .int x4)]) hx hb dX13_nextFrom_105 hl (k := 4) rfl (by rw [e_]; rfl) (by decide) rfl (fun ls hl => ?_)
            clear e_
            refine lv_goto (tgt := 16) hx hb dX13_nextFrom_108 (by decide) ?_
            exact ih x1 x3 x4 v_4 _ _ _ (lv_sub hl [1, 2, 3, 4, 0] rfl) hI hf
          · replace hf := if_f h_ hf
            refine lv_aload_n hx hb dX13_nextFrom_54 rfl (lv_at hl 0 rfl) ?_
            refine lv_aload_n hx hb dX13_nextFrom_55 rfl (lv_at hl 0 rfl) ?_
            refine g_Md_tangle_S X hI has_Md.l (X.fl w_1586) dX13_nextFrom_56 ?_
            refine g_Tn_linkRow X hI has_Tn.l.r (hI.fn (List.mem_of_getElem? (i := 104) rfl)) dX13_nextFrom_59 ?_
            refine lv_aload_n hx hb dX13_nextFrom_62 rfl (lv_at hl 0 rfl) ?_
            refine g_Md_tangle_S X hI has_Md.l (X.fl w_1586) dX13_nextFrom_63 ?_
            refine g_Tn_standLink X hI has_Tn.l.r (hI.fn (List.mem_of_getElem? (i := 109) rfl)) dX13_nextFrom_66 ?_
            refine lv_iload_n hx hb dX13_nextFrom_69 rfl (lv_at hl 2 rfl) ?_
            obtain ⟨h_, hf⟩ := ck_someM hf
            refine ld_I X hI has_Tn_standLink.l.r h_ dX13_nextFrom_70 ?_
            obtain ⟨h_, hf⟩ := ck_someM hf
            refine ld_I X hI has_Tn_linkRow.l.r h_ dX13_nextFrom_71 ?_
            refine lv_aload_n hx hb dX13_nextFrom_72 rfl (lv_at hl 0 rfl) ?_
            refine g_Md_tangle_S X hI has_Md.l (X.fl w_1586) dX13_nextFrom_73 ?_
            refine g_Tn_linkRow X hI has_Tn.l.r (hI.fn (List.mem_of_getElem? (i := 104) rfl)) dX13_nextFrom_76 ?_
            refine lv_aload_n hx hb dX13_nextFrom_79 rfl (lv_at hl 0 rfl) ?_
            refine g_Md_tangle_S X hI has_Md.l (X.fl w_1586) dX13_nextFrom_80 ?_
            refine g_Tn_standLink X hI has_Tn.l.r (hI.fn (List.mem_of_getElem? (i := 109) rfl)) dX13_nextFrom_83 ?_
            refine lv_iload hx hb dX13_nextFrom_86 (lv_at hl 4 rfl) ?_
            obtain ⟨h_, hf⟩ := ck_someM hf
            refine ld_I X hI has_Tn_standLink.l.r h_ dX13_nextFrom_88 ?_
            obtain ⟨h_, hf⟩ := ck_someM hf
            refine ld_I X hI has_Tn_linkRow.l.r h_ dX13_nextFrom_89 ?_
            refine lv_iload hx hb dX13_nextFrom_90 (lv_at hl 3 rfl) ?_
            obtain ⟨r_5, hc_, hf⟩ := bd1_some hf
            refine call_Vi X hI (Cj.keep (Cj.keep Cj.id)) (c_X13_isOpen l g a_md a_tn q_md_read md tn (Tn_linkRow tn (Int32.toNatClampNeg (Tn_standLink tn (Int32.toNatClampNeg x3)))) (Tn_linkRow tn (Int32.toNatClampNeg (Tn_standLink tn (Int32.toNatClampNeg x5)))) x4 r_5 hc_) ⟨rfl, rfl⟩ ⟨ht _ w_2079, w_2082, ht _ w_155, lk_X13_isOpen⟩ w_2081 w_101 rfl rfl rfl hl rfl rfl dX13_nextFrom_92 rfl rfl rfl rfl (fun H locs hI => ?_)
            refine lv_if_eq (tgt := 102) hx hb dX13_nextFrom_95 (by decide) (fun h_ => ?_) (fun h_ => ?_)
            · replace hf := if_t h_ hf
              refine lv_iload hx hb dX13_nextFrom_102 (lv_at hl 4 rfl) ?_
              cases hf
              exact end_i hQ hA X hI dX13_nextFrom_104
            · replace hf := if_f h_ hf
              refine lv_iconst (v := (-1)) hx hb dX13_nextFrom_98 (by decide) ?_
              refine lv_goto (tgt := 104) hx hb dX13_nextFrom_99 (by decide) ?_
              cases hf
              exact end_i hQ hA X hI dX13_nextFrom_104
  unfold f_X13_nextFrom at hf
  refine lv_aload_n hx hb dX13_nextFrom_0 rfl (lv_at hl 0 rfl) ?_
  refine g_Md_tangle_S X hI has_Md.l (X.fl w_1586) dX13_nextFrom_1 ?_
  refine g_Tn_standRing X hI has_Tn.l.r (hI.fn (List.mem_of_getElem? (i := 108) rfl)) dX13_nextFrom_4 ?_
  refine lv_iload_n hx hb dX13_nextFrom_7 rfl (lv_at hl 2 rfl) ?_
  obtain ⟨h_, hf⟩ := ck_someM hf
  refine ld_I X hI has_Tn_standRing.l.r h_ dX13_nextFrom_8 ?_
  refine lv_topi (fun v_1 e_ => ?_)
  replace hf := lt_to e_ hf
  clear e_
  refine lv_istore (lv' := [(4, .int v_1), (0, .ref (a_md 0)), (1, .long p1), (3, .int p3)]) hx hb dX13_nextFrom_9 hl (by decide) rfl (fun ls hl => ?_)
  refine lv_iload_n hx hb dX13_nextFrom_11 rfl (lv_at hl 3 rfl) ?_
  refine lv_iconst (v := 1) hx hb dX13_nextFrom_12 (by decide) ?_
  refine lv_iadd hx hb dX13_nextFrom_13 ?_
  refine lv_topi (fun v_2 e_ => ?_)
  replace hf := lt_to e_ hf
  clear e_
  refine lv_istore (lv' := [(5, .int v_2), (4, .int v_1), (0, .ref (a_md 0)), (1, .long p1), (3, .int p3)]) hx hb dX13_nextFrom_14 hl (by decide) rfl (fun ls hl => ?_)
  exact L_16 FU p1 p3 v_1 v_2 _ _ _ (lv_sub hl [2, 3, 4, 1, 0] rfl) hI hf
abbrev rm_X13_looks : Room := { frames := 2, cells := 0, slots := 0, locals := 48 }
set_option maxRecDepth 20000 in
theorem c_X13_looks (l : Launch) (g : GT) (a_md : Nat → Nat) (a_tn : Nat → Nat) (q_md_read : Option Nat) (md : MdS) (tn : TnS) (p1 : Int64) (o_md : MdS) (hf : f_X13_looks md tn p1 = some (o_md)) : CV l yX13_looks cX13_looks 4 none rm_X13_looks g [.ref (a_md 0), .long p1] (wMd g a_md (some (a_tn 0)) q_md_read md ++ (wTn g a_tn tn ++ [])) (wMd g a_md (some (a_tn 0)) q_md_read o_md ++ (wTn g a_tn tn ++ [])) := by
  refine start2 (y := yX13_looks) (cc := cX13_looks) (n := 4) (av := [.ref (a_md 0), .long p1]) (ws := (wMd g a_md (some (a_tn 0)) q_md_read md ++ (wTn g a_tn tn ++ []))) (Qc := fun sz => QV g (wMd g a_md (some (a_tn 0)) q_md_read md ++ (wTn g a_tn tn ++ [])) (wMd g a_md (some (a_tn 0)) q_md_read o_md ++ (wTn g a_tn tn ++ [])) sz) (by decide) rfl ?_
  intro p e s m args below meth c ls Q A ha hQ hA X hl hI hin
  have X : Cx p s m args meth c cX13_looks 4 RX13 none := X
  have hl : lv_has ls 4 [(0, .ref (a_md 0)), (1, .long p1)] := hl
  obtain ⟨hx, hb, hml, hown, ht, hr, hlk⟩ := id X
  clear ha hin
  have L_55 : ∀ (x1 : Int64) (x3 : Int32) (md : MdS) (k23 : (Int64) → (Int32) → (MdS) → (TnS) → Option ((MdS))) (H : Heap) (locs : List Loc) (ls : Array Slot), lv_has ls 4 [(0, .ref (a_md 0)), (1, .long x1), (3, .int x3)] → In g A s.heap s (wMd g a_md (some (a_tn 0)) q_md_read md ++ (wTn g a_tn tn ++ [])) H locs → f_X13_looks_L55 x1 x3 md tn k23 = some (o_md) → (∀ (x1 : Int64) (x3 : Int32) (md : MdS) (H : Heap) (locs : List Loc) (ls : Array Slot), lv_has ls 4 [(0, .ref (a_md 0)), (1, .long x1), (3, .int x3)] → In g A s.heap s (wMd g a_md (some (a_tn 0)) q_md_read md ++ (wTn g a_tn tn ++ [])) H locs → k23 x1 x3 md tn = some (o_md) → W p l e rm_X13_looks s m args below meth c H locs 0 0 Q (F0 m 23 ls [])) → W p l e rm_X13_looks s m args below meth c H locs 0 0 Q (F0 m 55 ls []) := by
    intro x1 x3 md k23 H locs ls hl hI hf hk23
    unfold f_X13_looks_L55 at hf
    obtain ⟨v_8, e_⟩ : ∃ y : Int32, y = (x3 + (1 : Int32)) := ⟨_, rfl⟩
    replace hf := lt_to e_ hf
    refine lv_iinc (v := v_8) (lv' := [(3, .int v_8), (0, .ref (a_md 0)), (1, .long x1)]) hx hb dX13_looks_55 hl (k := 2) rfl (by rw [e_]; rfl) (by decide) rfl (fun ls hl => ?_)
    clear e_
    refine lv_goto (tgt := 23) hx hb dX13_looks_58 (by decide) ?_
    exact hk23 x1 v_8 md _ _ _ (lv_sub hl [1, 2, 0] rfl) hI hf
  have L_99 : ∀ (x1 : Int64) (x3 : Int32) (t1i : Int32) (t2i : Int32) (md : MdS) (k63 : (Int64) → (Int32) → (MdS) → (TnS) → Option ((MdS))) (H : Heap) (locs : List Loc) (ls : Array Slot), lv_has ls 4 [(0, .ref (a_md 0)), (1, .long x1), (3, .int x3)] → In g A s.heap s (wMd g a_md (some (a_tn 0)) q_md_read md ++ (wTn g a_tn tn ++ [])) H locs → f_X13_looks_L99 x1 x3 t1i t2i md tn k63 = some (o_md) → (∀ (x1 : Int64) (x3 : Int32) (md : MdS) (H : Heap) (locs : List Loc) (ls : Array Slot), lv_has ls 4 [(0, .ref (a_md 0)), (1, .long x1), (3, .int x3)] → In g A s.heap s (wMd g a_md (some (a_tn 0)) q_md_read md ++ (wTn g a_tn tn ++ [])) H locs → k63 x1 x3 md tn = some (o_md) → W p l e rm_X13_looks s m args below meth c H locs 0 0 Q (F0 m 63 ls [])) → W p l e rm_X13_looks s m args below meth c H locs 0 0 Q (F0 m 99 ls [.int t2i, .int t1i, .ref (a_md 3)]) := by
    intro x1 x3 t1i t2i md k63 H locs ls hl hI hf hk63
    unfold f_X13_looks_L99 at hf
    obtain ⟨h_, hf⟩ := ck_someM hf
    refine st_I X hI up_Md_nextOf.l h_ dX13_looks_99 (fun H locs hI => ?_)
    generalize hz_ : (Md_nextOf' md (upd (Md_nextOf md) (Int32.toNatClampNeg t1i) t2i)) = md_9 at hI hf
    clear hz_
    replace hf := lt_e hf
    obtain ⟨v_10, e_⟩ : ∃ y : Int32, y = (x3 + (1 : Int32)) := ⟨_, rfl⟩
    replace hf := lt_to e_ hf
    refine lv_iinc (v := v_10) (lv' := [(3, .int v_10), (0, .ref (a_md 0)), (1, .long x1)]) hx hb dX13_looks_100 hl (k := 2) rfl (by rw [e_]; rfl) (by decide) rfl (fun ls hl => ?_)
    clear e_
    refine lv_goto (tgt := 63) hx hb dX13_looks_103 (by decide) ?_
    exact hk63 x1 v_10 md_9 _ _ _ (lv_sub hl [1, 2, 0] rfl) hI hf
  have L_63 : ∀ (n_ : Nat) (x1 : Int64) (x3 : Int32) (md : MdS) (H : Heap) (locs : List Loc) (ls : Array Slot), lv_has ls 4 [(0, .ref (a_md 0)), (1, .long x1), (3, .int x3)] → In g A s.heap s (wMd g a_md (some (a_tn 0)) q_md_read md ++ (wTn g a_tn tn ++ [])) H locs → f_X13_looks_L63 n_ x1 x3 md tn = some (o_md) → W p l e rm_X13_looks s m args below meth c H locs 0 0 Q (F0 m 63 ls []) := by
    intro n_
    induction n_ with
    | zero =>
      intro x1 x3 md H locs ls hl hI hf
      rw [f_X13_looks_L63] at hf
      cases hf
    | succ n_ ih =>
      intro x1 x3 md H locs ls hl hI hf
      rw [f_X13_looks_L63] at hf
      refine lv_iload_n hx hb dX13_looks_63 rfl (lv_at hl 2 rfl) ?_
      refine lv_aload_n hx hb dX13_looks_64 rfl (lv_at hl 0 rfl) ?_
      refine g_Md_tangle_S X hI has_Md.l (X.fl w_1586) dX13_looks_65 ?_
      refine g_Tn_standings X hI has_Tn.l.r (hI.fn (List.mem_of_getElem? (i := 85) rfl)) dX13_looks_68 ?_
      refine lv_icmp_ge (tgt := 106) hx hb dX13_looks_71 (by decide) (fun h_ => ?_) (fun h_ => ?_)
      · replace hf := if_t h_ hf
        cases hf
        exact end_v hQ hA X hI dX13_looks_106
      · replace hf := if_f h_ hf
        refine lv_aload_n hx hb dX13_looks_74 rfl (lv_at hl 0 rfl) ?_
        refine g_Md_nextOf X hI has_Md.l (X.fl w_1603) dX13_looks_75 ?_
        refine lv_iload_n hx hb dX13_looks_78 rfl (lv_at hl 2 rfl) ?_
        refine lv_lload_n hx hb dX13_looks_79 rfl (lv_at hl 1 rfl) ?_
        refine lv_iload_n hx hb dX13_looks_80 rfl (lv_at hl 2 rfl) ?_
        obtain ⟨r_6, hc_, hf⟩ := bd1_some hf
        refine call_Si X hI Cj.nil (c_X13_at l g x1 x3 r_6 hc_) ⟨rfl, rfl⟩ ⟨ht _ w_2051, w_2053, ht _ w_155, lk_X13_at⟩ w_2052 rfl hl rfl rfl dX13_looks_81 rfl rfl rfl rfl (fun H locs hI => ?_)
        refine lv_bipush (v := 15) hx hb dX13_looks_84 (by decide) ?_
        refine lv_icmp_ne (tgt := 93) hx hb dX13_looks_86 (by decide) (fun h_ => ?_) (fun h_ => ?_)
        · replace hf := if_f h_ hf
          refine lv_aload_n hx hb dX13_looks_93 rfl (lv_at hl 0 rfl) ?_
          refine lv_lload_n hx hb dX13_looks_94 rfl (lv_at hl 1 rfl) ?_
          refine lv_iload_n hx hb dX13_looks_95 rfl (lv_at hl 2 rfl) ?_
          obtain ⟨r_7, hc_, hf⟩ := bd1_some hf
          refine call_Vi X hI (Cj.keep (Cj.keep Cj.id)) (c_X13_nextFrom l g a_md a_tn q_md_read md tn x1 x3 r_7 hc_) ⟨rfl, rfl⟩ ⟨ht _ w_2075, w_2078, ht _ w_155, lk_X13_nextFrom⟩ w_2077 w_100 rfl rfl rfl hl rfl rfl dX13_looks_96 rfl rfl rfl rfl (fun H locs hI => ?_)
          exact L_99 x1 x3 x3 r_7 md _ _ _ _ hl hI hf (fun z_0 z_1 z_2 _ _ _ hl hI hf => ih z_0 z_1 z_2 _ _ _ hl hI hf)
        · replace hf := if_t h_ hf
          refine lv_iconst (v := (-1)) hx hb dX13_looks_89 (by decide) ?_
          refine lv_goto (tgt := 99) hx hb dX13_looks_90 (by decide) ?_
          exact L_99 x1 x3 x3 (-1 : Int32) md _ _ _ _ hl hI hf (fun z_0 z_1 z_2 _ _ _ hl hI hf => ih z_0 z_1 z_2 _ _ _ hl hI hf)
  have L_23 : ∀ (n_ : Nat) (x1 : Int64) (x3 : Int32) (md : MdS) (H : Heap) (locs : List Loc) (ls : Array Slot), lv_has ls 4 [(0, .ref (a_md 0)), (1, .long x1), (3, .int x3)] → In g A s.heap s (wMd g a_md (some (a_tn 0)) q_md_read md ++ (wTn g a_tn tn ++ [])) H locs → f_X13_looks_L23 n_ x1 x3 md tn = some (o_md) → W p l e rm_X13_looks s m args below meth c H locs 0 0 Q (F0 m 23 ls []) := by
    intro n_
    induction n_ with
    | zero =>
      intro x1 x3 md H locs ls hl hI hf
      rw [f_X13_looks_L23] at hf
      cases hf
    | succ n_ ih =>
      intro x1 x3 md H locs ls hl hI hf
      rw [f_X13_looks_L23] at hf
      refine lv_iload_n hx hb dX13_looks_23 rfl (lv_at hl 2 rfl) ?_
      refine lv_aload_n hx hb dX13_looks_24 rfl (lv_at hl 0 rfl) ?_
      refine g_Md_tangle_S X hI has_Md.l (X.fl w_1586) dX13_looks_25 ?_
      refine g_Tn_standings X hI has_Tn.l.r (hI.fn (List.mem_of_getElem? (i := 85) rfl)) dX13_looks_28 ?_
      refine lv_icmp_ge (tgt := 61) hx hb dX13_looks_31 (by decide) (fun h_ => ?_) (fun h_ => ?_)
      · replace hf := if_t h_ hf
        refine lv_iconst (v := 0) hx hb dX13_looks_61 (by decide) ?_
        refine lv_istore_n (lv' := [(3, .int (0 : Int32)), (0, .ref (a_md 0)), (1, .long x1)]) hx hb dX13_looks_62 rfl hl (by decide) rfl (fun ls hl => ?_)
        exact L_63 FU x1 (0 : Int32) md _ _ _ (lv_sub hl [1, 2, 0] rfl) hI hf
      · replace hf := if_f h_ hf
        refine lv_lload_n hx hb dX13_looks_34 rfl (lv_at hl 1 rfl) ?_
        refine lv_iload_n hx hb dX13_looks_35 rfl (lv_at hl 2 rfl) ?_
        obtain ⟨r_3, hc_, hf⟩ := bd1_some hf
        refine call_Si X hI Cj.nil (c_X13_at l g x1 x3 r_3 hc_) ⟨rfl, rfl⟩ ⟨ht _ w_2051, w_2053, ht _ w_155, lk_X13_at⟩ w_2052 rfl hl rfl rfl dX13_looks_36 rfl rfl rfl rfl (fun H locs hI => ?_)
        refine lv_bipush (v := 15) hx hb dX13_looks_39 (by decide) ?_
        refine lv_icmp_eq (tgt := 55) hx hb dX13_looks_41 (by decide) (fun h_ => ?_) (fun h_ => ?_)
        · replace hf := if_t h_ hf
          exact L_55 x1 x3 md _ _ _ _ hl hI hf (fun z_0 z_1 z_2 _ _ _ hl hI hf => ih z_0 z_1 z_2 _ _ _ hl hI hf)
        · replace hf := if_f h_ hf
          refine lv_aload_n hx hb dX13_looks_44 rfl (lv_at hl 0 rfl) ?_
          refine g_Md_spotOf X hI has_Md.l (X.fl w_1602) dX13_looks_45 ?_
          refine lv_lload_n hx hb dX13_looks_48 rfl (lv_at hl 1 rfl) ?_
          refine lv_iload_n hx hb dX13_looks_49 rfl (lv_at hl 2 rfl) ?_
          obtain ⟨r_4, hc_, hf⟩ := bd1_some hf
          refine call_Si X hI Cj.nil (c_X13_at l g x1 x3 r_4 hc_) ⟨rfl, rfl⟩ ⟨ht _ w_2051, w_2053, ht _ w_155, lk_X13_at⟩ w_2052 rfl hl rfl rfl dX13_looks_50 rfl rfl rfl rfl (fun H locs hI => ?_)
          refine lv_iload_n hx hb dX13_looks_53 rfl (lv_at hl 2 rfl) ?_
          obtain ⟨h_, hf⟩ := ck_someM hf
          refine st_I X hI up_Md_spotOf.l h_ dX13_looks_54 (fun H locs hI => ?_)
          generalize hz_ : (Md_spotOf' md (upd (Md_spotOf md) (Int32.toNatClampNeg r_4) x3)) = md_5 at hI hf
          clear hz_
          replace hf := lt_e hf
          exact L_55 x1 x3 md_5 _ _ _ _ hl hI hf (fun z_0 z_1 z_2 _ _ _ hl hI hf => ih z_0 z_1 z_2 _ _ _ hl hI hf)
  have L_2 : ∀ (n_ : Nat) (x1 : Int64) (x3 : Int32) (md : MdS) (H : Heap) (locs : List Loc) (ls : Array Slot), lv_has ls 4 [(0, .ref (a_md 0)), (1, .long x1), (3, .int x3)] → In g A s.heap s (wMd g a_md (some (a_tn 0)) q_md_read md ++ (wTn g a_tn tn ++ [])) H locs → f_X13_looks_L2 n_ x1 x3 md tn = some (o_md) → W p l e rm_X13_looks s m args below meth c H locs 0 0 Q (F0 m 2 ls []) := by
    intro n_
    induction n_ with
    | zero =>
      intro x1 x3 md H locs ls hl hI hf
      rw [f_X13_looks_L2] at hf
      cases hf
    | succ n_ ih =>
      intro x1 x3 md H locs ls hl hI hf
      rw [f_X13_looks_L2] at hf
      refine lv_iload_n hx hb dX13_looks_2 rfl (lv_at hl 2 rfl) ?_
      refine lv_bipush (v := 16) hx hb dX13_looks_3 (by decide) ?_
      refine lv_icmp_ge (tgt := 21) hx hb dX13_looks_5 (by decide) (fun h_ => ?_) (fun h_ => ?_)
      · replace hf := if_t h_ hf
        refine lv_iconst (v := 0) hx hb dX13_looks_21 (by decide) ?_
        refine lv_istore_n (lv' := [(3, .int (0 : Int32)), (0, .ref (a_md 0)), (1, .long x1)]) hx hb dX13_looks_22 rfl hl (by decide) rfl (fun ls hl => ?_)
        exact L_23 FU x1 (0 : Int32) md _ _ _ (lv_sub hl [1, 2, 0] rfl) hI hf
      · replace hf := if_f h_ hf
        refine lv_aload_n hx hb dX13_looks_8 rfl (lv_at hl 0 rfl) ?_
        refine g_Md_spotOf X hI has_Md.l (X.fl w_1602) dX13_looks_9 ?_
        refine lv_iload_n hx hb dX13_looks_12 rfl (lv_at hl 2 rfl) ?_
        refine lv_iconst (v := (-1)) hx hb dX13_looks_13 (by decide) ?_
        obtain ⟨h_, hf⟩ := ck_someM hf
        refine st_I X hI up_Md_spotOf.l h_ dX13_looks_14 (fun H locs hI => ?_)
        generalize hz_ : (Md_spotOf' md (upd (Md_spotOf md) (Int32.toNatClampNeg x3) (-1 : Int32))) = md_1 at hI hf
        clear hz_
        replace hf := lt_e hf
        obtain ⟨v_2, e_⟩ : ∃ y : Int32, y = (x3 + (1 : Int32)) := ⟨_, rfl⟩
        replace hf := lt_to e_ hf
        refine lv_iinc (v := v_2) (lv' := [(3, .int v_2), (0, .ref (a_md 0)), (1, .long x1)]) hx hb dX13_looks_15 hl (k := 2) rfl (by rw [e_]; rfl) (by decide) rfl (fun ls hl => ?_)
        clear e_
        refine lv_goto (tgt := 2) hx hb dX13_looks_18 (by decide) ?_
        exact ih x1 v_2 md_1 _ _ _ (lv_sub hl [1, 2, 0] rfl) hI hf
  unfold f_X13_looks at hf
  refine lv_iconst (v := 0) hx hb dX13_looks_0 (by decide) ?_
  refine lv_istore_n (lv' := [(3, .int (0 : Int32)), (0, .ref (a_md 0)), (1, .long p1)]) hx hb dX13_looks_1 rfl hl (by decide) rfl (fun ls hl => ?_)
  exact L_2 FU p1 (0 : Int32) md _ _ _ (lv_sub hl [1, 2, 0] rfl) hI hf
abbrev rm_X13_areBeside : Room := { frames := 0, cells := 0, slots := 0, locals := 0 }
set_option maxRecDepth 20000 in
theorem c_X13_areBeside (l : Launch) (g : GT) (a_md : Nat → Nat) (q_md_tangle : Option Nat) (q_md_read : Option Nat) (md : MdS) (p1 : Int32) (p2 : Int32) (r_ : Int32) (hf : f_X13_areBeside md p1 p2 = some (r_)) : CI l yX13_areBeside cX13_areBeside 5 (some .boolean) rm_X13_areBeside g [.ref (a_md 0), .int p1, .int p2] (wMd g a_md q_md_tangle q_md_read md ++ []) (wMd g a_md q_md_tangle q_md_read md ++ []) r_ := by
  refine start2 (y := yX13_areBeside) (cc := cX13_areBeside) (n := 5) (av := [.ref (a_md 0), .int p1, .int p2]) (ws := (wMd g a_md q_md_tangle q_md_read md ++ [])) (Qc := fun sz => QI g (wMd g a_md q_md_tangle q_md_read md ++ []) (wMd g a_md q_md_tangle q_md_read md ++ []) r_ sz) (by decide) rfl ?_
  intro p e s m args below meth c ls Q A ha hQ hA X hl hI hin
  have X : Cx p s m args meth c cX13_areBeside 5 RX13 (some .boolean) := X
  have hl : lv_has ls 5 [(0, .ref (a_md 0)), (1, .int p1), (2, .int p2)] := hl
  obtain ⟨hx, hb, hml, hown, ht, hr, hlk⟩ := id X
  clear ha hin
  unfold f_X13_areBeside at hf
  refine lv_aload_n hx hb dX13_areBeside_0 rfl (lv_at hl 0 rfl) ?_
  refine g_Md_spotOf X hI has_Md.l (X.fl w_1602) dX13_areBeside_1 ?_
  refine lv_iload_n hx hb dX13_areBeside_4 rfl (lv_at hl 1 rfl) ?_
  obtain ⟨h_, hf⟩ := ck_someM hf
  refine ld_I X hI has_Md_spotOf.l h_ dX13_areBeside_5 ?_
  refine lv_topi (fun v_1 e_ => ?_)
  replace hf := lt_to e_ hf
  clear e_
  refine lv_istore_n (lv' := [(3, .int v_1), (0, .ref (a_md 0)), (1, .int p1), (2, .int p2)]) hx hb dX13_areBeside_6 rfl hl (by decide) rfl (fun ls hl => ?_)
  refine lv_aload_n hx hb dX13_areBeside_7 rfl (lv_at hl 1 rfl) ?_
  refine g_Md_spotOf X hI has_Md.l (X.fl w_1602) dX13_areBeside_8 ?_
  refine lv_iload_n hx hb dX13_areBeside_11 rfl (lv_at hl 3 rfl) ?_
  obtain ⟨h_, hf⟩ := ck_someM hf
  refine ld_I X hI has_Md_spotOf.l h_ dX13_areBeside_12 ?_
  refine lv_topi (fun v_2 e_ => ?_)
  replace hf := lt_to e_ hf
  clear e_
  refine lv_istore (lv' := [(4, .int v_2), (3, .int v_1), (0, .ref (a_md 0)), (1, .int p1), (2, .int p2)]) hx hb dX13_areBeside_13 hl (by decide) rfl (fun ls hl => ?_)
  refine lv_iload_n hx hb dX13_areBeside_15 rfl (lv_at hl 1 rfl) ?_
  refine lv_iconst (v := (-1)) hx hb dX13_areBeside_16 (by decide) ?_
  refine lv_icmp_eq (tgt := 58) hx hb dX13_areBeside_17 (by decide) (fun h_ => ?_) (fun h_ => ?_)
  · replace hf := if_t h_ hf
    refine lv_iconst (v := 0) hx hb dX13_areBeside_58 (by decide) ?_
    cases hf
    exact end_z hQ hA X hI rfl dX13_areBeside_59
  · replace hf := if_f h_ hf
    refine lv_iload hx hb dX13_areBeside_20 (lv_at hl 0 rfl) ?_
    refine lv_iconst (v := (-1)) hx hb dX13_areBeside_22 (by decide) ?_
    refine lv_icmp_eq (tgt := 58) hx hb dX13_areBeside_23 (by decide) (fun h_ => ?_) (fun h_ => ?_)
    · replace hf := if_t h_ hf
      refine lv_iconst (v := 0) hx hb dX13_areBeside_58 (by decide) ?_
      cases hf
      exact end_z hQ hA X hI rfl dX13_areBeside_59
    · replace hf := if_f h_ hf
      refine lv_iload_n hx hb dX13_areBeside_26 rfl (lv_at hl 1 rfl) ?_
      refine lv_iload hx hb dX13_areBeside_27 (lv_at hl 0 rfl) ?_
      refine lv_icmp_eq (tgt := 58) hx hb dX13_areBeside_29 (by decide) (fun h_ => ?_) (fun h_ => ?_)
      · replace hf := if_t h_ hf
        refine lv_iconst (v := 0) hx hb dX13_areBeside_58 (by decide) ?_
        cases hf
        exact end_z hQ hA X hI rfl dX13_areBeside_59
      · replace hf := if_f h_ hf
        refine lv_aload_n hx hb dX13_areBeside_32 rfl (lv_at hl 2 rfl) ?_
        refine g_Md_nextOf X hI has_Md.l (X.fl w_1603) dX13_areBeside_33 ?_
        refine lv_iload_n hx hb dX13_areBeside_36 rfl (lv_at hl 1 rfl) ?_
        obtain ⟨h_, hf⟩ := ck_someM hf
        refine ld_I X hI has_Md_nextOf.l h_ dX13_areBeside_37 ?_
        refine lv_iload hx hb dX13_areBeside_38 (lv_at hl 0 rfl) ?_
        refine lv_icmp_eq (tgt := 54) hx hb dX13_areBeside_40 (by decide) (fun h_ => ?_) (fun h_ => ?_)
        · replace hf := if_t h_ hf
          refine lv_iconst (v := 1) hx hb dX13_areBeside_54 (by decide) ?_
          refine lv_goto (tgt := 59) hx hb dX13_areBeside_55 (by decide) ?_
          cases hf
          exact end_z hQ hA X hI rfl dX13_areBeside_59
        · replace hf := if_f h_ hf
          refine lv_aload_n hx hb dX13_areBeside_43 rfl (lv_at hl 2 rfl) ?_
          refine g_Md_nextOf X hI has_Md.l (X.fl w_1603) dX13_areBeside_44 ?_
          refine lv_iload hx hb dX13_areBeside_47 (lv_at hl 0 rfl) ?_
          obtain ⟨h_, hf⟩ := ck_someM hf
          refine ld_I X hI has_Md_nextOf.l h_ dX13_areBeside_49 ?_
          refine lv_iload_n hx hb dX13_areBeside_50 rfl (lv_at hl 1 rfl) ?_
          refine lv_icmp_ne (tgt := 58) hx hb dX13_areBeside_51 (by decide) (fun h_ => ?_) (fun h_ => ?_)
          · replace hf := if_f h_ hf
            refine lv_iconst (v := 0) hx hb dX13_areBeside_58 (by decide) ?_
            cases hf
            exact end_z hQ hA X hI rfl dX13_areBeside_59
          · replace hf := if_t h_ hf
            refine lv_iconst (v := 1) hx hb dX13_areBeside_54 (by decide) ?_
            refine lv_goto (tgt := 59) hx hb dX13_areBeside_55 (by decide) ?_
            cases hf
            exact end_z hQ hA X hI rfl dX13_areBeside_59
abbrev rm_X13_kindOf : Room := { frames := 0, cells := 0, slots := 0, locals := 0 }
set_option maxRecDepth 20000 in
theorem c_X13_kindOf (l : Launch) (g : GT) (p0 : Int32) (r_ : Int32) (hf : f_X13_kindOf p0 = some (r_)) : CI l yX13_kindOf cX13_kindOf 1 (some .int) rm_X13_kindOf g [.int p0] ([]) ([]) r_ := by
  refine start2 (y := yX13_kindOf) (cc := cX13_kindOf) (n := 1) (av := [.int p0]) (ws := ([])) (Qc := fun sz => QI g ([]) ([]) r_ sz) (by decide) rfl ?_
  intro p e s m args below meth c ls Q A ha hQ hA X hl hI hin
  have X : Cx p s m args meth c cX13_kindOf 1 RX13 (some .int) := X
  have hl : lv_has ls 1 [(0, .int p0)] := hl
  obtain ⟨hx, hb, hml, hown, ht, hr, hlk⟩ := id X
  clear ha hin
  unfold f_X13_kindOf at hf
  refine lv_iload_n hx hb dX13_kindOf_0 rfl (lv_at hl 0 rfl) ?_
  refine lv_bipush (v := 100) hx hb dX13_kindOf_1 (by decide) ?_
  refine lv_icmp_ge (tgt := 10) hx hb dX13_kindOf_3 (by decide) (fun h_ => ?_) (fun h_ => ?_)
  · replace hf := if_t h_ hf
    refine lv_iload_n hx hb dX13_kindOf_10 rfl (lv_at hl 0 rfl) ?_
    refine lv_sipush (v := 1000) hx hb dX13_kindOf_11 (by decide) ?_
    refine lv_icmp_ge (tgt := 21) hx hb dX13_kindOf_14 (by decide) (fun h_ => ?_) (fun h_ => ?_)
    · replace hf := if_t h_ hf
      refine lv_iconst (v := 2) hx hb dX13_kindOf_21 (by decide) ?_
      cases hf
      exact end_i hQ hA X hI dX13_kindOf_22
    · replace hf := if_f h_ hf
      refine lv_iconst (v := 1) hx hb dX13_kindOf_17 (by decide) ?_
      refine lv_goto (tgt := 22) hx hb dX13_kindOf_18 (by decide) ?_
      cases hf
      exact end_i hQ hA X hI dX13_kindOf_22
  · replace hf := if_f h_ hf
    refine lv_iconst (v := 0) hx hb dX13_kindOf_6 (by decide) ?_
    refine lv_goto (tgt := 22) hx hb dX13_kindOf_7 (by decide) ?_
    cases hf
    exact end_i hQ hA X hI dX13_kindOf_22
