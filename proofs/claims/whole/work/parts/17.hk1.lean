abbrev rm_X11_refuse : Room := { frames := 0, cells := 0, slots := 0, locals := 0 }
set_option maxRecDepth 20000 in
theorem c_X11_refuse (l : Launch) (g : GT) (a_hk : Nat → Nat) (q_hk_reader : Nat) (q_hk_rings : Nat) (q_hk_now : Nat) (q_hk_tried : Nat) (q_hk_history : Nat) (q_hk_board : Nat) (q_hk_search : Nat) (q_hk_within : Nat) (q_hk_colouring : Nat) (q_hk_chances : Nat) (hk : HKS) (p1 : Int32) (r_ : Int32) (o_hk : HKS) (hf : f_X11_refuse hk p1 = some (r_, o_hk)) : CI l yX11_refuse cX11_refuse 2 (some .int) rm_X11_refuse g [.ref (a_hk 0), .int p1] (wHK g a_hk q_hk_reader q_hk_rings q_hk_now q_hk_tried q_hk_history q_hk_board q_hk_search q_hk_within q_hk_colouring q_hk_chances hk ++ []) (wHK g a_hk q_hk_reader q_hk_rings q_hk_now q_hk_tried q_hk_history q_hk_board q_hk_search q_hk_within q_hk_colouring q_hk_chances o_hk ++ []) r_ := by
  refine start2 (y := yX11_refuse) (cc := cX11_refuse) (n := 2) (av := [.ref (a_hk 0), .int p1]) (ws := (wHK g a_hk q_hk_reader q_hk_rings q_hk_now q_hk_tried q_hk_history q_hk_board q_hk_search q_hk_within q_hk_colouring q_hk_chances hk ++ [])) (Qc := fun sz => QI g (wHK g a_hk q_hk_reader q_hk_rings q_hk_now q_hk_tried q_hk_history q_hk_board q_hk_search q_hk_within q_hk_colouring q_hk_chances hk ++ []) (wHK g a_hk q_hk_reader q_hk_rings q_hk_now q_hk_tried q_hk_history q_hk_board q_hk_search q_hk_within q_hk_colouring q_hk_chances o_hk ++ []) r_ sz) (by decide) rfl ?_
  intro p e s m args below meth c ls Q A ha hQ hA X hl hI hin
  have X : Cx p s m args meth c cX11_refuse 2 RX11 (some .int) := X
  have hl : lv_has ls 2 [(0, .ref (a_hk 0)), (1, .int p1)] := hl
  obtain ⟨hx, hb, hml, hown, ht, hr, hlk⟩ := id X
  clear ha hin
  unfold f_X11_refuse at hf
  refine lv_aload_n hx hb dX11_refuse_0 rfl (lv_at hl 0 rfl) ?_
  refine lv_iload_n hx hb dX11_refuse_1 rfl (lv_at hl 1 rfl) ?_
  refine p_HK_trouble X hI up_HK_trouble.l (X.fl w_687) dX11_refuse_2 (fun H locs hI => ?_)
  generalize hz_ : (HK_trouble' hk p1) = hk_1 at hI hf
  clear hz_
  replace hf := lt_e hf
  refine lv_iconst (v := (-1)) hx hb dX11_refuse_5 (by decide) ?_
  cases hf
  exact end_i hQ hA X hI dX11_refuse_6
abbrev rm_X11_refuseSigned : Room := { frames := 0, cells := 0, slots := 0, locals := 0 }
set_option maxRecDepth 20000 in
theorem c_X11_refuseSigned (l : Launch) (g : GT) (a_hk : Nat → Nat) (q_hk_reader : Nat) (q_hk_rings : Nat) (q_hk_now : Nat) (q_hk_tried : Nat) (q_hk_history : Nat) (q_hk_board : Nat) (q_hk_search : Nat) (q_hk_within : Nat) (q_hk_colouring : Nat) (q_hk_chances : Nat) (hk : HKS) (p1 : Int32) (r_ : Int32) (o_hk : HKS) (hf : f_X11_refuseSigned hk p1 = some (r_, o_hk)) : CI l yX11_refuseSigned cX11_refuseSigned 2 (some .int) rm_X11_refuseSigned g [.ref (a_hk 0), .int p1] (wHK g a_hk q_hk_reader q_hk_rings q_hk_now q_hk_tried q_hk_history q_hk_board q_hk_search q_hk_within q_hk_colouring q_hk_chances hk ++ []) (wHK g a_hk q_hk_reader q_hk_rings q_hk_now q_hk_tried q_hk_history q_hk_board q_hk_search q_hk_within q_hk_colouring q_hk_chances o_hk ++ []) r_ := by
  refine start2 (y := yX11_refuseSigned) (cc := cX11_refuseSigned) (n := 2) (av := [.ref (a_hk 0), .int p1]) (ws := (wHK g a_hk q_hk_reader q_hk_rings q_hk_now q_hk_tried q_hk_history q_hk_board q_hk_search q_hk_within q_hk_colouring q_hk_chances hk ++ [])) (Qc := fun sz => QI g (wHK g a_hk q_hk_reader q_hk_rings q_hk_now q_hk_tried q_hk_history q_hk_board q_hk_search q_hk_within q_hk_colouring q_hk_chances hk ++ []) (wHK g a_hk q_hk_reader q_hk_rings q_hk_now q_hk_tried q_hk_history q_hk_board q_hk_search q_hk_within q_hk_colouring q_hk_chances o_hk ++ []) r_ sz) (by decide) rfl ?_
  intro p e s m args below meth c ls Q A ha hQ hA X hl hI hin
  have X : Cx p s m args meth c cX11_refuseSigned 2 RX11 (some .int) := X
  have hl : lv_has ls 2 [(0, .ref (a_hk 0)), (1, .int p1)] := hl
  obtain ⟨hx, hb, hml, hown, ht, hr, hlk⟩ := id X
  clear ha hin
  unfold f_X11_refuseSigned at hf
  refine lv_aload_n hx hb dX11_refuseSigned_0 rfl (lv_at hl 0 rfl) ?_
  refine lv_iload_n hx hb dX11_refuseSigned_1 rfl (lv_at hl 1 rfl) ?_
  refine p_HK_trouble X hI up_HK_trouble.l (X.fl w_687) dX11_refuseSigned_2 (fun H locs hI => ?_)
  generalize hz_ : (HK_trouble' hk p1) = hk_1 at hI hf
  clear hz_
  replace hf := lt_e hf
  refine lv_bipush (v := (-100)) hx hb dX11_refuseSigned_5 (by decide) ?_
  cases hf
  exact end_i hQ hA X hI dX11_refuseSigned_7
abbrev rm_X11_refuseFlatly : Room := { frames := 0, cells := 0, slots := 0, locals := 0 }
set_option maxRecDepth 20000 in
theorem c_X11_refuseFlatly (l : Launch) (g : GT) (a_hk : Nat → Nat) (q_hk_reader : Nat) (q_hk_rings : Nat) (q_hk_now : Nat) (q_hk_tried : Nat) (q_hk_history : Nat) (q_hk_board : Nat) (q_hk_search : Nat) (q_hk_within : Nat) (q_hk_colouring : Nat) (q_hk_chances : Nat) (hk : HKS) (p1 : Int32) (r_ : Int32) (o_hk : HKS) (hf : f_X11_refuseFlatly hk p1 = some (r_, o_hk)) : CI l yX11_refuseFlatly cX11_refuseFlatly 2 (some .boolean) rm_X11_refuseFlatly g [.ref (a_hk 0), .int p1] (wHK g a_hk q_hk_reader q_hk_rings q_hk_now q_hk_tried q_hk_history q_hk_board q_hk_search q_hk_within q_hk_colouring q_hk_chances hk ++ []) (wHK g a_hk q_hk_reader q_hk_rings q_hk_now q_hk_tried q_hk_history q_hk_board q_hk_search q_hk_within q_hk_colouring q_hk_chances o_hk ++ []) r_ := by
  refine start2 (y := yX11_refuseFlatly) (cc := cX11_refuseFlatly) (n := 2) (av := [.ref (a_hk 0), .int p1]) (ws := (wHK g a_hk q_hk_reader q_hk_rings q_hk_now q_hk_tried q_hk_history q_hk_board q_hk_search q_hk_within q_hk_colouring q_hk_chances hk ++ [])) (Qc := fun sz => QI g (wHK g a_hk q_hk_reader q_hk_rings q_hk_now q_hk_tried q_hk_history q_hk_board q_hk_search q_hk_within q_hk_colouring q_hk_chances hk ++ []) (wHK g a_hk q_hk_reader q_hk_rings q_hk_now q_hk_tried q_hk_history q_hk_board q_hk_search q_hk_within q_hk_colouring q_hk_chances o_hk ++ []) r_ sz) (by decide) rfl ?_
  intro p e s m args below meth c ls Q A ha hQ hA X hl hI hin
  have X : Cx p s m args meth c cX11_refuseFlatly 2 RX11 (some .boolean) := X
  have hl : lv_has ls 2 [(0, .ref (a_hk 0)), (1, .int p1)] := hl
  obtain ⟨hx, hb, hml, hown, ht, hr, hlk⟩ := id X
  clear ha hin
  unfold f_X11_refuseFlatly at hf
  refine lv_aload_n hx hb dX11_refuseFlatly_0 rfl (lv_at hl 0 rfl) ?_
  refine lv_iload_n hx hb dX11_refuseFlatly_1 rfl (lv_at hl 1 rfl) ?_
  refine p_HK_trouble X hI up_HK_trouble.l (X.fl w_687) dX11_refuseFlatly_2 (fun H locs hI => ?_)
  generalize hz_ : (HK_trouble' hk p1) = hk_1 at hI hf
  clear hz_
  replace hf := lt_e hf
  refine lv_iconst (v := 0) hx hb dX11_refuseFlatly_5 (by decide) ?_
  cases hf
  exact end_z hQ hA X hI rfl dX11_refuseFlatly_6
abbrev rm_X11_grant : Room := { frames := 0, cells := 0, slots := 0, locals := 0 }
set_option maxRecDepth 20000 in
theorem c_X11_grant (l : Launch) (g : GT) (a_hk : Nat → Nat) (q_hk_reader : Nat) (q_hk_rings : Nat) (q_hk_now : Nat) (q_hk_tried : Nat) (q_hk_history : Nat) (q_hk_board : Nat) (q_hk_search : Nat) (q_hk_within : Nat) (q_hk_colouring : Nat) (q_hk_chances : Nat) (hk : HKS) (p1 : Int32) (r_ : Int32) (o_hk : HKS) (hf : f_X11_grant hk p1 = some (r_, o_hk)) : CI l yX11_grant cX11_grant 2 (some .int) rm_X11_grant g [.ref (a_hk 0), .int p1] (wHK g a_hk q_hk_reader q_hk_rings q_hk_now q_hk_tried q_hk_history q_hk_board q_hk_search q_hk_within q_hk_colouring q_hk_chances hk ++ []) (wHK g a_hk q_hk_reader q_hk_rings q_hk_now q_hk_tried q_hk_history q_hk_board q_hk_search q_hk_within q_hk_colouring q_hk_chances o_hk ++ []) r_ := by
  refine start2 (y := yX11_grant) (cc := cX11_grant) (n := 2) (av := [.ref (a_hk 0), .int p1]) (ws := (wHK g a_hk q_hk_reader q_hk_rings q_hk_now q_hk_tried q_hk_history q_hk_board q_hk_search q_hk_within q_hk_colouring q_hk_chances hk ++ [])) (Qc := fun sz => QI g (wHK g a_hk q_hk_reader q_hk_rings q_hk_now q_hk_tried q_hk_history q_hk_board q_hk_search q_hk_within q_hk_colouring q_hk_chances hk ++ []) (wHK g a_hk q_hk_reader q_hk_rings q_hk_now q_hk_tried q_hk_history q_hk_board q_hk_search q_hk_within q_hk_colouring q_hk_chances o_hk ++ []) r_ sz) (by decide) rfl ?_
  intro p e s m args below meth c ls Q A ha hQ hA X hl hI hin
  have X : Cx p s m args meth c cX11_grant 2 RX11 (some .int) := X
  have hl : lv_has ls 2 [(0, .ref (a_hk 0)), (1, .int p1)] := hl
  obtain ⟨hx, hb, hml, hown, ht, hr, hlk⟩ := id X
  clear ha hin
  unfold f_X11_grant at hf
  refine lv_aload_n hx hb dX11_grant_0 rfl (lv_at hl 0 rfl) ?_
  refine lv_iconst (v := 0) hx hb dX11_grant_1 (by decide) ?_
  refine p_HK_trouble X hI up_HK_trouble.l (X.fl w_687) dX11_grant_2 (fun H locs hI => ?_)
  generalize hz_ : (HK_trouble' hk (0 : Int32)) = hk_1 at hI hf
  clear hz_
  replace hf := lt_e hf
  refine lv_iload_n hx hb dX11_grant_5 rfl (lv_at hl 1 rfl) ?_
  cases hf
  exact end_i hQ hA X hI dX11_grant_6
abbrev rm_X11_isPerson : Room := { frames := 0, cells := 0, slots := 0, locals := 0 }
set_option maxRecDepth 20000 in
theorem c_X11_isPerson (l : Launch) (g : GT) (a_hk : Nat → Nat) (a_ri : Nat → Nat) (q_hk_reader : Nat) (q_hk_now : Nat) (q_hk_tried : Nat) (q_hk_history : Nat) (q_hk_board : Nat) (q_hk_search : Nat) (q_hk_within : Nat) (q_hk_colouring : Nat) (q_hk_chances : Nat) (hk : HKS) (ri : RiS) (p1 : Int32) (r_ : Int32) (hf : f_X11_isPerson hk ri p1 = some (r_)) : CI l yX11_isPerson cX11_isPerson 2 (some .boolean) rm_X11_isPerson g [.ref (a_hk 0), .int p1] (wHK g a_hk q_hk_reader (a_ri 0) q_hk_now q_hk_tried q_hk_history q_hk_board q_hk_search q_hk_within q_hk_colouring q_hk_chances hk ++ (wRi g a_ri ri ++ [])) (wHK g a_hk q_hk_reader (a_ri 0) q_hk_now q_hk_tried q_hk_history q_hk_board q_hk_search q_hk_within q_hk_colouring q_hk_chances hk ++ (wRi g a_ri ri ++ [])) r_ := by
  refine start2 (y := yX11_isPerson) (cc := cX11_isPerson) (n := 2) (av := [.ref (a_hk 0), .int p1]) (ws := (wHK g a_hk q_hk_reader (a_ri 0) q_hk_now q_hk_tried q_hk_history q_hk_board q_hk_search q_hk_within q_hk_colouring q_hk_chances hk ++ (wRi g a_ri ri ++ []))) (Qc := fun sz => QI g (wHK g a_hk q_hk_reader (a_ri 0) q_hk_now q_hk_tried q_hk_history q_hk_board q_hk_search q_hk_within q_hk_colouring q_hk_chances hk ++ (wRi g a_ri ri ++ [])) (wHK g a_hk q_hk_reader (a_ri 0) q_hk_now q_hk_tried q_hk_history q_hk_board q_hk_search q_hk_within q_hk_colouring q_hk_chances hk ++ (wRi g a_ri ri ++ [])) r_ sz) (by decide) rfl ?_
  intro p e s m args below meth c ls Q A ha hQ hA X hl hI hin
  have X : Cx p s m args meth c cX11_isPerson 2 RX11 (some .boolean) := X
  have hl : lv_has ls 2 [(0, .ref (a_hk 0)), (1, .int p1)] := hl
  obtain ⟨hx, hb, hml, hown, ht, hr, hlk⟩ := id X
  clear ha hin
  unfold f_X11_isPerson at hf
  refine lv_aload_n hx hb dX11_isPerson_0 rfl (lv_at hl 0 rfl) ?_
  refine g_HK_there X hI has_HK.l (X.fl w_686) dX11_isPerson_1 ?_
  refine lv_if_eq (tgt := 26) hx hb dX11_isPerson_4 (by decide) (fun h_ => ?_) (fun h_ => ?_)
  · replace hf := if_t h_ hf
    refine lv_iconst (v := 0) hx hb dX11_isPerson_26 (by decide) ?_
    cases hf
    exact end_z hQ hA X hI rfl dX11_isPerson_27
  · replace hf := if_f h_ hf
    refine lv_iload_n hx hb dX11_isPerson_7 rfl (lv_at hl 1 rfl) ?_
    refine lv_if_lt (tgt := 26) hx hb dX11_isPerson_8 (by decide) (fun h_ => ?_) (fun h_ => ?_)
    · replace hf := if_t h_ hf
      refine lv_iconst (v := 0) hx hb dX11_isPerson_26 (by decide) ?_
      cases hf
      exact end_z hQ hA X hI rfl dX11_isPerson_27
    · replace hf := if_f h_ hf
      refine lv_iload_n hx hb dX11_isPerson_11 rfl (lv_at hl 1 rfl) ?_
      refine lv_aload_n hx hb dX11_isPerson_12 rfl (lv_at hl 0 rfl) ?_
      refine g_HK_rings X hI has_HK.l (X.fl w_677) dX11_isPerson_13 ?_
      refine g_Ri_people X hI has_Ri.l.r (hI.fn (List.mem_of_getElem? (i := 28) rfl)) dX11_isPerson_16 ?_
      refine lv_icmp_ge (tgt := 26) hx hb dX11_isPerson_19 (by decide) (fun h_ => ?_) (fun h_ => ?_)
      · replace hf := if_t h_ hf
        refine lv_iconst (v := 0) hx hb dX11_isPerson_26 (by decide) ?_
        cases hf
        exact end_z hQ hA X hI rfl dX11_isPerson_27
      · replace hf := if_f h_ hf
        refine lv_iconst (v := 1) hx hb dX11_isPerson_22 (by decide) ?_
        refine lv_goto (tgt := 27) hx hb dX11_isPerson_23 (by decide) ?_
        cases hf
        exact end_z hQ hA X hI rfl dX11_isPerson_27
abbrev rm_X11_isLink : Room := { frames := 0, cells := 0, slots := 0, locals := 0 }
set_option maxRecDepth 20000 in
theorem c_X11_isLink (l : Launch) (g : GT) (a_hk : Nat → Nat) (a_ri : Nat → Nat) (q_hk_reader : Nat) (q_hk_now : Nat) (q_hk_tried : Nat) (q_hk_history : Nat) (q_hk_board : Nat) (q_hk_search : Nat) (q_hk_within : Nat) (q_hk_colouring : Nat) (q_hk_chances : Nat) (hk : HKS) (ri : RiS) (p1 : Int32) (r_ : Int32) (hf : f_X11_isLink hk ri p1 = some (r_)) : CI l yX11_isLink cX11_isLink 2 (some .boolean) rm_X11_isLink g [.ref (a_hk 0), .int p1] (wHK g a_hk q_hk_reader (a_ri 0) q_hk_now q_hk_tried q_hk_history q_hk_board q_hk_search q_hk_within q_hk_colouring q_hk_chances hk ++ (wRi g a_ri ri ++ [])) (wHK g a_hk q_hk_reader (a_ri 0) q_hk_now q_hk_tried q_hk_history q_hk_board q_hk_search q_hk_within q_hk_colouring q_hk_chances hk ++ (wRi g a_ri ri ++ [])) r_ := by
  refine start2 (y := yX11_isLink) (cc := cX11_isLink) (n := 2) (av := [.ref (a_hk 0), .int p1]) (ws := (wHK g a_hk q_hk_reader (a_ri 0) q_hk_now q_hk_tried q_hk_history q_hk_board q_hk_search q_hk_within q_hk_colouring q_hk_chances hk ++ (wRi g a_ri ri ++ []))) (Qc := fun sz => QI g (wHK g a_hk q_hk_reader (a_ri 0) q_hk_now q_hk_tried q_hk_history q_hk_board q_hk_search q_hk_within q_hk_colouring q_hk_chances hk ++ (wRi g a_ri ri ++ [])) (wHK g a_hk q_hk_reader (a_ri 0) q_hk_now q_hk_tried q_hk_history q_hk_board q_hk_search q_hk_within q_hk_colouring q_hk_chances hk ++ (wRi g a_ri ri ++ [])) r_ sz) (by decide) rfl ?_
  intro p e s m args below meth c ls Q A ha hQ hA X hl hI hin
  have X : Cx p s m args meth c cX11_isLink 2 RX11 (some .boolean) := X
  have hl : lv_has ls 2 [(0, .ref (a_hk 0)), (1, .int p1)] := hl
  obtain ⟨hx, hb, hml, hown, ht, hr, hlk⟩ := id X
  clear ha hin
  unfold f_X11_isLink at hf
  refine lv_aload_n hx hb dX11_isLink_0 rfl (lv_at hl 0 rfl) ?_
  refine g_HK_there X hI has_HK.l (X.fl w_686) dX11_isLink_1 ?_
  refine lv_if_eq (tgt := 26) hx hb dX11_isLink_4 (by decide) (fun h_ => ?_) (fun h_ => ?_)
  · replace hf := if_t h_ hf
    refine lv_iconst (v := 0) hx hb dX11_isLink_26 (by decide) ?_
    cases hf
    exact end_z hQ hA X hI rfl dX11_isLink_27
  · replace hf := if_f h_ hf
    refine lv_iload_n hx hb dX11_isLink_7 rfl (lv_at hl 1 rfl) ?_
    refine lv_if_lt (tgt := 26) hx hb dX11_isLink_8 (by decide) (fun h_ => ?_) (fun h_ => ?_)
    · replace hf := if_t h_ hf
      refine lv_iconst (v := 0) hx hb dX11_isLink_26 (by decide) ?_
      cases hf
      exact end_z hQ hA X hI rfl dX11_isLink_27
    · replace hf := if_f h_ hf
      refine lv_iload_n hx hb dX11_isLink_11 rfl (lv_at hl 1 rfl) ?_
      refine lv_aload_n hx hb dX11_isLink_12 rfl (lv_at hl 0 rfl) ?_
      refine g_HK_rings X hI has_HK.l (X.fl w_677) dX11_isLink_13 ?_
      refine g_Ri_links X hI has_Ri.l.r (hI.fn (List.mem_of_getElem? (i := 29) rfl)) dX11_isLink_16 ?_
      refine lv_icmp_ge (tgt := 26) hx hb dX11_isLink_19 (by decide) (fun h_ => ?_) (fun h_ => ?_)
      · replace hf := if_t h_ hf
        refine lv_iconst (v := 0) hx hb dX11_isLink_26 (by decide) ?_
        cases hf
        exact end_z hQ hA X hI rfl dX11_isLink_27
      · replace hf := if_f h_ hf
        refine lv_iconst (v := 1) hx hb dX11_isLink_22 (by decide) ?_
        refine lv_goto (tgt := 27) hx hb dX11_isLink_23 (by decide) ?_
        cases hf
        exact end_z hQ hA X hI rfl dX11_isLink_27
abbrev rm_X11_isRing : Room := { frames := 0, cells := 0, slots := 0, locals := 0 }
set_option maxRecDepth 20000 in
theorem c_X11_isRing (l : Launch) (g : GT) (a_hk : Nat → Nat) (a_ri : Nat → Nat) (q_hk_reader : Nat) (q_hk_now : Nat) (q_hk_tried : Nat) (q_hk_history : Nat) (q_hk_board : Nat) (q_hk_search : Nat) (q_hk_within : Nat) (q_hk_colouring : Nat) (q_hk_chances : Nat) (hk : HKS) (ri : RiS) (p1 : Int32) (r_ : Int32) (hf : f_X11_isRing hk ri p1 = some (r_)) : CI l yX11_isRing cX11_isRing 2 (some .boolean) rm_X11_isRing g [.ref (a_hk 0), .int p1] (wHK g a_hk q_hk_reader (a_ri 0) q_hk_now q_hk_tried q_hk_history q_hk_board q_hk_search q_hk_within q_hk_colouring q_hk_chances hk ++ (wRi g a_ri ri ++ [])) (wHK g a_hk q_hk_reader (a_ri 0) q_hk_now q_hk_tried q_hk_history q_hk_board q_hk_search q_hk_within q_hk_colouring q_hk_chances hk ++ (wRi g a_ri ri ++ [])) r_ := by
  refine start2 (y := yX11_isRing) (cc := cX11_isRing) (n := 2) (av := [.ref (a_hk 0), .int p1]) (ws := (wHK g a_hk q_hk_reader (a_ri 0) q_hk_now q_hk_tried q_hk_history q_hk_board q_hk_search q_hk_within q_hk_colouring q_hk_chances hk ++ (wRi g a_ri ri ++ []))) (Qc := fun sz => QI g (wHK g a_hk q_hk_reader (a_ri 0) q_hk_now q_hk_tried q_hk_history q_hk_board q_hk_search q_hk_within q_hk_colouring q_hk_chances hk ++ (wRi g a_ri ri ++ [])) (wHK g a_hk q_hk_reader (a_ri 0) q_hk_now q_hk_tried q_hk_history q_hk_board q_hk_search q_hk_within q_hk_colouring q_hk_chances hk ++ (wRi g a_ri ri ++ [])) r_ sz) (by decide) rfl ?_
  intro p e s m args below meth c ls Q A ha hQ hA X hl hI hin
  have X : Cx p s m args meth c cX11_isRing 2 RX11 (some .boolean) := X
  have hl : lv_has ls 2 [(0, .ref (a_hk 0)), (1, .int p1)] := hl
  obtain ⟨hx, hb, hml, hown, ht, hr, hlk⟩ := id X
  clear ha hin
  unfold f_X11_isRing at hf
  refine lv_aload_n hx hb dX11_isRing_0 rfl (lv_at hl 0 rfl) ?_
  refine g_HK_there X hI has_HK.l (X.fl w_686) dX11_isRing_1 ?_
  refine lv_if_eq (tgt := 26) hx hb dX11_isRing_4 (by decide) (fun h_ => ?_) (fun h_ => ?_)
  · replace hf := if_t h_ hf
    refine lv_iconst (v := 0) hx hb dX11_isRing_26 (by decide) ?_
    cases hf
    exact end_z hQ hA X hI rfl dX11_isRing_27
  · replace hf := if_f h_ hf
    refine lv_iload_n hx hb dX11_isRing_7 rfl (lv_at hl 1 rfl) ?_
    refine lv_if_lt (tgt := 26) hx hb dX11_isRing_8 (by decide) (fun h_ => ?_) (fun h_ => ?_)
    · replace hf := if_t h_ hf
      refine lv_iconst (v := 0) hx hb dX11_isRing_26 (by decide) ?_
      cases hf
      exact end_z hQ hA X hI rfl dX11_isRing_27
    · replace hf := if_f h_ hf
      refine lv_iload_n hx hb dX11_isRing_11 rfl (lv_at hl 1 rfl) ?_
      refine lv_aload_n hx hb dX11_isRing_12 rfl (lv_at hl 0 rfl) ?_
      refine g_HK_rings X hI has_HK.l (X.fl w_677) dX11_isRing_13 ?_
      refine g_Ri_count X hI has_Ri.l.r (hI.fn (List.mem_of_getElem? (i := 35) rfl)) dX11_isRing_16 ?_
      refine lv_icmp_ge (tgt := 26) hx hb dX11_isRing_19 (by decide) (fun h_ => ?_) (fun h_ => ?_)
      · replace hf := if_t h_ hf
        refine lv_iconst (v := 0) hx hb dX11_isRing_26 (by decide) ?_
        cases hf
        exact end_z hQ hA X hI rfl dX11_isRing_27
      · replace hf := if_f h_ hf
        refine lv_iconst (v := 1) hx hb dX11_isRing_22 (by decide) ?_
        refine lv_goto (tgt := 27) hx hb dX11_isRing_23 (by decide) ?_
        cases hf
        exact end_z hQ hA X hI rfl dX11_isRing_27
abbrev rm_X11_isCrossing : Room := { frames := 0, cells := 0, slots := 0, locals := 0 }
set_option maxRecDepth 20000 in
theorem c_X11_isCrossing (l : Launch) (g : GT) (a_hk : Nat → Nat) (a_ri : Nat → Nat) (q_hk_reader : Nat) (q_hk_now : Nat) (q_hk_tried : Nat) (q_hk_history : Nat) (q_hk_board : Nat) (q_hk_search : Nat) (q_hk_within : Nat) (q_hk_colouring : Nat) (q_hk_chances : Nat) (hk : HKS) (ri : RiS) (p1 : Int32) (r_ : Int32) (hf : f_X11_isCrossing hk ri p1 = some (r_)) : CI l yX11_isCrossing cX11_isCrossing 2 (some .boolean) rm_X11_isCrossing g [.ref (a_hk 0), .int p1] (wHK g a_hk q_hk_reader (a_ri 0) q_hk_now q_hk_tried q_hk_history q_hk_board q_hk_search q_hk_within q_hk_colouring q_hk_chances hk ++ (wRi g a_ri ri ++ [])) (wHK g a_hk q_hk_reader (a_ri 0) q_hk_now q_hk_tried q_hk_history q_hk_board q_hk_search q_hk_within q_hk_colouring q_hk_chances hk ++ (wRi g a_ri ri ++ [])) r_ := by
  refine start2 (y := yX11_isCrossing) (cc := cX11_isCrossing) (n := 2) (av := [.ref (a_hk 0), .int p1]) (ws := (wHK g a_hk q_hk_reader (a_ri 0) q_hk_now q_hk_tried q_hk_history q_hk_board q_hk_search q_hk_within q_hk_colouring q_hk_chances hk ++ (wRi g a_ri ri ++ []))) (Qc := fun sz => QI g (wHK g a_hk q_hk_reader (a_ri 0) q_hk_now q_hk_tried q_hk_history q_hk_board q_hk_search q_hk_within q_hk_colouring q_hk_chances hk ++ (wRi g a_ri ri ++ [])) (wHK g a_hk q_hk_reader (a_ri 0) q_hk_now q_hk_tried q_hk_history q_hk_board q_hk_search q_hk_within q_hk_colouring q_hk_chances hk ++ (wRi g a_ri ri ++ [])) r_ sz) (by decide) rfl ?_
  intro p e s m args below meth c ls Q A ha hQ hA X hl hI hin
  have X : Cx p s m args meth c cX11_isCrossing 2 RX11 (some .boolean) := X
  have hl : lv_has ls 2 [(0, .ref (a_hk 0)), (1, .int p1)] := hl
  obtain ⟨hx, hb, hml, hown, ht, hr, hlk⟩ := id X
  clear ha hin
  unfold f_X11_isCrossing at hf
  refine lv_aload_n hx hb dX11_isCrossing_0 rfl (lv_at hl 0 rfl) ?_
  refine g_HK_there X hI has_HK.l (X.fl w_686) dX11_isCrossing_1 ?_
  refine lv_if_eq (tgt := 26) hx hb dX11_isCrossing_4 (by decide) (fun h_ => ?_) (fun h_ => ?_)
  · replace hf := if_t h_ hf
    refine lv_iconst (v := 0) hx hb dX11_isCrossing_26 (by decide) ?_
    cases hf
    exact end_z hQ hA X hI rfl dX11_isCrossing_27
  · replace hf := if_f h_ hf
    refine lv_iload_n hx hb dX11_isCrossing_7 rfl (lv_at hl 1 rfl) ?_
    refine lv_if_lt (tgt := 26) hx hb dX11_isCrossing_8 (by decide) (fun h_ => ?_) (fun h_ => ?_)
    · replace hf := if_t h_ hf
      refine lv_iconst (v := 0) hx hb dX11_isCrossing_26 (by decide) ?_
      cases hf
      exact end_z hQ hA X hI rfl dX11_isCrossing_27
    · replace hf := if_f h_ hf
      refine lv_iload_n hx hb dX11_isCrossing_11 rfl (lv_at hl 1 rfl) ?_
      refine lv_aload_n hx hb dX11_isCrossing_12 rfl (lv_at hl 0 rfl) ?_
      refine g_HK_rings X hI has_HK.l (X.fl w_677) dX11_isCrossing_13 ?_
      refine g_Ri_crossings X hI has_Ri.l.r (hI.fn (List.mem_of_getElem? (i := 32) rfl)) dX11_isCrossing_16 ?_
      refine lv_icmp_ge (tgt := 26) hx hb dX11_isCrossing_19 (by decide) (fun h_ => ?_) (fun h_ => ?_)
      · replace hf := if_t h_ hf
        refine lv_iconst (v := 0) hx hb dX11_isCrossing_26 (by decide) ?_
        cases hf
        exact end_z hQ hA X hI rfl dX11_isCrossing_27
      · replace hf := if_f h_ hf
        refine lv_iconst (v := 1) hx hb dX11_isCrossing_22 (by decide) ?_
        refine lv_goto (tgt := 27) hx hb dX11_isCrossing_23 (by decide) ?_
        cases hf
        exact end_z hQ hA X hI rfl dX11_isCrossing_27
abbrev rm_X11_isStanding : Room := { frames := 0, cells := 0, slots := 0, locals := 0 }
set_option maxRecDepth 20000 in
theorem c_X11_isStanding (l : Launch) (g : GT) (a_hk : Nat → Nat) (a_ri : Nat → Nat) (q_hk_reader : Nat) (q_hk_now : Nat) (q_hk_tried : Nat) (q_hk_history : Nat) (q_hk_board : Nat) (q_hk_search : Nat) (q_hk_within : Nat) (q_hk_colouring : Nat) (q_hk_chances : Nat) (hk : HKS) (ri : RiS) (p1 : Int32) (r_ : Int32) (hf : f_X11_isStanding hk ri p1 = some (r_)) : CI l yX11_isStanding cX11_isStanding 2 (some .boolean) rm_X11_isStanding g [.ref (a_hk 0), .int p1] (wHK g a_hk q_hk_reader (a_ri 0) q_hk_now q_hk_tried q_hk_history q_hk_board q_hk_search q_hk_within q_hk_colouring q_hk_chances hk ++ (wRi g a_ri ri ++ [])) (wHK g a_hk q_hk_reader (a_ri 0) q_hk_now q_hk_tried q_hk_history q_hk_board q_hk_search q_hk_within q_hk_colouring q_hk_chances hk ++ (wRi g a_ri ri ++ [])) r_ := by
  refine start2 (y := yX11_isStanding) (cc := cX11_isStanding) (n := 2) (av := [.ref (a_hk 0), .int p1]) (ws := (wHK g a_hk q_hk_reader (a_ri 0) q_hk_now q_hk_tried q_hk_history q_hk_board q_hk_search q_hk_within q_hk_colouring q_hk_chances hk ++ (wRi g a_ri ri ++ []))) (Qc := fun sz => QI g (wHK g a_hk q_hk_reader (a_ri 0) q_hk_now q_hk_tried q_hk_history q_hk_board q_hk_search q_hk_within q_hk_colouring q_hk_chances hk ++ (wRi g a_ri ri ++ [])) (wHK g a_hk q_hk_reader (a_ri 0) q_hk_now q_hk_tried q_hk_history q_hk_board q_hk_search q_hk_within q_hk_colouring q_hk_chances hk ++ (wRi g a_ri ri ++ [])) r_ sz) (by decide) rfl ?_
  intro p e s m args below meth c ls Q A ha hQ hA X hl hI hin
  have X : Cx p s m args meth c cX11_isStanding 2 RX11 (some .boolean) := X
  have hl : lv_has ls 2 [(0, .ref (a_hk 0)), (1, .int p1)] := hl
  obtain ⟨hx, hb, hml, hown, ht, hr, hlk⟩ := id X
  clear ha hin
  unfold f_X11_isStanding at hf
  refine lv_aload_n hx hb dX11_isStanding_0 rfl (lv_at hl 0 rfl) ?_
  refine g_HK_there X hI has_HK.l (X.fl w_686) dX11_isStanding_1 ?_
  refine lv_if_eq (tgt := 26) hx hb dX11_isStanding_4 (by decide) (fun h_ => ?_) (fun h_ => ?_)
  · replace hf := if_t h_ hf
    refine lv_iconst (v := 0) hx hb dX11_isStanding_26 (by decide) ?_
    cases hf
    exact end_z hQ hA X hI rfl dX11_isStanding_27
  · replace hf := if_f h_ hf
    refine lv_iload_n hx hb dX11_isStanding_7 rfl (lv_at hl 1 rfl) ?_
    refine lv_if_lt (tgt := 26) hx hb dX11_isStanding_8 (by decide) (fun h_ => ?_) (fun h_ => ?_)
    · replace hf := if_t h_ hf
      refine lv_iconst (v := 0) hx hb dX11_isStanding_26 (by decide) ?_
      cases hf
      exact end_z hQ hA X hI rfl dX11_isStanding_27
    · replace hf := if_f h_ hf
      refine lv_iload_n hx hb dX11_isStanding_11 rfl (lv_at hl 1 rfl) ?_
      refine lv_aload_n hx hb dX11_isStanding_12 rfl (lv_at hl 0 rfl) ?_
      refine g_HK_rings X hI has_HK.l (X.fl w_677) dX11_isStanding_13 ?_
      refine g_Ri_standings X hI has_Ri.l.r (hI.fn (List.mem_of_getElem? (i := 34) rfl)) dX11_isStanding_16 ?_
      refine lv_icmp_ge (tgt := 26) hx hb dX11_isStanding_19 (by decide) (fun h_ => ?_) (fun h_ => ?_)
      · replace hf := if_t h_ hf
        refine lv_iconst (v := 0) hx hb dX11_isStanding_26 (by decide) ?_
        cases hf
        exact end_z hQ hA X hI rfl dX11_isStanding_27
      · replace hf := if_f h_ hf
        refine lv_iconst (v := 1) hx hb dX11_isStanding_22 (by decide) ?_
        refine lv_goto (tgt := 27) hx hb dX11_isStanding_23 (by decide) ?_
        cases hf
        exact end_z hQ hA X hI rfl dX11_isStanding_27
abbrev rm_X11_isMove : Room := { frames := 2, cells := 0, slots := 0, locals := 44 }
set_option maxRecDepth 20000 in
theorem c_X11_isMove (l : Launch) (g : GT) (a_hk : Nat → Nat) (a_ri : Nat → Nat) (q_hk_reader : Nat) (q_hk_now : Nat) (q_hk_tried : Nat) (q_hk_history : Nat) (q_hk_board : Nat) (q_hk_search : Nat) (q_hk_within : Nat) (q_hk_colouring : Nat) (q_hk_chances : Nat) (hk : HKS) (ri : RiS) (p1 : Int32) (r_ : Int32) (hf : f_X11_isMove hk ri p1 = some (r_)) : CI l yX11_isMove cX11_isMove 2 (some .boolean) rm_X11_isMove g [.ref (a_hk 0), .int p1] (wHK g a_hk q_hk_reader (a_ri 0) q_hk_now q_hk_tried q_hk_history q_hk_board q_hk_search q_hk_within q_hk_colouring q_hk_chances hk ++ (wRi g a_ri ri ++ [])) (wHK g a_hk q_hk_reader (a_ri 0) q_hk_now q_hk_tried q_hk_history q_hk_board q_hk_search q_hk_within q_hk_colouring q_hk_chances hk ++ (wRi g a_ri ri ++ [])) r_ := by
  refine start2 (y := yX11_isMove) (cc := cX11_isMove) (n := 2) (av := [.ref (a_hk 0), .int p1]) (ws := (wHK g a_hk q_hk_reader (a_ri 0) q_hk_now q_hk_tried q_hk_history q_hk_board q_hk_search q_hk_within q_hk_colouring q_hk_chances hk ++ (wRi g a_ri ri ++ []))) (Qc := fun sz => QI g (wHK g a_hk q_hk_reader (a_ri 0) q_hk_now q_hk_tried q_hk_history q_hk_board q_hk_search q_hk_within q_hk_colouring q_hk_chances hk ++ (wRi g a_ri ri ++ [])) (wHK g a_hk q_hk_reader (a_ri 0) q_hk_now q_hk_tried q_hk_history q_hk_board q_hk_search q_hk_within q_hk_colouring q_hk_chances hk ++ (wRi g a_ri ri ++ [])) r_ sz) (by decide) rfl ?_
  intro p e s m args below meth c ls Q A ha hQ hA X hl hI hin
  have X : Cx p s m args meth c cX11_isMove 2 RX11 (some .boolean) := X
  have hl : lv_has ls 2 [(0, .ref (a_hk 0)), (1, .int p1)] := hl
  obtain ⟨hx, hb, hml, hown, ht, hr, hlk⟩ := id X
  clear ha hin
  unfold f_X11_isMove at hf
  refine lv_aload_n hx hb dX11_isMove_0 rfl (lv_at hl 0 rfl) ?_
  refine g_HK_there X hI has_HK.l (X.fl w_686) dX11_isMove_1 ?_
  refine lv_if_eq (tgt := 25) hx hb dX11_isMove_4 (by decide) (fun h_ => ?_) (fun h_ => ?_)
  · replace hf := if_t h_ hf
    refine lv_iconst (v := 0) hx hb dX11_isMove_25 (by decide) ?_
    cases hf
    exact end_z hQ hA X hI rfl dX11_isMove_26
  · replace hf := if_f h_ hf
    refine lv_iload_n hx hb dX11_isMove_7 rfl (lv_at hl 1 rfl) ?_
    refine lv_aload_n hx hb dX11_isMove_8 rfl (lv_at hl 0 rfl) ?_
    refine g_HK_rings X hI has_HK.l (X.fl w_677) dX11_isMove_9 ?_
    refine g_Ri_crossings X hI has_Ri.l.r (hI.fn (List.mem_of_getElem? (i := 32) rfl)) dX11_isMove_12 ?_
    obtain ⟨r_1, hc_, hf⟩ := bd1_some hf
    refine call_Si X hI Cj.nil (c_X0_isNumber l g p1 (Ri_crossings ri) r_1 hc_) ⟨rfl, rfl⟩ ⟨ht _ w_1093, w_1095, ht _ w_150, lk_X0_isNumber⟩ w_1094 rfl hl rfl rfl dX11_isMove_15 rfl rfl rfl rfl (fun H locs hI => ?_)
    refine lv_if_eq (tgt := 25) hx hb dX11_isMove_18 (by decide) (fun h_ => ?_) (fun h_ => ?_)
    · replace hf := if_t h_ hf
      refine lv_iconst (v := 0) hx hb dX11_isMove_25 (by decide) ?_
      cases hf
      exact end_z hQ hA X hI rfl dX11_isMove_26
    · replace hf := if_f h_ hf
      refine lv_iconst (v := 1) hx hb dX11_isMove_21 (by decide) ?_
      refine lv_goto (tgt := 26) hx hb dX11_isMove_22 (by decide) ?_
      cases hf
      exact end_z hQ hA X hI rfl dX11_isMove_26
abbrev rm_X11_isDepth : Room := { frames := 0, cells := 0, slots := 0, locals := 0 }
set_option maxRecDepth 20000 in
theorem c_X11_isDepth (l : Launch) (g : GT) (p0 : Int32) (r_ : Int32) (hf : f_X11_isDepth p0 = some (r_)) : CI l yX11_isDepth cX11_isDepth 1 (some .boolean) rm_X11_isDepth g [.int p0] ([]) ([]) r_ := by
  refine start2 (y := yX11_isDepth) (cc := cX11_isDepth) (n := 1) (av := [.int p0]) (ws := ([])) (Qc := fun sz => QI g ([]) ([]) r_ sz) (by decide) rfl ?_
  intro p e s m args below meth c ls Q A ha hQ hA X hl hI hin
  have X : Cx p s m args meth c cX11_isDepth 1 RX11 (some .boolean) := X
  have hl : lv_has ls 1 [(0, .int p0)] := hl
  obtain ⟨hx, hb, hml, hown, ht, hr, hlk⟩ := id X
  clear ha hin
  unfold f_X11_isDepth at hf
  refine lv_iload_n hx hb dX11_isDepth_0 rfl (lv_at hl 0 rfl) ?_
  refine lv_if_lt (tgt := 14) hx hb dX11_isDepth_1 (by decide) (fun h_ => ?_) (fun h_ => ?_)
  · replace hf := if_t h_ hf
    refine lv_iconst (v := 0) hx hb dX11_isDepth_14 (by decide) ?_
    cases hf
    exact end_z hQ hA X hI rfl dX11_isDepth_15
  · replace hf := if_f h_ hf
    refine lv_iload_n hx hb dX11_isDepth_4 rfl (lv_at hl 0 rfl) ?_
    refine lv_bipush (v := 8) hx hb dX11_isDepth_5 (by decide) ?_
    refine lv_icmp_gt (tgt := 14) hx hb dX11_isDepth_7 (by decide) (fun h_ => ?_) (fun h_ => ?_)
    · replace hf := if_t h_ hf
      refine lv_iconst (v := 0) hx hb dX11_isDepth_14 (by decide) ?_
      cases hf
      exact end_z hQ hA X hI rfl dX11_isDepth_15
    · replace hf := if_f h_ hf
      refine lv_iconst (v := 1) hx hb dX11_isDepth_10 (by decide) ?_
      refine lv_goto (tgt := 15) hx hb dX11_isDepth_11 (by decide) ?_
      cases hf
      exact end_z hQ hA X hI rfl dX11_isDepth_15
abbrev rm_X11_isSeed : Room := { frames := 0, cells := 0, slots := 0, locals := 0 }
set_option maxRecDepth 20000 in
theorem c_X11_isSeed (l : Launch) (g : GT) (p0 : Int32) (r_ : Int32) (hf : f_X11_isSeed p0 = some (r_)) : CI l yX11_isSeed cX11_isSeed 1 (some .boolean) rm_X11_isSeed g [.int p0] ([]) ([]) r_ := by
  refine start2 (y := yX11_isSeed) (cc := cX11_isSeed) (n := 1) (av := [.int p0]) (ws := ([])) (Qc := fun sz => QI g ([]) ([]) r_ sz) (by decide) rfl ?_
  intro p e s m args below meth c ls Q A ha hQ hA X hl hI hin
  have X : Cx p s m args meth c cX11_isSeed 1 RX11 (some .boolean) := X
  have hl : lv_has ls 1 [(0, .int p0)] := hl
  obtain ⟨hx, hb, hml, hown, ht, hr, hlk⟩ := id X
  clear ha hin
  unfold f_X11_isSeed at hf
  refine lv_iload_n hx hb dX11_isSeed_0 rfl (lv_at hl 0 rfl) ?_
  refine lv_if_lt (tgt := 14) hx hb dX11_isSeed_1 (by decide) (fun h_ => ?_) (fun h_ => ?_)
  · replace hf := if_t h_ hf
    refine lv_iconst (v := 0) hx hb dX11_isSeed_14 (by decide) ?_
    cases hf
    exact end_z hQ hA X hI rfl dX11_isSeed_15
  · replace hf := if_f h_ hf
    refine lv_iload_n hx hb dX11_isSeed_4 rfl (lv_at hl 0 rfl) ?_
    refine lv_ldc (v := 65537) hx hb hown (ht _ w_1365) dX11_isSeed_5 ?_
    refine lv_icmp_ge (tgt := 14) hx hb dX11_isSeed_7 (by decide) (fun h_ => ?_) (fun h_ => ?_)
    · replace hf := if_t h_ hf
      refine lv_iconst (v := 0) hx hb dX11_isSeed_14 (by decide) ?_
      cases hf
      exact end_z hQ hA X hI rfl dX11_isSeed_15
    · replace hf := if_f h_ hf
      refine lv_iconst (v := 1) hx hb dX11_isSeed_10 (by decide) ?_
      refine lv_goto (tgt := 15) hx hb dX11_isSeed_11 (by decide) ?_
      cases hf
      exact end_z hQ hA X hI rfl dX11_isSeed_15
abbrev rm_X11_feed : Room := { frames := 1, cells := 0, slots := 0, locals := 22 }
set_option maxRecDepth 20000 in
theorem c_X11_feed (l : Launch) (g : GT) (a_hk : Nat → Nat) (a_re : Nat → Nat) (a_ta : Nat → Nat) (q_hk_rings : Nat) (q_hk_now : Nat) (q_hk_tried : Nat) (q_hk_history : Nat) (q_hk_board : Nat) (q_hk_search : Nat) (q_hk_within : Nat) (q_hk_colouring : Nat) (q_hk_chances : Nat) (q_re_told : Nat) (hk : HKS) (re : ReS) (ta : TaS) (p1 : Int32) (p2 : Int32) (p3 : Int32) (p4 : Int32) (p5 : Int32) (r_ : Int32) (o_ta : TaS) (hf : f_X11_feed ta p1 p2 p3 p4 p5 = some (r_, o_ta)) : CI l yX11_feed cX11_feed 6 (some .int) rm_X11_feed g [.ref (a_hk 0), .int p1, .int p2, .int p3, .int p4, .int p5] (wHK g a_hk (a_re 0) q_hk_rings q_hk_now q_hk_tried q_hk_history q_hk_board q_hk_search q_hk_within q_hk_colouring q_hk_chances hk ++ (wRe g a_re (a_ta 0) q_re_told re ++ (wTa g a_ta ta ++ []))) (wHK g a_hk (a_re 0) q_hk_rings q_hk_now q_hk_tried q_hk_history q_hk_board q_hk_search q_hk_within q_hk_colouring q_hk_chances hk ++ (wRe g a_re (a_ta 0) q_re_told re ++ (wTa g a_ta o_ta ++ []))) r_ := by
  refine start2 (y := yX11_feed) (cc := cX11_feed) (n := 6) (av := [.ref (a_hk 0), .int p1, .int p2, .int p3, .int p4, .int p5]) (ws := (wHK g a_hk (a_re 0) q_hk_rings q_hk_now q_hk_tried q_hk_history q_hk_board q_hk_search q_hk_within q_hk_colouring q_hk_chances hk ++ (wRe g a_re (a_ta 0) q_re_told re ++ (wTa g a_ta ta ++ [])))) (Qc := fun sz => QI g (wHK g a_hk (a_re 0) q_hk_rings q_hk_now q_hk_tried q_hk_history q_hk_board q_hk_search q_hk_within q_hk_colouring q_hk_chances hk ++ (wRe g a_re (a_ta 0) q_re_told re ++ (wTa g a_ta ta ++ []))) (wHK g a_hk (a_re 0) q_hk_rings q_hk_now q_hk_tried q_hk_history q_hk_board q_hk_search q_hk_within q_hk_colouring q_hk_chances hk ++ (wRe g a_re (a_ta 0) q_re_told re ++ (wTa g a_ta o_ta ++ []))) r_ sz) (by decide) rfl ?_
  intro p e s m args below meth c ls Q A ha hQ hA X hl hI hin
  have X : Cx p s m args meth c cX11_feed 6 RX11 (some .int) := X
  have hl : lv_has ls 6 [(0, .ref (a_hk 0)), (1, .int p1), (2, .int p2), (3, .int p3), (4, .int p4), (5, .int p5)] := hl
  obtain ⟨hx, hb, hml, hown, ht, hr, hlk⟩ := id X
  clear ha hin
  unfold f_X11_feed at hf
  refine lv_aload_n hx hb dX11_feed_0 rfl (lv_at hl 0 rfl) ?_
  refine g_HK_reader X hI has_HK.l (X.fl w_676) dX11_feed_1 ?_
  refine g_Re_tape X hI has_Re.l.r (hI.fn (List.mem_of_getElem? (i := 23) rfl)) dX11_feed_4 ?_
  obtain ⟨r_1, hc_, hf⟩ := bd1_some hf
  refine call_Vi X hI (Cj.skip (Cj.skip (Cj.keep Cj.id))) (c_X8_hasRoom l g a_ta ta r_1 hc_) ⟨rfl, rfl⟩ ⟨ht _ w_717, w_720, ht _ w_141, lk_X8_hasRoom⟩ w_718 w_719 rfl rfl rfl hl rfl rfl dX11_feed_7 rfl rfl rfl rfl (fun H locs hI => ?_)
  refine lv_if_ne (tgt := 15) hx hb dX11_feed_10 (by decide) (fun h_ => ?_) (fun h_ => ?_)
  · replace hf := if_f h_ hf
    refine lv_aload_n hx hb dX11_feed_15 rfl (lv_at hl 0 rfl) ?_
    refine g_HK_reader X hI has_HK.l (X.fl w_676) dX11_feed_16 ?_
    refine g_Re_tape X hI has_Re.l.r (hI.fn (List.mem_of_getElem? (i := 23) rfl)) dX11_feed_19 ?_
    refine lv_iload_n hx hb dX11_feed_22 rfl (lv_at hl 1 rfl) ?_
    obtain ⟨ta_2, hc_, hf⟩ := bd1_some hf
    refine call_Vv X hI (Cj.skip (Cj.skip (Cj.keep Cj.id))) (c_X8_take l g a_ta ta p1 ta_2 hc_) ⟨rfl, rfl⟩ ⟨ht _ w_721, w_724, ht _ w_141, lk_X8_take⟩ w_722 w_723 rfl rfl rfl hl rfl rfl dX11_feed_23 rfl rfl rfl rfl (fun H locs hI => ?_)
    refine lv_aload_n hx hb dX11_feed_26 rfl (lv_at hl 0 rfl) ?_
    refine g_HK_reader X hI has_HK.l (X.fl w_676) dX11_feed_27 ?_
    refine g_Re_tape X hI has_Re.l.r (hI.fn (List.mem_of_getElem? (i := 23) rfl)) dX11_feed_30 ?_
    refine lv_iload_n hx hb dX11_feed_33 rfl (lv_at hl 2 rfl) ?_
    obtain ⟨ta_3, hc_, hf⟩ := bd1_some hf
    refine call_Vv X hI (Cj.skip (Cj.skip (Cj.keep Cj.id))) (c_X8_take l g a_ta ta_2 p2 ta_3 hc_) ⟨rfl, rfl⟩ ⟨ht _ w_721, w_724, ht _ w_141, lk_X8_take⟩ w_722 w_723 rfl rfl rfl hl rfl rfl dX11_feed_34 rfl rfl rfl rfl (fun H locs hI => ?_)
    refine lv_aload_n hx hb dX11_feed_37 rfl (lv_at hl 0 rfl) ?_
    refine g_HK_reader X hI has_HK.l (X.fl w_676) dX11_feed_38 ?_
    refine g_Re_tape X hI has_Re.l.r (hI.fn (List.mem_of_getElem? (i := 23) rfl)) dX11_feed_41 ?_
    refine lv_iload_n hx hb dX11_feed_44 rfl (lv_at hl 3 rfl) ?_
    obtain ⟨ta_4, hc_, hf⟩ := bd1_some hf
    refine call_Vv X hI (Cj.skip (Cj.skip (Cj.keep Cj.id))) (c_X8_take l g a_ta ta_3 p3 ta_4 hc_) ⟨rfl, rfl⟩ ⟨ht _ w_721, w_724, ht _ w_141, lk_X8_take⟩ w_722 w_723 rfl rfl rfl hl rfl rfl dX11_feed_45 rfl rfl rfl rfl (fun H locs hI => ?_)
    refine lv_aload_n hx hb dX11_feed_48 rfl (lv_at hl 0 rfl) ?_
    refine g_HK_reader X hI has_HK.l (X.fl w_676) dX11_feed_49 ?_
    refine g_Re_tape X hI has_Re.l.r (hI.fn (List.mem_of_getElem? (i := 23) rfl)) dX11_feed_52 ?_
    refine lv_iload hx hb dX11_feed_55 (lv_at hl 4 rfl) ?_
    obtain ⟨ta_5, hc_, hf⟩ := bd1_some hf
    refine call_Vv X hI (Cj.skip (Cj.skip (Cj.keep Cj.id))) (c_X8_take l g a_ta ta_4 p4 ta_5 hc_) ⟨rfl, rfl⟩ ⟨ht _ w_721, w_724, ht _ w_141, lk_X8_take⟩ w_722 w_723 rfl rfl rfl hl rfl rfl dX11_feed_57 rfl rfl rfl rfl (fun H locs hI => ?_)
    refine lv_aload_n hx hb dX11_feed_60 rfl (lv_at hl 0 rfl) ?_
    refine g_HK_reader X hI has_HK.l (X.fl w_676) dX11_feed_61 ?_
    refine g_Re_tape X hI has_Re.l.r (hI.fn (List.mem_of_getElem? (i := 23) rfl)) dX11_feed_64 ?_
    refine lv_iload hx hb dX11_feed_67 (lv_at hl 5 rfl) ?_
    obtain ⟨ta_6, hc_, hf⟩ := bd1_some hf
    refine call_Vv X hI (Cj.skip (Cj.skip (Cj.keep Cj.id))) (c_X8_take l g a_ta ta_5 p5 ta_6 hc_) ⟨rfl, rfl⟩ ⟨ht _ w_721, w_724, ht _ w_141, lk_X8_take⟩ w_722 w_723 rfl rfl rfl hl rfl rfl dX11_feed_69 rfl rfl rfl rfl (fun H locs hI => ?_)
    refine lv_aload_n hx hb dX11_feed_72 rfl (lv_at hl 0 rfl) ?_
    refine g_HK_reader X hI has_HK.l (X.fl w_676) dX11_feed_73 ?_
    refine g_Re_tape X hI has_Re.l.r (hI.fn (List.mem_of_getElem? (i := 23) rfl)) dX11_feed_76 ?_
    refine g_Ta_filled X hI has_Ta.l.r.r (hI.fn (List.mem_of_getElem? (i := 0) rfl)) dX11_feed_79 ?_
    cases hf
    exact end_i hQ hA X hI dX11_feed_82
  · replace hf := if_t h_ hf
    refine lv_iconst (v := (-1)) hx hb dX11_feed_13 (by decide) ?_
    cases hf
    exact end_i hQ hA X hI dX11_feed_14
abbrev rm_X11_tangle : Room := { frames := 7, cells := 0, slots := 0, locals := 153 }
set_option maxRecDepth 20000 in
theorem c_X11_tangle (l : Launch) (g : GT) (a_hk : Nat → Nat) (a_re : Nat → Nat) (a_ta : Nat → Nat) (a_bo : Nat → Nat) (a_hi : Nat → Nat) (a_now : Nat → Nat) (a_ri : Nat → Nat) (a_to : Nat → Nat) (q_hk_tried : Nat) (q_hk_search : Nat) (q_hk_within : Nat) (q_hk_colouring : Nat) (q_hk_chances : Nat) (hk : HKS) (re : ReS) (ta : TaS) (bo : BoS) (hi : HiS) (now : MoS) (ri : RiS) (to : ToS) (p1 : Int32) (r_ : Int32) (o_hk : HKS) (o_re : ReS) (o_ta : TaS) (o_bo : BoS) (o_hi : HiS) (o_now : MoS) (o_ri : RiS) (o_to : ToS) (hf : f_X11_tangle hk re ta bo hi now ri to p1 = some (r_, o_hk, o_re, o_ta, o_bo, o_hi, o_now, o_ri, o_to)) : CI l yX11_tangle cX11_tangle 2 (some .int) rm_X11_tangle g [.ref (a_hk 0), .int p1] (wHK g a_hk (a_re 0) (a_ri 0) (a_now 0) q_hk_tried (a_hi 0) (a_bo 0) q_hk_search q_hk_within q_hk_colouring q_hk_chances hk ++ (wRe g a_re (a_ta 0) (a_to 0) re ++ (wTa g a_ta ta ++ (wBo g a_bo (a_ri 0) bo ++ (wHi g a_hi hi ++ (wMo g a_now now ++ (wRi g a_ri ri ++ (wTo g a_to to ++ [])))))))) (wHK g a_hk (a_re 0) (a_ri 0) (a_now 0) q_hk_tried (a_hi 0) (a_bo 0) q_hk_search q_hk_within q_hk_colouring q_hk_chances o_hk ++ (wRe g a_re (a_ta 0) (a_to 0) o_re ++ (wTa g a_ta o_ta ++ (wBo g a_bo (a_ri 0) o_bo ++ (wHi g a_hi o_hi ++ (wMo g a_now o_now ++ (wRi g a_ri o_ri ++ (wTo g a_to o_to ++ [])))))))) r_ := by
  refine start2 (y := yX11_tangle) (cc := cX11_tangle) (n := 2) (av := [.ref (a_hk 0), .int p1]) (ws := (wHK g a_hk (a_re 0) (a_ri 0) (a_now 0) q_hk_tried (a_hi 0) (a_bo 0) q_hk_search q_hk_within q_hk_colouring q_hk_chances hk ++ (wRe g a_re (a_ta 0) (a_to 0) re ++ (wTa g a_ta ta ++ (wBo g a_bo (a_ri 0) bo ++ (wHi g a_hi hi ++ (wMo g a_now now ++ (wRi g a_ri ri ++ (wTo g a_to to ++ []))))))))) (Qc := fun sz => QI g (wHK g a_hk (a_re 0) (a_ri 0) (a_now 0) q_hk_tried (a_hi 0) (a_bo 0) q_hk_search q_hk_within q_hk_colouring q_hk_chances hk ++ (wRe g a_re (a_ta 0) (a_to 0) re ++ (wTa g a_ta ta ++ (wBo g a_bo (a_ri 0) bo ++ (wHi g a_hi hi ++ (wMo g a_now now ++ (wRi g a_ri ri ++ (wTo g a_to to ++ [])))))))) (wHK g a_hk (a_re 0) (a_ri 0) (a_now 0) q_hk_tried (a_hi 0) (a_bo 0) q_hk_search q_hk_within q_hk_colouring q_hk_chances o_hk ++ (wRe g a_re (a_ta 0) (a_to 0) o_re ++ (wTa g a_ta o_ta ++ (wBo g a_bo (a_ri 0) o_bo ++ (wHi g a_hi o_hi ++ (wMo g a_now o_now ++ (wRi g a_ri o_ri ++ (wTo g a_to o_to ++ [])))))))) r_ sz) (by decide) rfl ?_
  intro p e s m args below meth c ls Q A ha hQ hA X hl hI hin
  have X : Cx p s m args meth c cX11_tangle 2 RX11 (some .int) := X
  have hl : lv_has ls 2 [(0, .ref (a_hk 0)), (1, .int p1)] := hl
  obtain ⟨hx, hb, hml, hown, ht, hr, hlk⟩ := id X
  clear ha hin
  have L_18 : ∀ (hk : HKS) (re : ReS) (ta : TaS) (bo : BoS) (hi : HiS) (now : MoS) (ri : RiS) (to : ToS) (H : Heap) (locs : List Loc) (ls : Array Slot), lv_has ls 2 [(0, .ref (a_hk 0))] → In g A s.heap s (wHK g a_hk (a_re 0) (a_ri 0) (a_now 0) q_hk_tried (a_hi 0) (a_bo 0) q_hk_search q_hk_within q_hk_colouring q_hk_chances hk ++ (wRe g a_re (a_ta 0) (a_to 0) re ++ (wTa g a_ta ta ++ (wBo g a_bo (a_ri 0) bo ++ (wHi g a_hi hi ++ (wMo g a_now now ++ (wRi g a_ri ri ++ (wTo g a_to to ++ [])))))))) H locs → f_X11_tangle_L18 hk re ta bo hi now ri to = some (r_, o_hk, o_re, o_ta, o_bo, o_hi, o_now, o_ri, o_to) → W p l e rm_X11_tangle s m args below meth c H locs 0 0 Q (F0 m 18 ls []) := by
    intro hk re ta bo hi now ri to H locs ls hl hI hf
    unfold f_X11_tangle_L18 at hf
    refine lv_aload_n hx hb dX11_tangle_18 rfl (lv_at hl 0 rfl) ?_
    refine lv_iconst (v := 2) hx hb dX11_tangle_19 (by decide) ?_
    obtain ⟨r_14, hk_15, hc_, hf⟩ := bd2_some hf
    refine call_Vi X hI (Cj.keep Cj.nil) (c_X11_refuse l g a_hk (a_re 0) (a_ri 0) (a_now 0) q_hk_tried (a_hi 0) (a_bo 0) q_hk_search q_hk_within q_hk_colouring q_hk_chances hk (2 : Int32) r_14 hk_15 hc_) ⟨rfl, rfl⟩ ⟨ht _ w_729, w_732, ht _ w_139, lk_X11_refuse⟩ w_731 w_0 rfl rfl rfl hl rfl rfl dX11_tangle_20 rfl rfl rfl rfl (fun H locs hI => ?_)
    cases hf
    exact end_i hQ hA X hI dX11_tangle_23
  unfold f_X11_tangle at hf
  refine lv_iload_n hx hb dX11_tangle_0 rfl (lv_at hl 1 rfl) ?_
  refine lv_if_lt (tgt := 18) hx hb dX11_tangle_1 (by decide) (fun h_ => ?_) (fun h_ => ?_)
  · replace hf := if_t h_ hf
    exact L_18 hk re ta bo hi now ri to _ _ _ (lv_sub hl [0] rfl) hI hf
  · replace hf := if_f h_ hf
    refine lv_iload_n hx hb dX11_tangle_4 rfl (lv_at hl 1 rfl) ?_
    refine lv_aload_n hx hb dX11_tangle_5 rfl (lv_at hl 0 rfl) ?_
    refine g_HK_reader X hI has_HK.l (X.fl w_676) dX11_tangle_6 ?_
    refine g_Re_tape X hI has_Re.l.r (hI.fn (List.mem_of_getElem? (i := 23) rfl)) dX11_tangle_9 ?_
    refine g_Ta_filled X hI has_Ta.l.r.r (hI.fn (List.mem_of_getElem? (i := 0) rfl)) dX11_tangle_12 ?_
    refine lv_icmp_le (tgt := 24) hx hb dX11_tangle_15 (by decide) (fun h_ => ?_) (fun h_ => ?_)
    · replace hf := if_t h_ hf
      refine lv_aload_n hx hb dX11_tangle_24 rfl (lv_at hl 0 rfl) ?_
      refine g_HK_reader X hI has_HK.l (X.fl w_676) dX11_tangle_25 ?_
      refine lv_iload_n hx hb dX11_tangle_28 rfl (lv_at hl 1 rfl) ?_
      obtain ⟨r_1, re_2, ta_3, to_4, hc_, hf⟩ := bd4_some hf
      refine call_Vi X hI (Cj.skip (Cj.keep (Cj.keep (Cj.skip (Cj.skip (Cj.skip (Cj.skip (Cj.keep Cj.id)))))))) (c_X5_reads l g a_re a_ta a_to re ta to p1 r_1 re_2 ta_3 to_4 hc_) ⟨rfl, rfl⟩ ⟨ht _ w_733, w_736, ht _ w_140, lk_X5_reads⟩ w_734 w_735 rfl rfl rfl hl rfl rfl dX11_tangle_29 rfl rfl rfl rfl (fun H locs hI => ?_)
      refine lv_if_ne (tgt := 41) hx hb dX11_tangle_32 (by decide) (fun h_ => ?_) (fun h_ => ?_)
      · replace hf := if_f h_ hf
        refine lv_aload_n hx hb dX11_tangle_41 rfl (lv_at hl 0 rfl) ?_
        refine g_HK_rings X hI has_HK.l (X.fl w_677) dX11_tangle_42 ?_
        refine lv_aload_n hx hb dX11_tangle_45 rfl (lv_at hl 0 rfl) ?_
        refine g_HK_reader X hI has_HK.l (X.fl w_676) dX11_tangle_46 ?_
        refine g_Re_told X hI has_Re.l.r (hI.fn (List.mem_of_getElem? (i := 24) rfl)) dX11_tangle_49 ?_
        obtain ⟨ri_5, hc_, hf⟩ := bd1_some hf
        refine call_Vv X hI (Cj.skip (Cj.skip (Cj.skip (Cj.skip (Cj.skip (Cj.skip (Cj.keep (Cj.keep Cj.id)))))))) (c_X6_trace l g a_ri a_to ri to_4 ri_5 hc_) ⟨rfl, rfl⟩ ⟨ht _ w_895, w_898, ht _ w_147, lk_X6_trace⟩ w_896 w_897 rfl rfl rfl hl rfl rfl dX11_tangle_52 rfl rfl rfl rfl (fun H locs hI => ?_)
        refine lv_aload_n hx hb dX11_tangle_55 rfl (lv_at hl 0 rfl) ?_
        refine lv_iconst (v := 1) hx hb dX11_tangle_56 (by decide) ?_
        refine p_HK_there X hI up_HK_there.l (X.fl w_686) (by decide) dX11_tangle_57 (fun H locs hI => ?_)
        generalize hz_ : (HK_there' hk (1 : Int32)) = hk_6 at hI hf
        clear hz_
        replace hf := lt_e hf
        refine lv_aload_n hx hb dX11_tangle_60 rfl (lv_at hl 0 rfl) ?_
        refine g_HK_history X hI has_HK.l (X.fl w_680) dX11_tangle_61 ?_
        obtain ⟨hi_7, hc_, hf⟩ := bd1_some hf
        refine call_Vv X hI (Cj.skip (Cj.skip (Cj.skip (Cj.skip (Cj.keep Cj.nil))))) (c_X3_clear l g a_hi hi hi_7 hc_) ⟨rfl, rfl⟩ ⟨ht _ w_928, w_931, ht _ w_149, lk_X3_clear⟩ w_929 w_930 rfl rfl rfl hl rfl rfl dX11_tangle_64 rfl rfl rfl rfl (fun H locs hI => ?_)
        refine lv_aload_n hx hb dX11_tangle_67 rfl (lv_at hl 0 rfl) ?_
        refine g_HK_now X hI has_HK.l (X.fl w_678) dX11_tangle_68 ?_
        refine lv_aload_n hx hb dX11_tangle_71 rfl (lv_at hl 0 rfl) ?_
        refine g_HK_rings X hI has_HK.l (X.fl w_677) dX11_tangle_72 ?_
        refine g_Ri_key X hI has_Ri.l.r.r.r.r.r.r (hI.fn (List.mem_of_getElem? (i := 39) rfl)) dX11_tangle_75 ?_
        refine lv_aload_n hx hb dX11_tangle_78 rfl (lv_at hl 0 rfl) ?_
        refine g_HK_rings X hI has_HK.l (X.fl w_677) dX11_tangle_79 ?_
        refine g_Ri_plus X hI has_Ri.l.r.r.r.r.r.r (hI.fn (List.mem_of_getElem? (i := 40) rfl)) dX11_tangle_82 ?_
        obtain ⟨now_8, hc_, hf⟩ := bd1_some hf
        refine call_Vv X hI (Cj.skip (Cj.skip (Cj.skip (Cj.skip (Cj.skip (Cj.keep Cj.nil)))))) (c_X4_begin l g a_now now (Ri_key ri_5) (Ri_plus ri_5) now_8 hc_) ⟨rfl, rfl⟩ ⟨ht _ w_932, w_935, ht _ w_148, lk_X4_begin⟩ w_933 w_934 rfl rfl rfl hl rfl rfl dX11_tangle_85 rfl rfl rfl rfl (fun H locs hI => ?_)
        refine lv_aload_n hx hb dX11_tangle_88 rfl (lv_at hl 0 rfl) ?_
        refine g_HK_board X hI has_HK.l (X.fl w_681) dX11_tangle_89 ?_
        refine lv_aload_n hx hb dX11_tangle_92 rfl (lv_at hl 0 rfl) ?_
        refine g_HK_now X hI has_HK.l (X.fl w_678) dX11_tangle_93 ?_
        obtain ⟨bo_9, hc_, hf⟩ := bd1_some hf
        refine call_Vv X hI (Cj.skip (Cj.skip (Cj.skip (Cj.keep (Cj.skip (Cj.keep (Cj.keep Cj.nil))))))) (c_X0_lay l g a_bo a_now a_ri bo now_8 ri_5 bo_9 hc_) ⟨rfl, rfl⟩ ⟨ht _ w_936, w_939, ht _ w_150, lk_X0_lay⟩ w_937 w_938 rfl rfl rfl hl rfl rfl dX11_tangle_96 rfl rfl rfl rfl (fun H locs hI => ?_)
        refine lv_aload_n hx hb dX11_tangle_99 rfl (lv_at hl 0 rfl) ?_
        refine lv_aload_n hx hb dX11_tangle_100 rfl (lv_at hl 0 rfl) ?_
        refine g_HK_rings X hI has_HK.l (X.fl w_677) dX11_tangle_101 ?_
        refine g_Ri_count X hI has_Ri.l.r.r.r.r.r.r (hI.fn (List.mem_of_getElem? (i := 35) rfl)) dX11_tangle_104 ?_
        obtain ⟨r_10, hk_11, hc_, hf⟩ := bd2_some hf
        refine call_Vi X hI (Cj.keep Cj.nil) (c_X11_grant l g a_hk (a_re 0) (a_ri 0) (a_now 0) q_hk_tried (a_hi 0) (a_bo 0) q_hk_search q_hk_within q_hk_colouring q_hk_chances hk_6 (Ri_count ri_5) r_10 hk_11 hc_) ⟨rfl, rfl⟩ ⟨ht _ w_995, w_998, ht _ w_139, lk_X11_grant⟩ w_997 w_37 rfl rfl rfl hl rfl rfl dX11_tangle_107 rfl rfl rfl rfl (fun H locs hI => ?_)
        cases hf
        exact end_i hQ hA X hI dX11_tangle_110
      · replace hf := if_t h_ hf
        refine lv_aload_n hx hb dX11_tangle_35 rfl (lv_at hl 0 rfl) ?_
        refine lv_iconst (v := 4) hx hb dX11_tangle_36 (by decide) ?_
        obtain ⟨r_12, hk_13, hc_, hf⟩ := bd2_some hf
        refine call_Vi X hI (Cj.keep Cj.nil) (c_X11_refuse l g a_hk (a_re 0) (a_ri 0) (a_now 0) q_hk_tried (a_hi 0) (a_bo 0) q_hk_search q_hk_within q_hk_colouring q_hk_chances hk (4 : Int32) r_12 hk_13 hc_) ⟨rfl, rfl⟩ ⟨ht _ w_729, w_732, ht _ w_139, lk_X11_refuse⟩ w_731 w_0 rfl rfl rfl hl rfl rfl dX11_tangle_37 rfl rfl rfl rfl (fun H locs hI => ?_)
        cases hf
        exact end_i hQ hA X hI dX11_tangle_40
    · replace hf := if_f h_ hf
      exact L_18 hk re ta bo hi now ri to _ _ _ (lv_sub hl [0] rfl) hI hf
abbrev rm_X11_fault : Room := { frames := 0, cells := 0, slots := 0, locals := 0 }
set_option maxRecDepth 20000 in
theorem c_X11_fault (l : Launch) (g : GT) (a_hk : Nat → Nat) (a_re : Nat → Nat) (q_hk_rings : Nat) (q_hk_now : Nat) (q_hk_tried : Nat) (q_hk_history : Nat) (q_hk_board : Nat) (q_hk_search : Nat) (q_hk_within : Nat) (q_hk_colouring : Nat) (q_hk_chances : Nat) (q_re_tape : Nat) (q_re_told : Nat) (hk : HKS) (re : ReS) (r_ : Int32) (hf : f_X11_fault re = some (r_)) : CI l yX11_fault cX11_fault 1 (some .int) rm_X11_fault g [.ref (a_hk 0)] (wHK g a_hk (a_re 0) q_hk_rings q_hk_now q_hk_tried q_hk_history q_hk_board q_hk_search q_hk_within q_hk_colouring q_hk_chances hk ++ (wRe g a_re q_re_tape q_re_told re ++ [])) (wHK g a_hk (a_re 0) q_hk_rings q_hk_now q_hk_tried q_hk_history q_hk_board q_hk_search q_hk_within q_hk_colouring q_hk_chances hk ++ (wRe g a_re q_re_tape q_re_told re ++ [])) r_ := by
  refine start2 (y := yX11_fault) (cc := cX11_fault) (n := 1) (av := [.ref (a_hk 0)]) (ws := (wHK g a_hk (a_re 0) q_hk_rings q_hk_now q_hk_tried q_hk_history q_hk_board q_hk_search q_hk_within q_hk_colouring q_hk_chances hk ++ (wRe g a_re q_re_tape q_re_told re ++ []))) (Qc := fun sz => QI g (wHK g a_hk (a_re 0) q_hk_rings q_hk_now q_hk_tried q_hk_history q_hk_board q_hk_search q_hk_within q_hk_colouring q_hk_chances hk ++ (wRe g a_re q_re_tape q_re_told re ++ [])) (wHK g a_hk (a_re 0) q_hk_rings q_hk_now q_hk_tried q_hk_history q_hk_board q_hk_search q_hk_within q_hk_colouring q_hk_chances hk ++ (wRe g a_re q_re_tape q_re_told re ++ [])) r_ sz) (by decide) rfl ?_
  intro p e s m args below meth c ls Q A ha hQ hA X hl hI hin
  have X : Cx p s m args meth c cX11_fault 1 RX11 (some .int) := X
  have hl : lv_has ls 1 [(0, .ref (a_hk 0))] := hl
  obtain ⟨hx, hb, hml, hown, ht, hr, hlk⟩ := id X
  clear ha hin
  unfold f_X11_fault at hf
  refine lv_aload_n hx hb dX11_fault_0 rfl (lv_at hl 0 rfl) ?_
  refine g_HK_reader X hI has_HK.l (X.fl w_676) dX11_fault_1 ?_
  refine g_Re_fault X hI has_Re.l.r (hI.fn (List.mem_of_getElem? (i := 25) rfl)) dX11_fault_4 ?_
  cases hf
  exact end_i hQ hA X hI dX11_fault_7
abbrev rm_X11_where : Room := { frames := 0, cells := 0, slots := 0, locals := 0 }
set_option maxRecDepth 20000 in
theorem c_X11_where (l : Launch) (g : GT) (a_hk : Nat → Nat) (a_re : Nat → Nat) (q_hk_rings : Nat) (q_hk_now : Nat) (q_hk_tried : Nat) (q_hk_history : Nat) (q_hk_board : Nat) (q_hk_search : Nat) (q_hk_within : Nat) (q_hk_colouring : Nat) (q_hk_chances : Nat) (q_re_tape : Nat) (q_re_told : Nat) (hk : HKS) (re : ReS) (r_ : Int32) (hf : f_X11_where hk re = some (r_)) : CI l yX11_where cX11_where 1 (some .int) rm_X11_where g [.ref (a_hk 0)] (wHK g a_hk (a_re 0) q_hk_rings q_hk_now q_hk_tried q_hk_history q_hk_board q_hk_search q_hk_within q_hk_colouring q_hk_chances hk ++ (wRe g a_re q_re_tape q_re_told re ++ [])) (wHK g a_hk (a_re 0) q_hk_rings q_hk_now q_hk_tried q_hk_history q_hk_board q_hk_search q_hk_within q_hk_colouring q_hk_chances hk ++ (wRe g a_re q_re_tape q_re_told re ++ [])) r_ := by
  refine start2 (y := yX11_where) (cc := cX11_where) (n := 1) (av := [.ref (a_hk 0)]) (ws := (wHK g a_hk (a_re 0) q_hk_rings q_hk_now q_hk_tried q_hk_history q_hk_board q_hk_search q_hk_within q_hk_colouring q_hk_chances hk ++ (wRe g a_re q_re_tape q_re_told re ++ []))) (Qc := fun sz => QI g (wHK g a_hk (a_re 0) q_hk_rings q_hk_now q_hk_tried q_hk_history q_hk_board q_hk_search q_hk_within q_hk_colouring q_hk_chances hk ++ (wRe g a_re q_re_tape q_re_told re ++ [])) (wHK g a_hk (a_re 0) q_hk_rings q_hk_now q_hk_tried q_hk_history q_hk_board q_hk_search q_hk_within q_hk_colouring q_hk_chances hk ++ (wRe g a_re q_re_tape q_re_told re ++ [])) r_ sz) (by decide) rfl ?_
  intro p e s m args below meth c ls Q A ha hQ hA X hl hI hin
  have X : Cx p s m args meth c cX11_where 1 RX11 (some .int) := X
  have hl : lv_has ls 1 [(0, .ref (a_hk 0))] := hl
  obtain ⟨hx, hb, hml, hown, ht, hr, hlk⟩ := id X
  clear ha hin
  unfold f_X11_where at hf
  refine lv_aload_n hx hb dX11_where_0 rfl (lv_at hl 0 rfl) ?_
  refine g_HK_trouble X hI has_HK.l (X.fl w_687) dX11_where_1 ?_
  refine lv_iconst (v := 4) hx hb dX11_where_4 (by decide) ?_
  refine lv_icmp_ne (tgt := 18) hx hb dX11_where_5 (by decide) (fun h_ => ?_) (fun h_ => ?_)
  · replace hf := if_f h_ hf
    refine lv_iconst (v := (-1)) hx hb dX11_where_18 (by decide) ?_
    cases hf
    exact end_i hQ hA X hI dX11_where_19
  · replace hf := if_t h_ hf
    refine lv_aload_n hx hb dX11_where_8 rfl (lv_at hl 0 rfl) ?_
    refine g_HK_reader X hI has_HK.l (X.fl w_676) dX11_where_9 ?_
    refine g_Re_place X hI has_Re.l.r (hI.fn (List.mem_of_getElem? (i := 26) rfl)) dX11_where_12 ?_
    refine lv_goto (tgt := 19) hx hb dX11_where_15 (by decide) ?_
    cases hf
    exact end_i hQ hA X hI dX11_where_19
abbrev rm_X11_ring : Room := { frames := 1, cells := 0, slots := 0, locals := 22 }
set_option maxRecDepth 20000 in
theorem c_X11_ring (l : Launch) (g : GT) (a_hk : Nat → Nat) (a_ri : Nat → Nat) (q_hk_reader : Nat) (q_hk_now : Nat) (q_hk_tried : Nat) (q_hk_history : Nat) (q_hk_board : Nat) (q_hk_search : Nat) (q_hk_within : Nat) (q_hk_colouring : Nat) (q_hk_chances : Nat) (hk : HKS) (ri : RiS) (p1 : Int32) (r_ : Int32) (o_hk : HKS) (hf : f_X11_ring hk ri p1 = some (r_, o_hk)) : CI l yX11_ring cX11_ring 2 (some .int) rm_X11_ring g [.ref (a_hk 0), .int p1] (wHK g a_hk q_hk_reader (a_ri 0) q_hk_now q_hk_tried q_hk_history q_hk_board q_hk_search q_hk_within q_hk_colouring q_hk_chances hk ++ (wRi g a_ri ri ++ [])) (wHK g a_hk q_hk_reader (a_ri 0) q_hk_now q_hk_tried q_hk_history q_hk_board q_hk_search q_hk_within q_hk_colouring q_hk_chances o_hk ++ (wRi g a_ri ri ++ [])) r_ := by
  refine start2 (y := yX11_ring) (cc := cX11_ring) (n := 2) (av := [.ref (a_hk 0), .int p1]) (ws := (wHK g a_hk q_hk_reader (a_ri 0) q_hk_now q_hk_tried q_hk_history q_hk_board q_hk_search q_hk_within q_hk_colouring q_hk_chances hk ++ (wRi g a_ri ri ++ []))) (Qc := fun sz => QI g (wHK g a_hk q_hk_reader (a_ri 0) q_hk_now q_hk_tried q_hk_history q_hk_board q_hk_search q_hk_within q_hk_colouring q_hk_chances hk ++ (wRi g a_ri ri ++ [])) (wHK g a_hk q_hk_reader (a_ri 0) q_hk_now q_hk_tried q_hk_history q_hk_board q_hk_search q_hk_within q_hk_colouring q_hk_chances o_hk ++ (wRi g a_ri ri ++ [])) r_ sz) (by decide) rfl ?_
  intro p e s m args below meth c ls Q A ha hQ hA X hl hI hin
  have X : Cx p s m args meth c cX11_ring 2 RX11 (some .int) := X
  have hl : lv_has ls 2 [(0, .ref (a_hk 0)), (1, .int p1)] := hl
  obtain ⟨hx, hb, hml, hown, ht, hr, hlk⟩ := id X
  clear ha hin
  unfold f_X11_ring at hf
  refine lv_aload_n hx hb dX11_ring_0 rfl (lv_at hl 0 rfl) ?_
  refine lv_iload_n hx hb dX11_ring_1 rfl (lv_at hl 1 rfl) ?_
  obtain ⟨r_1, hc_, hf⟩ := bd1_some hf
  refine call_Vi X hI (Cj.keep (Cj.keep Cj.id)) (c_X11_isPerson l g a_hk a_ri q_hk_reader q_hk_now q_hk_tried q_hk_history q_hk_board q_hk_search q_hk_within q_hk_colouring q_hk_chances hk ri p1 r_1 hc_) ⟨rfl, rfl⟩ ⟨ht _ w_1011, w_1014, ht _ w_139, lk_X11_isPerson⟩ w_1013 w_38 rfl rfl rfl hl rfl rfl dX11_ring_2 rfl rfl rfl rfl (fun H locs hI => ?_)
  refine lv_if_eq (tgt := 23) hx hb dX11_ring_5 (by decide) (fun h_ => ?_) (fun h_ => ?_)
  · replace hf := if_t h_ hf
    refine lv_aload_n hx hb dX11_ring_23 rfl (lv_at hl 0 rfl) ?_
    refine lv_iconst (v := 1) hx hb dX11_ring_24 (by decide) ?_
    obtain ⟨r_2, hk_3, hc_, hf⟩ := bd2_some hf
    refine call_Vi X hI (Cj.keep Cj.nil) (c_X11_refuse l g a_hk q_hk_reader (a_ri 0) q_hk_now q_hk_tried q_hk_history q_hk_board q_hk_search q_hk_within q_hk_colouring q_hk_chances hk (1 : Int32) r_2 hk_3 hc_) ⟨rfl, rfl⟩ ⟨ht _ w_729, w_732, ht _ w_139, lk_X11_refuse⟩ w_731 w_0 rfl rfl rfl hl rfl rfl dX11_ring_25 rfl rfl rfl rfl (fun H locs hI => ?_)
    cases hf
    exact end_i hQ hA X hI dX11_ring_28
  · replace hf := if_f h_ hf
    refine lv_aload_n hx hb dX11_ring_8 rfl (lv_at hl 0 rfl) ?_
    refine lv_aload_n hx hb dX11_ring_9 rfl (lv_at hl 0 rfl) ?_
    refine g_HK_rings X hI has_HK.l (X.fl w_677) dX11_ring_10 ?_
    refine lv_iload_n hx hb dX11_ring_13 rfl (lv_at hl 1 rfl) ?_
    obtain ⟨r_4, hc_, hf⟩ := bd1_some hf
    refine call_Vi X hI (Cj.skip (Cj.keep Cj.id)) (c_X6_ringWith l g a_ri ri p1 r_4 hc_) ⟨rfl, rfl⟩ ⟨ht _ w_1015, w_914, ht _ w_147, lk_X6_ringWith⟩ w_912 w_913 rfl rfl rfl hl rfl rfl dX11_ring_14 rfl rfl rfl rfl (fun H locs hI => ?_)
    obtain ⟨r_5, hk_6, hc_, hf⟩ := bd2_some hf
    refine call_Vi X hI (Cj.keep Cj.nil) (c_X11_grant l g a_hk q_hk_reader (a_ri 0) q_hk_now q_hk_tried q_hk_history q_hk_board q_hk_search q_hk_within q_hk_colouring q_hk_chances hk r_4 r_5 hk_6 hc_) ⟨rfl, rfl⟩ ⟨ht _ w_995, w_998, ht _ w_139, lk_X11_grant⟩ w_997 w_37 rfl rfl rfl hl rfl rfl dX11_ring_17 rfl rfl rfl rfl (fun H locs hI => ?_)
    refine lv_goto (tgt := 28) hx hb dX11_ring_20 (by decide) ?_
    cases hf
    exact end_i hQ hA X hI dX11_ring_28
abbrev rm_X11_people : Room := { frames := 1, cells := 0, slots := 0, locals := 21 }
set_option maxRecDepth 20000 in
theorem c_X11_people (l : Launch) (g : GT) (a_hk : Nat → Nat) (a_ri : Nat → Nat) (q_hk_reader : Nat) (q_hk_now : Nat) (q_hk_tried : Nat) (q_hk_history : Nat) (q_hk_board : Nat) (q_hk_search : Nat) (q_hk_within : Nat) (q_hk_colouring : Nat) (q_hk_chances : Nat) (hk : HKS) (ri : RiS) (p1 : Int32) (r_ : Int32) (o_hk : HKS) (hf : f_X11_people hk ri p1 = some (r_, o_hk)) : CI l yX11_people cX11_people 2 (some .int) rm_X11_people g [.ref (a_hk 0), .int p1] (wHK g a_hk q_hk_reader (a_ri 0) q_hk_now q_hk_tried q_hk_history q_hk_board q_hk_search q_hk_within q_hk_colouring q_hk_chances hk ++ (wRi g a_ri ri ++ [])) (wHK g a_hk q_hk_reader (a_ri 0) q_hk_now q_hk_tried q_hk_history q_hk_board q_hk_search q_hk_within q_hk_colouring q_hk_chances o_hk ++ (wRi g a_ri ri ++ [])) r_ := by
  refine start2 (y := yX11_people) (cc := cX11_people) (n := 2) (av := [.ref (a_hk 0), .int p1]) (ws := (wHK g a_hk q_hk_reader (a_ri 0) q_hk_now q_hk_tried q_hk_history q_hk_board q_hk_search q_hk_within q_hk_colouring q_hk_chances hk ++ (wRi g a_ri ri ++ []))) (Qc := fun sz => QI g (wHK g a_hk q_hk_reader (a_ri 0) q_hk_now q_hk_tried q_hk_history q_hk_board q_hk_search q_hk_within q_hk_colouring q_hk_chances hk ++ (wRi g a_ri ri ++ [])) (wHK g a_hk q_hk_reader (a_ri 0) q_hk_now q_hk_tried q_hk_history q_hk_board q_hk_search q_hk_within q_hk_colouring q_hk_chances o_hk ++ (wRi g a_ri ri ++ [])) r_ sz) (by decide) rfl ?_
  intro p e s m args below meth c ls Q A ha hQ hA X hl hI hin
  have X : Cx p s m args meth c cX11_people 2 RX11 (some .int) := X
  have hl : lv_has ls 2 [(0, .ref (a_hk 0)), (1, .int p1)] := hl
  obtain ⟨hx, hb, hml, hown, ht, hr, hlk⟩ := id X
  clear ha hin
  unfold f_X11_people at hf
  refine lv_aload_n hx hb dX11_people_0 rfl (lv_at hl 0 rfl) ?_
  refine lv_iload_n hx hb dX11_people_1 rfl (lv_at hl 1 rfl) ?_
  obtain ⟨r_1, hc_, hf⟩ := bd1_some hf
  refine call_Vi X hI (Cj.keep (Cj.keep Cj.id)) (c_X11_isRing l g a_hk a_ri q_hk_reader q_hk_now q_hk_tried q_hk_history q_hk_board q_hk_search q_hk_within q_hk_colouring q_hk_chances hk ri p1 r_1 hc_) ⟨rfl, rfl⟩ ⟨ht _ w_1020, w_1023, ht _ w_139, lk_X11_isRing⟩ w_1022 w_39 rfl rfl rfl hl rfl rfl dX11_people_2 rfl rfl rfl rfl (fun H locs hI => ?_)
  refine lv_if_eq (tgt := 23) hx hb dX11_people_5 (by decide) (fun h_ => ?_) (fun h_ => ?_)
  · replace hf := if_t h_ hf
    refine lv_aload_n hx hb dX11_people_23 rfl (lv_at hl 0 rfl) ?_
    refine lv_iconst (v := 1) hx hb dX11_people_24 (by decide) ?_
    obtain ⟨r_2, hk_3, hc_, hf⟩ := bd2_some hf
    refine call_Vi X hI (Cj.keep Cj.nil) (c_X11_refuse l g a_hk q_hk_reader (a_ri 0) q_hk_now q_hk_tried q_hk_history q_hk_board q_hk_search q_hk_within q_hk_colouring q_hk_chances hk (1 : Int32) r_2 hk_3 hc_) ⟨rfl, rfl⟩ ⟨ht _ w_729, w_732, ht _ w_139, lk_X11_refuse⟩ w_731 w_0 rfl rfl rfl hl rfl rfl dX11_people_25 rfl rfl rfl rfl (fun H locs hI => ?_)
    cases hf
    exact end_i hQ hA X hI dX11_people_28
  · replace hf := if_f h_ hf
    refine lv_aload_n hx hb dX11_people_8 rfl (lv_at hl 0 rfl) ?_
    refine lv_aload_n hx hb dX11_people_9 rfl (lv_at hl 0 rfl) ?_
    refine g_HK_rings X hI has_HK.l (X.fl w_677) dX11_people_10 ?_
    refine lv_iload_n hx hb dX11_people_13 rfl (lv_at hl 1 rfl) ?_
    obtain ⟨r_4, hc_, hf⟩ := bd1_some hf
    refine call_Vi X hI (Cj.skip (Cj.keep Cj.id)) (c_X6_peopleIn l g a_ri ri p1 r_4 hc_) ⟨rfl, rfl⟩ ⟨ht _ w_1024, w_1027, ht _ w_147, lk_X6_peopleIn⟩ w_1025 w_1026 rfl rfl rfl hl rfl rfl dX11_people_14 rfl rfl rfl rfl (fun H locs hI => ?_)
    obtain ⟨r_5, hk_6, hc_, hf⟩ := bd2_some hf
    refine call_Vi X hI (Cj.keep Cj.nil) (c_X11_grant l g a_hk q_hk_reader (a_ri 0) q_hk_now q_hk_tried q_hk_history q_hk_board q_hk_search q_hk_within q_hk_colouring q_hk_chances hk r_4 r_5 hk_6 hc_) ⟨rfl, rfl⟩ ⟨ht _ w_995, w_998, ht _ w_139, lk_X11_grant⟩ w_997 w_37 rfl rfl rfl hl rfl rfl dX11_people_17 rfl rfl rfl rfl (fun H locs hI => ?_)
    refine lv_goto (tgt := 28) hx hb dX11_people_20 (by decide) ?_
    cases hf
    exact end_i hQ hA X hI dX11_people_28
abbrev rm_X11_member : Room := { frames := 1, cells := 0, slots := 0, locals := 21 }
set_option maxRecDepth 20000 in
theorem c_X11_member (l : Launch) (g : GT) (a_hk : Nat → Nat) (a_ri : Nat → Nat) (q_hk_reader : Nat) (q_hk_now : Nat) (q_hk_tried : Nat) (q_hk_history : Nat) (q_hk_board : Nat) (q_hk_search : Nat) (q_hk_within : Nat) (q_hk_colouring : Nat) (q_hk_chances : Nat) (hk : HKS) (ri : RiS) (p1 : Int32) (p2 : Int32) (r_ : Int32) (o_hk : HKS) (hf : f_X11_member hk ri p1 p2 = some (r_, o_hk)) : CI l yX11_member cX11_member 3 (some .int) rm_X11_member g [.ref (a_hk 0), .int p1, .int p2] (wHK g a_hk q_hk_reader (a_ri 0) q_hk_now q_hk_tried q_hk_history q_hk_board q_hk_search q_hk_within q_hk_colouring q_hk_chances hk ++ (wRi g a_ri ri ++ [])) (wHK g a_hk q_hk_reader (a_ri 0) q_hk_now q_hk_tried q_hk_history q_hk_board q_hk_search q_hk_within q_hk_colouring q_hk_chances o_hk ++ (wRi g a_ri ri ++ [])) r_ := by
  refine start2 (y := yX11_member) (cc := cX11_member) (n := 3) (av := [.ref (a_hk 0), .int p1, .int p2]) (ws := (wHK g a_hk q_hk_reader (a_ri 0) q_hk_now q_hk_tried q_hk_history q_hk_board q_hk_search q_hk_within q_hk_colouring q_hk_chances hk ++ (wRi g a_ri ri ++ []))) (Qc := fun sz => QI g (wHK g a_hk q_hk_reader (a_ri 0) q_hk_now q_hk_tried q_hk_history q_hk_board q_hk_search q_hk_within q_hk_colouring q_hk_chances hk ++ (wRi g a_ri ri ++ [])) (wHK g a_hk q_hk_reader (a_ri 0) q_hk_now q_hk_tried q_hk_history q_hk_board q_hk_search q_hk_within q_hk_colouring q_hk_chances o_hk ++ (wRi g a_ri ri ++ [])) r_ sz) (by decide) rfl ?_
  intro p e s m args below meth c ls Q A ha hQ hA X hl hI hin
  have X : Cx p s m args meth c cX11_member 3 RX11 (some .int) := X
  have hl : lv_has ls 3 [(0, .ref (a_hk 0)), (1, .int p1), (2, .int p2)] := hl
  obtain ⟨hx, hb, hml, hown, ht, hr, hlk⟩ := id X
  clear ha hin
  have L_24 : ∀ (hk : HKS) (H : Heap) (locs : List Loc) (ls : Array Slot), lv_has ls 3 [(0, .ref (a_hk 0))] → In g A s.heap s (wHK g a_hk q_hk_reader (a_ri 0) q_hk_now q_hk_tried q_hk_history q_hk_board q_hk_search q_hk_within q_hk_colouring q_hk_chances hk ++ (wRi g a_ri ri ++ [])) H locs → f_X11_member_L24 hk = some (r_, o_hk) → W p l e rm_X11_member s m args below meth c H locs 0 0 Q (F0 m 24 ls []) := by
    intro hk H locs ls hl hI hf
    unfold f_X11_member_L24 at hf
    refine lv_aload_n hx hb dX11_member_24 rfl (lv_at hl 0 rfl) ?_
    refine lv_iconst (v := 1) hx hb dX11_member_25 (by decide) ?_
    obtain ⟨r_5, hk_6, hc_, hf⟩ := bd2_some hf
    refine call_Vi X hI (Cj.keep Cj.nil) (c_X11_refuse l g a_hk q_hk_reader (a_ri 0) q_hk_now q_hk_tried q_hk_history q_hk_board q_hk_search q_hk_within q_hk_colouring q_hk_chances hk (1 : Int32) r_5 hk_6 hc_) ⟨rfl, rfl⟩ ⟨ht _ w_729, w_732, ht _ w_139, lk_X11_refuse⟩ w_731 w_0 rfl rfl rfl hl rfl rfl dX11_member_26 rfl rfl rfl rfl (fun H locs hI => ?_)
    cases hf
    exact end_i hQ hA X hI dX11_member_29
  unfold f_X11_member at hf
  refine lv_aload_n hx hb dX11_member_0 rfl (lv_at hl 0 rfl) ?_
  refine lv_iload_n hx hb dX11_member_1 rfl (lv_at hl 1 rfl) ?_
  obtain ⟨r_1, hc_, hf⟩ := bd1_some hf
  refine call_Vi X hI (Cj.keep (Cj.keep Cj.id)) (c_X11_isRing l g a_hk a_ri q_hk_reader q_hk_now q_hk_tried q_hk_history q_hk_board q_hk_search q_hk_within q_hk_colouring q_hk_chances hk ri p1 r_1 hc_) ⟨rfl, rfl⟩ ⟨ht _ w_1020, w_1023, ht _ w_139, lk_X11_isRing⟩ w_1022 w_39 rfl rfl rfl hl rfl rfl dX11_member_2 rfl rfl rfl rfl (fun H locs hI => ?_)
  refine lv_if_eq (tgt := 24) hx hb dX11_member_5 (by decide) (fun h_ => ?_) (fun h_ => ?_)
  · replace hf := if_t h_ hf
    exact L_24 hk _ _ _ (lv_sub hl [0] rfl) hI hf
  · replace hf := if_f h_ hf
    refine lv_iload_n hx hb dX11_member_8 rfl (lv_at hl 2 rfl) ?_
    refine lv_if_lt (tgt := 24) hx hb dX11_member_9 (by decide) (fun h_ => ?_) (fun h_ => ?_)
    · replace hf := if_t h_ hf
      exact L_24 hk _ _ _ (lv_sub hl [0] rfl) hI hf
    · replace hf := if_f h_ hf
      refine lv_iload_n hx hb dX11_member_12 rfl (lv_at hl 2 rfl) ?_
      refine lv_aload_n hx hb dX11_member_13 rfl (lv_at hl 0 rfl) ?_
      refine g_HK_rings X hI has_HK.l (X.fl w_677) dX11_member_14 ?_
      refine lv_iload_n hx hb dX11_member_17 rfl (lv_at hl 1 rfl) ?_
      obtain ⟨r_2, hc_, hf⟩ := bd1_some hf
      refine call_Vi X hI (Cj.skip (Cj.keep Cj.id)) (c_X6_peopleIn l g a_ri ri p1 r_2 hc_) ⟨rfl, rfl⟩ ⟨ht _ w_1024, w_1027, ht _ w_147, lk_X6_peopleIn⟩ w_1025 w_1026 rfl rfl rfl hl rfl rfl dX11_member_18 rfl rfl rfl rfl (fun H locs hI => ?_)
      refine lv_icmp_lt (tgt := 30) hx hb dX11_member_21 (by decide) (fun h_ => ?_) (fun h_ => ?_)
      · replace hf := if_t h_ hf
        refine lv_aload_n hx hb dX11_member_30 rfl (lv_at hl 0 rfl) ?_
        refine lv_aload_n hx hb dX11_member_31 rfl (lv_at hl 0 rfl) ?_
        refine g_HK_rings X hI has_HK.l (X.fl w_677) dX11_member_32 ?_
        refine g_Ri_members X hI has_Ri.l.r (hI.fn (List.mem_of_getElem? (i := 41) rfl)) dX11_member_35 ?_
        refine lv_aload_n hx hb dX11_member_38 rfl (lv_at hl 0 rfl) ?_
        refine g_HK_rings X hI has_HK.l (X.fl w_677) dX11_member_39 ?_
        refine g_Ri_firstMember X hI has_Ri.l.r (hI.fn (List.mem_of_getElem? (i := 42) rfl)) dX11_member_42 ?_
        refine lv_iload_n hx hb dX11_member_45 rfl (lv_at hl 1 rfl) ?_
        obtain ⟨h_, hf⟩ := ck_someM hf
        refine ld_I X hI has_Ri_firstMember.l.r h_ dX11_member_46 ?_
        refine lv_iload_n hx hb dX11_member_47 rfl (lv_at hl 2 rfl) ?_
        refine lv_iadd hx hb dX11_member_48 ?_
        obtain ⟨h_, hf⟩ := ck_someM hf
        refine ld_I X hI has_Ri_members.l.r h_ dX11_member_49 ?_
        obtain ⟨r_3, hk_4, hc_, hf⟩ := bd2_some hf
        refine call_Vi X hI (Cj.keep Cj.nil) (c_X11_grant l g a_hk q_hk_reader (a_ri 0) q_hk_now q_hk_tried q_hk_history q_hk_board q_hk_search q_hk_within q_hk_colouring q_hk_chances hk (Ri_members ri (Int32.toNatClampNeg ((Ri_firstMember ri (Int32.toNatClampNeg p1)) + p2))) r_3 hk_4 hc_) ⟨rfl, rfl⟩ ⟨ht _ w_995, w_998, ht _ w_139, lk_X11_grant⟩ w_997 w_37 rfl rfl rfl hl rfl rfl dX11_member_50 rfl rfl rfl rfl (fun H locs hI => ?_)
        cases hf
        exact end_i hQ hA X hI dX11_member_53
      · replace hf := if_f h_ hf
        exact L_24 hk _ _ _ (lv_sub hl [0] rfl) hI hf
abbrev rm_X11_holds : Room := { frames := 1, cells := 0, slots := 0, locals := 21 }
set_option maxRecDepth 20000 in
theorem c_X11_holds (l : Launch) (g : GT) (a_hk : Nat → Nat) (a_ri : Nat → Nat) (q_hk_reader : Nat) (q_hk_now : Nat) (q_hk_tried : Nat) (q_hk_history : Nat) (q_hk_board : Nat) (q_hk_search : Nat) (q_hk_within : Nat) (q_hk_colouring : Nat) (q_hk_chances : Nat) (hk : HKS) (ri : RiS) (p1 : Int32) (p2 : Int32) (r_ : Int32) (o_hk : HKS) (hf : f_X11_holds hk ri p1 p2 = some (r_, o_hk)) : CI l yX11_holds cX11_holds 3 (some .int) rm_X11_holds g [.ref (a_hk 0), .int p1, .int p2] (wHK g a_hk q_hk_reader (a_ri 0) q_hk_now q_hk_tried q_hk_history q_hk_board q_hk_search q_hk_within q_hk_colouring q_hk_chances hk ++ (wRi g a_ri ri ++ [])) (wHK g a_hk q_hk_reader (a_ri 0) q_hk_now q_hk_tried q_hk_history q_hk_board q_hk_search q_hk_within q_hk_colouring q_hk_chances o_hk ++ (wRi g a_ri ri ++ [])) r_ := by
  refine start2 (y := yX11_holds) (cc := cX11_holds) (n := 3) (av := [.ref (a_hk 0), .int p1, .int p2]) (ws := (wHK g a_hk q_hk_reader (a_ri 0) q_hk_now q_hk_tried q_hk_history q_hk_board q_hk_search q_hk_within q_hk_colouring q_hk_chances hk ++ (wRi g a_ri ri ++ []))) (Qc := fun sz => QI g (wHK g a_hk q_hk_reader (a_ri 0) q_hk_now q_hk_tried q_hk_history q_hk_board q_hk_search q_hk_within q_hk_colouring q_hk_chances hk ++ (wRi g a_ri ri ++ [])) (wHK g a_hk q_hk_reader (a_ri 0) q_hk_now q_hk_tried q_hk_history q_hk_board q_hk_search q_hk_within q_hk_colouring q_hk_chances o_hk ++ (wRi g a_ri ri ++ [])) r_ sz) (by decide) rfl ?_
  intro p e s m args below meth c ls Q A ha hQ hA X hl hI hin
  have X : Cx p s m args meth c cX11_holds 3 RX11 (some .int) := X
  have hl : lv_has ls 3 [(0, .ref (a_hk 0)), (1, .int p1), (2, .int p2)] := hl
  obtain ⟨hx, hb, hml, hown, ht, hr, hlk⟩ := id X
  clear ha hin
  have L_34 : ∀ (t2i : Int32) (t3i : Int32) (hk : HKS) (H : Heap) (locs : List Loc) (ls : Array Slot), lv_has ls 3 [] → In g A s.heap s (wHK g a_hk q_hk_reader (a_ri 0) q_hk_now q_hk_tried q_hk_history q_hk_board q_hk_search q_hk_within q_hk_colouring q_hk_chances hk ++ (wRi g a_ri ri ++ [])) H locs → f_X11_holds_L34 t2i t3i hk ri = some (r_, o_hk) → W p l e rm_X11_holds s m args below meth c H locs 0 0 Q (F0 m 34 ls [.int t3i, .int t2i, .ref (a_ri 4), .ref (a_hk 0)]) := by
    intro t2i t3i hk H locs ls hl hI hf
    unfold f_X11_holds_L34 at hf
    refine lv_iadd hx hb dX11_holds_34 ?_
    obtain ⟨h_, hf⟩ := ck_someM hf
    refine ld_I X hI has_Ri_partner.l.r h_ dX11_holds_35 ?_
    obtain ⟨r_4, hk_5, hc_, hf⟩ := bd2_some hf
    refine call_Vi X hI (Cj.keep Cj.nil) (c_X11_grant l g a_hk q_hk_reader (a_ri 0) q_hk_now q_hk_tried q_hk_history q_hk_board q_hk_search q_hk_within q_hk_colouring q_hk_chances hk (Ri_partner ri (Int32.toNatClampNeg (t2i + t3i))) r_4 hk_5 hc_) ⟨rfl, rfl⟩ ⟨ht _ w_995, w_998, ht _ w_139, lk_X11_grant⟩ w_997 w_37 rfl rfl rfl hl rfl rfl dX11_holds_36 rfl rfl rfl rfl (fun H locs hI => ?_)
    cases hf
    exact end_i hQ hA X hI dX11_holds_39
  unfold f_X11_holds at hf
  refine lv_aload_n hx hb dX11_holds_0 rfl (lv_at hl 0 rfl) ?_
  refine lv_iload_n hx hb dX11_holds_1 rfl (lv_at hl 1 rfl) ?_
  obtain ⟨r_1, hc_, hf⟩ := bd1_some hf
  refine call_Vi X hI (Cj.keep (Cj.keep Cj.id)) (c_X11_isPerson l g a_hk a_ri q_hk_reader q_hk_now q_hk_tried q_hk_history q_hk_board q_hk_search q_hk_within q_hk_colouring q_hk_chances hk ri p1 r_1 hc_) ⟨rfl, rfl⟩ ⟨ht _ w_1011, w_1014, ht _ w_139, lk_X11_isPerson⟩ w_1013 w_38 rfl rfl rfl hl rfl rfl dX11_holds_2 rfl rfl rfl rfl (fun H locs hI => ?_)
  refine lv_if_ne (tgt := 14) hx hb dX11_holds_5 (by decide) (fun h_ => ?_) (fun h_ => ?_)
  · replace hf := if_f h_ hf
    refine lv_aload_n hx hb dX11_holds_14 rfl (lv_at hl 0 rfl) ?_
    refine lv_aload_n hx hb dX11_holds_15 rfl (lv_at hl 0 rfl) ?_
    refine g_HK_rings X hI has_HK.l (X.fl w_677) dX11_holds_16 ?_
    refine g_Ri_partner X hI has_Ri.l.r (hI.fn (List.mem_of_getElem? (i := 44) rfl)) dX11_holds_19 ?_
    refine lv_iconst (v := 2) hx hb dX11_holds_22 (by decide) ?_
    refine lv_iload_n hx hb dX11_holds_23 rfl (lv_at hl 1 rfl) ?_
    refine lv_imul hx hb dX11_holds_24 ?_
    refine lv_iload_n hx hb dX11_holds_25 rfl (lv_at hl 2 rfl) ?_
    refine lv_if_eq (tgt := 33) hx hb dX11_holds_26 (by decide) (fun h_ => ?_) (fun h_ => ?_)
    · replace hf := if_t h_ hf
      refine lv_iconst (v := 0) hx hb dX11_holds_33 (by decide) ?_
      exact L_34 ((2 : Int32) * p1) (0 : Int32) hk _ _ _ (lv_sub hl [] rfl) hI hf
    · replace hf := if_f h_ hf
      refine lv_iconst (v := 1) hx hb dX11_holds_29 (by decide) ?_
      refine lv_goto (tgt := 34) hx hb dX11_holds_30 (by decide) ?_
      exact L_34 ((2 : Int32) * p1) (1 : Int32) hk _ _ _ (lv_sub hl [] rfl) hI hf
  · replace hf := if_t h_ hf
    refine lv_aload_n hx hb dX11_holds_8 rfl (lv_at hl 0 rfl) ?_
    refine lv_iconst (v := 1) hx hb dX11_holds_9 (by decide) ?_
    obtain ⟨r_2, hk_3, hc_, hf⟩ := bd2_some hf
    refine call_Vi X hI (Cj.keep Cj.nil) (c_X11_refuse l g a_hk q_hk_reader (a_ri 0) q_hk_now q_hk_tried q_hk_history q_hk_board q_hk_search q_hk_within q_hk_colouring q_hk_chances hk (1 : Int32) r_2 hk_3 hc_) ⟨rfl, rfl⟩ ⟨ht _ w_729, w_732, ht _ w_139, lk_X11_refuse⟩ w_731 w_0 rfl rfl rfl hl rfl rfl dX11_holds_10 rfl rfl rfl rfl (fun H locs hI => ?_)
    cases hf
    exact end_i hQ hA X hI dX11_holds_13
abbrev rm_X11_along : Room := { frames := 1, cells := 0, slots := 0, locals := 21 }
set_option maxRecDepth 20000 in
theorem c_X11_along (l : Launch) (g : GT) (a_hk : Nat → Nat) (a_ri : Nat → Nat) (q_hk_reader : Nat) (q_hk_now : Nat) (q_hk_tried : Nat) (q_hk_history : Nat) (q_hk_board : Nat) (q_hk_search : Nat) (q_hk_within : Nat) (q_hk_colouring : Nat) (q_hk_chances : Nat) (hk : HKS) (ri : RiS) (p1 : Int32) (r_ : Int32) (o_hk : HKS) (hf : f_X11_along hk ri p1 = some (r_, o_hk)) : CI l yX11_along cX11_along 2 (some .int) rm_X11_along g [.ref (a_hk 0), .int p1] (wHK g a_hk q_hk_reader (a_ri 0) q_hk_now q_hk_tried q_hk_history q_hk_board q_hk_search q_hk_within q_hk_colouring q_hk_chances hk ++ (wRi g a_ri ri ++ [])) (wHK g a_hk q_hk_reader (a_ri 0) q_hk_now q_hk_tried q_hk_history q_hk_board q_hk_search q_hk_within q_hk_colouring q_hk_chances o_hk ++ (wRi g a_ri ri ++ [])) r_ := by
  refine start2 (y := yX11_along) (cc := cX11_along) (n := 2) (av := [.ref (a_hk 0), .int p1]) (ws := (wHK g a_hk q_hk_reader (a_ri 0) q_hk_now q_hk_tried q_hk_history q_hk_board q_hk_search q_hk_within q_hk_colouring q_hk_chances hk ++ (wRi g a_ri ri ++ []))) (Qc := fun sz => QI g (wHK g a_hk q_hk_reader (a_ri 0) q_hk_now q_hk_tried q_hk_history q_hk_board q_hk_search q_hk_within q_hk_colouring q_hk_chances hk ++ (wRi g a_ri ri ++ [])) (wHK g a_hk q_hk_reader (a_ri 0) q_hk_now q_hk_tried q_hk_history q_hk_board q_hk_search q_hk_within q_hk_colouring q_hk_chances o_hk ++ (wRi g a_ri ri ++ [])) r_ sz) (by decide) rfl ?_
  intro p e s m args below meth c ls Q A ha hQ hA X hl hI hin
  have X : Cx p s m args meth c cX11_along 2 RX11 (some .int) := X
  have hl : lv_has ls 2 [(0, .ref (a_hk 0)), (1, .int p1)] := hl
  obtain ⟨hx, hb, hml, hown, ht, hr, hlk⟩ := id X
  clear ha hin
  unfold f_X11_along at hf
  refine lv_aload_n hx hb dX11_along_0 rfl (lv_at hl 0 rfl) ?_
  refine lv_iload_n hx hb dX11_along_1 rfl (lv_at hl 1 rfl) ?_
  obtain ⟨r_1, hc_, hf⟩ := bd1_some hf
  refine call_Vi X hI (Cj.keep (Cj.keep Cj.id)) (c_X11_isLink l g a_hk a_ri q_hk_reader q_hk_now q_hk_tried q_hk_history q_hk_board q_hk_search q_hk_within q_hk_colouring q_hk_chances hk ri p1 r_1 hc_) ⟨rfl, rfl⟩ ⟨ht _ w_1040, w_1043, ht _ w_139, lk_X11_isLink⟩ w_1042 w_40 rfl rfl rfl hl rfl rfl dX11_along_2 rfl rfl rfl rfl (fun H locs hI => ?_)
  refine lv_if_eq (tgt := 24) hx hb dX11_along_5 (by decide) (fun h_ => ?_) (fun h_ => ?_)
  · replace hf := if_t h_ hf
    refine lv_aload_n hx hb dX11_along_24 rfl (lv_at hl 0 rfl) ?_
    refine lv_iconst (v := 1) hx hb dX11_along_25 (by decide) ?_
    obtain ⟨r_2, hk_3, hc_, hf⟩ := bd2_some hf
    refine call_Vi X hI (Cj.keep Cj.nil) (c_X11_refuse l g a_hk q_hk_reader (a_ri 0) q_hk_now q_hk_tried q_hk_history q_hk_board q_hk_search q_hk_within q_hk_colouring q_hk_chances hk (1 : Int32) r_2 hk_3 hc_) ⟨rfl, rfl⟩ ⟨ht _ w_729, w_732, ht _ w_139, lk_X11_refuse⟩ w_731 w_0 rfl rfl rfl hl rfl rfl dX11_along_26 rfl rfl rfl rfl (fun H locs hI => ?_)
    cases hf
    exact end_i hQ hA X hI dX11_along_29
  · replace hf := if_f h_ hf
    refine lv_aload_n hx hb dX11_along_8 rfl (lv_at hl 0 rfl) ?_
    refine lv_aload_n hx hb dX11_along_9 rfl (lv_at hl 0 rfl) ?_
    refine g_HK_rings X hI has_HK.l (X.fl w_677) dX11_along_10 ?_
    refine g_Ri_along X hI has_Ri.l.r (hI.fn (List.mem_of_getElem? (i := 46) rfl)) dX11_along_13 ?_
    refine lv_iload_n hx hb dX11_along_16 rfl (lv_at hl 1 rfl) ?_
    obtain ⟨h_, hf⟩ := ck_someM hf
    refine ld_I X hI has_Ri_along.l.r h_ dX11_along_17 ?_
    obtain ⟨r_4, hk_5, hc_, hf⟩ := bd2_some hf
    refine call_Vi X hI (Cj.keep Cj.nil) (c_X11_grant l g a_hk q_hk_reader (a_ri 0) q_hk_now q_hk_tried q_hk_history q_hk_board q_hk_search q_hk_within q_hk_colouring q_hk_chances hk (Ri_along ri (Int32.toNatClampNeg p1)) r_4 hk_5 hc_) ⟨rfl, rfl⟩ ⟨ht _ w_995, w_998, ht _ w_139, lk_X11_grant⟩ w_997 w_37 rfl rfl rfl hl rfl rfl dX11_along_18 rfl rfl rfl rfl (fun H locs hI => ?_)
    refine lv_goto (tgt := 29) hx hb dX11_along_21 (by decide) ?_
    cases hf
    exact end_i hQ hA X hI dX11_along_29
abbrev rm_X11_stands : Room := { frames := 1, cells := 0, slots := 0, locals := 22 }
set_option maxRecDepth 20000 in
theorem c_X11_stands (l : Launch) (g : GT) (a_hk : Nat → Nat) (a_now : Nat → Nat) (a_ri : Nat → Nat) (q_hk_reader : Nat) (q_hk_tried : Nat) (q_hk_history : Nat) (q_hk_board : Nat) (q_hk_search : Nat) (q_hk_within : Nat) (q_hk_colouring : Nat) (q_hk_chances : Nat) (hk : HKS) (now : MoS) (ri : RiS) (p1 : Int32) (r_ : Int32) (o_hk : HKS) (hf : f_X11_stands hk now ri p1 = some (r_, o_hk)) : CI l yX11_stands cX11_stands 3 (some .int) rm_X11_stands g [.ref (a_hk 0), .int p1] (wHK g a_hk q_hk_reader (a_ri 0) (a_now 0) q_hk_tried q_hk_history q_hk_board q_hk_search q_hk_within q_hk_colouring q_hk_chances hk ++ (wMo g a_now now ++ (wRi g a_ri ri ++ []))) (wHK g a_hk q_hk_reader (a_ri 0) (a_now 0) q_hk_tried q_hk_history q_hk_board q_hk_search q_hk_within q_hk_colouring q_hk_chances o_hk ++ (wMo g a_now now ++ (wRi g a_ri ri ++ []))) r_ := by
  refine start2 (y := yX11_stands) (cc := cX11_stands) (n := 3) (av := [.ref (a_hk 0), .int p1]) (ws := (wHK g a_hk q_hk_reader (a_ri 0) (a_now 0) q_hk_tried q_hk_history q_hk_board q_hk_search q_hk_within q_hk_colouring q_hk_chances hk ++ (wMo g a_now now ++ (wRi g a_ri ri ++ [])))) (Qc := fun sz => QI g (wHK g a_hk q_hk_reader (a_ri 0) (a_now 0) q_hk_tried q_hk_history q_hk_board q_hk_search q_hk_within q_hk_colouring q_hk_chances hk ++ (wMo g a_now now ++ (wRi g a_ri ri ++ []))) (wHK g a_hk q_hk_reader (a_ri 0) (a_now 0) q_hk_tried q_hk_history q_hk_board q_hk_search q_hk_within q_hk_colouring q_hk_chances o_hk ++ (wMo g a_now now ++ (wRi g a_ri ri ++ []))) r_ sz) (by decide) rfl ?_
  intro p e s m args below meth c ls Q A ha hQ hA X hl hI hin
  have X : Cx p s m args meth c cX11_stands 3 RX11 (some .int) := X
  have hl : lv_has ls 3 [(0, .ref (a_hk 0)), (1, .int p1)] := hl
  obtain ⟨hx, hb, hml, hown, ht, hr, hlk⟩ := id X
  clear ha hin
  have L_38 : ∀ (t1i : Int32) (hk : HKS) (H : Heap) (locs : List Loc) (ls : Array Slot), lv_has ls 3 [] → In g A s.heap s (wHK g a_hk q_hk_reader (a_ri 0) (a_now 0) q_hk_tried q_hk_history q_hk_board q_hk_search q_hk_within q_hk_colouring q_hk_chances hk ++ (wMo g a_now now ++ (wRi g a_ri ri ++ []))) H locs → f_X11_stands_L38 t1i hk = some (r_, o_hk) → W p l e rm_X11_stands s m args below meth c H locs 0 0 Q (F0 m 38 ls [.int t1i, .ref (a_hk 0)]) := by
    intro t1i hk H locs ls hl hI hf
    unfold f_X11_stands_L38 at hf
    obtain ⟨r_5, hk_6, hc_, hf⟩ := bd2_some hf
    refine call_Vi X hI (Cj.keep Cj.nil) (c_X11_grant l g a_hk q_hk_reader (a_ri 0) (a_now 0) q_hk_tried q_hk_history q_hk_board q_hk_search q_hk_within q_hk_colouring q_hk_chances hk t1i r_5 hk_6 hc_) ⟨rfl, rfl⟩ ⟨ht _ w_995, w_998, ht _ w_139, lk_X11_grant⟩ w_997 w_37 rfl rfl rfl hl rfl rfl dX11_stands_38 rfl rfl rfl rfl (fun H locs hI => ?_)
    cases hf
    exact end_i hQ hA X hI dX11_stands_41
  unfold f_X11_stands at hf
  refine lv_aload_n hx hb dX11_stands_0 rfl (lv_at hl 0 rfl) ?_
  refine lv_iload_n hx hb dX11_stands_1 rfl (lv_at hl 1 rfl) ?_
  obtain ⟨r_1, hc_, hf⟩ := bd1_some hf
  refine call_Vi X hI (Cj.keep (Cj.skip (Cj.keep Cj.id))) (c_X11_isStanding l g a_hk a_ri q_hk_reader (a_now 0) q_hk_tried q_hk_history q_hk_board q_hk_search q_hk_within q_hk_colouring q_hk_chances hk ri p1 r_1 hc_) ⟨rfl, rfl⟩ ⟨ht _ w_1048, w_1051, ht _ w_139, lk_X11_isStanding⟩ w_1050 w_41 rfl rfl rfl hl rfl rfl dX11_stands_2 rfl rfl rfl rfl (fun H locs hI => ?_)
  refine lv_if_ne (tgt := 14) hx hb dX11_stands_5 (by decide) (fun h_ => ?_) (fun h_ => ?_)
  · replace hf := if_f h_ hf
    refine lv_aload_n hx hb dX11_stands_14 rfl (lv_at hl 0 rfl) ?_
    refine g_HK_now X hI has_HK.l (X.fl w_678) dX11_stands_15 ?_
    refine g_Mo_key X hI has_Mo.l.r (hI.fn (List.mem_of_getElem? (i := 57) rfl)) dX11_stands_18 ?_
    refine lv_iload_n hx hb dX11_stands_21 rfl (lv_at hl 1 rfl) ?_
    obtain ⟨r_2, hc_, hf⟩ := bd1_some hf
    refine call_Si X hI Cj.nil (c_X4_passAt l g (Mo_key now) p1 r_2 hc_) ⟨rfl, rfl⟩ ⟨ht _ w_1052, w_954, ht _ w_148, lk_X4_passAt⟩ w_953 rfl hl rfl rfl dX11_stands_22 rfl rfl rfl rfl (fun H locs hI => ?_)
    refine lv_istore_n (lv' := [(2, .int r_2), (0, .ref (a_hk 0)), (1, .int p1)]) hx hb dX11_stands_25 rfl hl (by decide) rfl (fun ls hl => ?_)
    refine lv_aload_n hx hb dX11_stands_26 rfl (lv_at hl 1 rfl) ?_
    refine lv_iload_n hx hb dX11_stands_27 rfl (lv_at hl 0 rfl) ?_
    refine lv_iconst (v := (-1)) hx hb dX11_stands_28 (by decide) ?_
    refine lv_icmp_ne (tgt := 37) hx hb dX11_stands_29 (by decide) (fun h_ => ?_) (fun h_ => ?_)
    · replace hf := if_f h_ hf
      refine lv_iload_n hx hb dX11_stands_37 rfl (lv_at hl 0 rfl) ?_
      exact L_38 r_2 hk _ _ _ (lv_sub hl [] rfl) hI hf
    · replace hf := if_t h_ hf
      refine lv_bipush (v := (-2)) hx hb dX11_stands_32 (by decide) ?_
      refine lv_goto (tgt := 38) hx hb dX11_stands_34 (by decide) ?_
      exact L_38 (-2 : Int32) hk _ _ _ (lv_sub hl [] rfl) hI hf
  · replace hf := if_t h_ hf
    refine lv_aload_n hx hb dX11_stands_8 rfl (lv_at hl 0 rfl) ?_
    refine lv_iconst (v := 1) hx hb dX11_stands_9 (by decide) ?_
    obtain ⟨r_3, hk_4, hc_, hf⟩ := bd2_some hf
    refine call_Vi X hI (Cj.keep Cj.nil) (c_X11_refuse l g a_hk q_hk_reader (a_ri 0) (a_now 0) q_hk_tried q_hk_history q_hk_board q_hk_search q_hk_within q_hk_colouring q_hk_chances hk (1 : Int32) r_3 hk_4 hc_) ⟨rfl, rfl⟩ ⟨ht _ w_729, w_732, ht _ w_139, lk_X11_refuse⟩ w_731 w_0 rfl rfl rfl hl rfl rfl dX11_stands_10 rfl rfl rfl rfl (fun H locs hI => ?_)
    cases hf
    exact end_i hQ hA X hI dX11_stands_13
abbrev rm_X11_place : Room := { frames := 1, cells := 0, slots := 0, locals := 21 }
set_option maxRecDepth 20000 in
theorem c_X11_place (l : Launch) (g : GT) (a_hk : Nat → Nat) (a_ri : Nat → Nat) (q_hk_reader : Nat) (q_hk_now : Nat) (q_hk_tried : Nat) (q_hk_history : Nat) (q_hk_board : Nat) (q_hk_search : Nat) (q_hk_within : Nat) (q_hk_colouring : Nat) (q_hk_chances : Nat) (hk : HKS) (ri : RiS) (p1 : Int32) (p2 : Int32) (r_ : Int32) (o_hk : HKS) (hf : f_X11_place hk ri p1 p2 = some (r_, o_hk)) : CI l yX11_place cX11_place 4 (some .int) rm_X11_place g [.ref (a_hk 0), .int p1, .int p2] (wHK g a_hk q_hk_reader (a_ri 0) q_hk_now q_hk_tried q_hk_history q_hk_board q_hk_search q_hk_within q_hk_colouring q_hk_chances hk ++ (wRi g a_ri ri ++ [])) (wHK g a_hk q_hk_reader (a_ri 0) q_hk_now q_hk_tried q_hk_history q_hk_board q_hk_search q_hk_within q_hk_colouring q_hk_chances o_hk ++ (wRi g a_ri ri ++ [])) r_ := by
  refine start2 (y := yX11_place) (cc := cX11_place) (n := 4) (av := [.ref (a_hk 0), .int p1, .int p2]) (ws := (wHK g a_hk q_hk_reader (a_ri 0) q_hk_now q_hk_tried q_hk_history q_hk_board q_hk_search q_hk_within q_hk_colouring q_hk_chances hk ++ (wRi g a_ri ri ++ []))) (Qc := fun sz => QI g (wHK g a_hk q_hk_reader (a_ri 0) q_hk_now q_hk_tried q_hk_history q_hk_board q_hk_search q_hk_within q_hk_colouring q_hk_chances hk ++ (wRi g a_ri ri ++ [])) (wHK g a_hk q_hk_reader (a_ri 0) q_hk_now q_hk_tried q_hk_history q_hk_board q_hk_search q_hk_within q_hk_colouring q_hk_chances o_hk ++ (wRi g a_ri ri ++ [])) r_ sz) (by decide) rfl ?_
  intro p e s m args below meth c ls Q A ha hQ hA X hl hI hin
  have X : Cx p s m args meth c cX11_place 4 RX11 (some .int) := X
  have hl : lv_has ls 4 [(0, .ref (a_hk 0)), (1, .int p1), (2, .int p2)] := hl
  obtain ⟨hx, hb, hml, hown, ht, hr, hlk⟩ := id X
  clear ha hin
  have L_17 : ∀ (hk : HKS) (H : Heap) (locs : List Loc) (ls : Array Slot), lv_has ls 4 [(0, .ref (a_hk 0))] → In g A s.heap s (wHK g a_hk q_hk_reader (a_ri 0) q_hk_now q_hk_tried q_hk_history q_hk_board q_hk_search q_hk_within q_hk_colouring q_hk_chances hk ++ (wRi g a_ri ri ++ [])) H locs → f_X11_place_L17 hk = some (r_, o_hk) → W p l e rm_X11_place s m args below meth c H locs 0 0 Q (F0 m 17 ls []) := by
    intro hk H locs ls hl hI hf
    unfold f_X11_place_L17 at hf
    refine lv_aload_n hx hb dX11_place_17 rfl (lv_at hl 0 rfl) ?_
    refine lv_iconst (v := 1) hx hb dX11_place_18 (by decide) ?_
    obtain ⟨r_3, hk_4, hc_, hf⟩ := bd2_some hf
    refine call_Vi X hI (Cj.keep Cj.nil) (c_X11_refuse l g a_hk q_hk_reader (a_ri 0) q_hk_now q_hk_tried q_hk_history q_hk_board q_hk_search q_hk_within q_hk_colouring q_hk_chances hk (1 : Int32) r_3 hk_4 hc_) ⟨rfl, rfl⟩ ⟨ht _ w_729, w_732, ht _ w_139, lk_X11_refuse⟩ w_731 w_0 rfl rfl rfl hl rfl rfl dX11_place_19 rfl rfl rfl rfl (fun H locs hI => ?_)
    cases hf
    exact end_i hQ hA X hI dX11_place_22
  have L_51 : ∀ (t1i : Int32) (hk : HKS) (H : Heap) (locs : List Loc) (ls : Array Slot), lv_has ls 4 [] → In g A s.heap s (wHK g a_hk q_hk_reader (a_ri 0) q_hk_now q_hk_tried q_hk_history q_hk_board q_hk_search q_hk_within q_hk_colouring q_hk_chances hk ++ (wRi g a_ri ri ++ [])) H locs → f_X11_place_L51 t1i hk = some (r_, o_hk) → W p l e rm_X11_place s m args below meth c H locs 0 0 Q (F0 m 51 ls [.int t1i, .ref (a_hk 0)]) := by
    intro t1i hk H locs ls hl hI hf
    unfold f_X11_place_L51 at hf
    obtain ⟨r_5, hk_6, hc_, hf⟩ := bd2_some hf
    refine call_Vi X hI (Cj.keep Cj.nil) (c_X11_grant l g a_hk q_hk_reader (a_ri 0) q_hk_now q_hk_tried q_hk_history q_hk_board q_hk_search q_hk_within q_hk_colouring q_hk_chances hk t1i r_5 hk_6 hc_) ⟨rfl, rfl⟩ ⟨ht _ w_995, w_998, ht _ w_139, lk_X11_grant⟩ w_997 w_37 rfl rfl rfl hl rfl rfl dX11_place_51 rfl rfl rfl rfl (fun H locs hI => ?_)
    cases hf
    exact end_i hQ hA X hI dX11_place_54
  unfold f_X11_place at hf
  refine lv_aload_n hx hb dX11_place_0 rfl (lv_at hl 0 rfl) ?_
  refine lv_iload_n hx hb dX11_place_1 rfl (lv_at hl 1 rfl) ?_
  obtain ⟨r_1, hc_, hf⟩ := bd1_some hf
  refine call_Vi X hI (Cj.keep (Cj.keep Cj.id)) (c_X11_isStanding l g a_hk a_ri q_hk_reader q_hk_now q_hk_tried q_hk_history q_hk_board q_hk_search q_hk_within q_hk_colouring q_hk_chances hk ri p1 r_1 hc_) ⟨rfl, rfl⟩ ⟨ht _ w_1048, w_1051, ht _ w_139, lk_X11_isStanding⟩ w_1050 w_41 rfl rfl rfl hl rfl rfl dX11_place_2 rfl rfl rfl rfl (fun H locs hI => ?_)
  refine lv_if_eq (tgt := 17) hx hb dX11_place_5 (by decide) (fun h_ => ?_) (fun h_ => ?_)
  · replace hf := if_t h_ hf
    exact L_17 hk _ _ _ (lv_sub hl [0] rfl) hI hf
  · replace hf := if_f h_ hf
    refine lv_iload_n hx hb dX11_place_8 rfl (lv_at hl 2 rfl) ?_
    refine lv_if_lt (tgt := 17) hx hb dX11_place_9 (by decide) (fun h_ => ?_) (fun h_ => ?_)
    · replace hf := if_t h_ hf
      exact L_17 hk _ _ _ (lv_sub hl [0] rfl) hI hf
    · replace hf := if_f h_ hf
      refine lv_iload_n hx hb dX11_place_12 rfl (lv_at hl 2 rfl) ?_
      refine lv_iconst (v := 1) hx hb dX11_place_13 (by decide) ?_
      refine lv_icmp_le (tgt := 23) hx hb dX11_place_14 (by decide) (fun h_ => ?_) (fun h_ => ?_)
      · replace hf := if_t h_ hf
        refine lv_aload_n hx hb dX11_place_23 rfl (lv_at hl 0 rfl) ?_
        refine g_HK_rings X hI has_HK.l (X.fl w_677) dX11_place_24 ?_
        refine g_Ri_standingLink X hI has_Ri.l.r (hI.fn (List.mem_of_getElem? (i := 53) rfl)) dX11_place_27 ?_
        refine lv_iload_n hx hb dX11_place_30 rfl (lv_at hl 1 rfl) ?_
        obtain ⟨h_, hf⟩ := ck_someM hf
        refine ld_I X hI has_Ri_standingLink.l.r h_ dX11_place_31 ?_
        refine lv_topi (fun v_2 e_ => ?_)
        replace hf := lt_to e_ hf
        clear e_
        refine lv_istore_n (lv' := [(3, .int v_2), (0, .ref (a_hk 0)), (1, .int p1), (2, .int p2)]) hx hb dX11_place_32 rfl hl (by decide) rfl (fun ls hl => ?_)
        refine lv_aload_n hx hb dX11_place_33 rfl (lv_at hl 1 rfl) ?_
        refine lv_iload_n hx hb dX11_place_34 rfl (lv_at hl 3 rfl) ?_
        refine lv_if_ne (tgt := 50) hx hb dX11_place_35 (by decide) (fun h_ => ?_) (fun h_ => ?_)
        · replace hf := if_f h_ hf
          refine lv_iload_n hx hb dX11_place_50 rfl (lv_at hl 0 rfl) ?_
          exact L_51 v_2 hk _ _ _ (lv_sub hl [] rfl) hI hf
        · replace hf := if_t h_ hf
          refine lv_aload_n hx hb dX11_place_38 rfl (lv_at hl 1 rfl) ?_
          refine g_HK_rings X hI has_HK.l (X.fl w_677) dX11_place_39 ?_
          refine g_Ri_linkRing X hI has_Ri.l.r (hI.fn (List.mem_of_getElem? (i := 48) rfl)) dX11_place_42 ?_
          refine lv_iload_n hx hb dX11_place_45 rfl (lv_at hl 0 rfl) ?_
          obtain ⟨h_, hf⟩ := ck_someM hf
          refine ld_I X hI has_Ri_linkRing.l.r h_ dX11_place_46 ?_
          refine lv_goto (tgt := 51) hx hb dX11_place_47 (by decide) ?_
          exact L_51 (Ri_linkRing ri (Int32.toNatClampNeg v_2)) hk _ _ _ (lv_sub hl [] rfl) hI hf
      · replace hf := if_f h_ hf
        exact L_17 hk _ _ _ (lv_sub hl [0] rfl) hI hf
abbrev rm_X11_sign : Room := { frames := 2, cells := 0, slots := 0, locals := 42 }
set_option maxRecDepth 20000 in
theorem c_X11_sign (l : Launch) (g : GT) (a_hk : Nat → Nat) (a_bo : Nat → Nat) (a_ri : Nat → Nat) (q_hk_reader : Nat) (q_hk_now : Nat) (q_hk_tried : Nat) (q_hk_history : Nat) (q_hk_search : Nat) (q_hk_within : Nat) (q_hk_colouring : Nat) (q_hk_chances : Nat) (hk : HKS) (bo : BoS) (ri : RiS) (p1 : Int32) (r_ : Int32) (o_hk : HKS) (hf : f_X11_sign hk bo ri p1 = some (r_, o_hk)) : CI l yX11_sign cX11_sign 2 (some .int) rm_X11_sign g [.ref (a_hk 0), .int p1] (wHK g a_hk q_hk_reader (a_ri 0) q_hk_now q_hk_tried q_hk_history (a_bo 0) q_hk_search q_hk_within q_hk_colouring q_hk_chances hk ++ (wBo g a_bo (a_ri 0) bo ++ (wRi g a_ri ri ++ []))) (wHK g a_hk q_hk_reader (a_ri 0) q_hk_now q_hk_tried q_hk_history (a_bo 0) q_hk_search q_hk_within q_hk_colouring q_hk_chances o_hk ++ (wBo g a_bo (a_ri 0) bo ++ (wRi g a_ri ri ++ []))) r_ := by
  refine start2 (y := yX11_sign) (cc := cX11_sign) (n := 2) (av := [.ref (a_hk 0), .int p1]) (ws := (wHK g a_hk q_hk_reader (a_ri 0) q_hk_now q_hk_tried q_hk_history (a_bo 0) q_hk_search q_hk_within q_hk_colouring q_hk_chances hk ++ (wBo g a_bo (a_ri 0) bo ++ (wRi g a_ri ri ++ [])))) (Qc := fun sz => QI g (wHK g a_hk q_hk_reader (a_ri 0) q_hk_now q_hk_tried q_hk_history (a_bo 0) q_hk_search q_hk_within q_hk_colouring q_hk_chances hk ++ (wBo g a_bo (a_ri 0) bo ++ (wRi g a_ri ri ++ []))) (wHK g a_hk q_hk_reader (a_ri 0) q_hk_now q_hk_tried q_hk_history (a_bo 0) q_hk_search q_hk_within q_hk_colouring q_hk_chances o_hk ++ (wBo g a_bo (a_ri 0) bo ++ (wRi g a_ri ri ++ []))) r_ sz) (by decide) rfl ?_
  intro p e s m args below meth c ls Q A ha hQ hA X hl hI hin
  have X : Cx p s m args meth c cX11_sign 2 RX11 (some .int) := X
  have hl : lv_has ls 2 [(0, .ref (a_hk 0)), (1, .int p1)] := hl
  obtain ⟨hx, hb, hml, hown, ht, hr, hlk⟩ := id X
  clear ha hin
  unfold f_X11_sign at hf
  refine lv_aload_n hx hb dX11_sign_0 rfl (lv_at hl 0 rfl) ?_
  refine lv_iload_n hx hb dX11_sign_1 rfl (lv_at hl 1 rfl) ?_
  obtain ⟨r_1, hc_, hf⟩ := bd1_some hf
  refine call_Vi X hI (Cj.keep (Cj.skip (Cj.keep Cj.id))) (c_X11_isCrossing l g a_hk a_ri q_hk_reader q_hk_now q_hk_tried q_hk_history (a_bo 0) q_hk_search q_hk_within q_hk_colouring q_hk_chances hk ri p1 r_1 hc_) ⟨rfl, rfl⟩ ⟨ht _ w_1061, w_1064, ht _ w_139, lk_X11_isCrossing⟩ w_1063 w_42 rfl rfl rfl hl rfl rfl dX11_sign_2 rfl rfl rfl rfl (fun H locs hI => ?_)
  refine lv_if_eq (tgt := 23) hx hb dX11_sign_5 (by decide) (fun h_ => ?_) (fun h_ => ?_)
  · replace hf := if_t h_ hf
    refine lv_aload_n hx hb dX11_sign_23 rfl (lv_at hl 0 rfl) ?_
    refine lv_iconst (v := 1) hx hb dX11_sign_24 (by decide) ?_
    obtain ⟨r_2, hk_3, hc_, hf⟩ := bd2_some hf
    refine call_Vi X hI (Cj.keep Cj.nil) (c_X11_refuseSigned l g a_hk q_hk_reader (a_ri 0) q_hk_now q_hk_tried q_hk_history (a_bo 0) q_hk_search q_hk_within q_hk_colouring q_hk_chances hk (1 : Int32) r_2 hk_3 hc_) ⟨rfl, rfl⟩ ⟨ht _ w_1073, w_1076, ht _ w_139, lk_X11_refuseSigned⟩ w_1075 w_43 rfl rfl rfl hl rfl rfl dX11_sign_25 rfl rfl rfl rfl (fun H locs hI => ?_)
    cases hf
    exact end_i hQ hA X hI dX11_sign_28
  · replace hf := if_f h_ hf
    refine lv_aload_n hx hb dX11_sign_8 rfl (lv_at hl 0 rfl) ?_
    refine lv_aload_n hx hb dX11_sign_9 rfl (lv_at hl 0 rfl) ?_
    refine g_HK_board X hI has_HK.l (X.fl w_681) dX11_sign_10 ?_
    refine lv_iload_n hx hb dX11_sign_13 rfl (lv_at hl 1 rfl) ?_
    obtain ⟨r_4, hc_, hf⟩ := bd1_some hf
    refine call_Vi X hI (Cj.skip (Cj.keep Cj.nil)) (c_X0_signOf l g a_bo (a_ri 0) bo p1 r_4 hc_) ⟨rfl, rfl⟩ ⟨ht _ w_1065, w_1068, ht _ w_150, lk_X0_signOf⟩ w_1066 w_1067 rfl rfl rfl hl rfl rfl dX11_sign_14 rfl rfl rfl rfl (fun H locs hI => ?_)
    obtain ⟨r_5, hk_6, hc_, hf⟩ := bd2_some hf
    refine call_Vi X hI (Cj.keep Cj.nil) (c_X11_grant l g a_hk q_hk_reader (a_ri 0) q_hk_now q_hk_tried q_hk_history (a_bo 0) q_hk_search q_hk_within q_hk_colouring q_hk_chances hk r_4 r_5 hk_6 hc_) ⟨rfl, rfl⟩ ⟨ht _ w_995, w_998, ht _ w_139, lk_X11_grant⟩ w_997 w_37 rfl rfl rfl hl rfl rfl dX11_sign_17 rfl rfl rfl rfl (fun H locs hI => ?_)
    refine lv_goto (tgt := 28) hx hb dX11_sign_20 (by decide) ?_
    cases hf
    exact end_i hQ hA X hI dX11_sign_28
abbrev rm_X11_left : Room := { frames := 1, cells := 0, slots := 0, locals := 21 }
set_option maxRecDepth 20000 in
theorem c_X11_left (l : Launch) (g : GT) (a_hk : Nat → Nat) (a_bo : Nat → Nat) (q_hk_reader : Nat) (q_hk_rings : Nat) (q_hk_now : Nat) (q_hk_tried : Nat) (q_hk_history : Nat) (q_hk_search : Nat) (q_hk_within : Nat) (q_hk_colouring : Nat) (q_hk_chances : Nat) (q_bo_rings : Nat) (hk : HKS) (bo : BoS) (r_ : Int32) (o_hk : HKS) (hf : f_X11_left hk bo = some (r_, o_hk)) : CI l yX11_left cX11_left 1 (some .int) rm_X11_left g [.ref (a_hk 0)] (wHK g a_hk q_hk_reader q_hk_rings q_hk_now q_hk_tried q_hk_history (a_bo 0) q_hk_search q_hk_within q_hk_colouring q_hk_chances hk ++ (wBo g a_bo q_bo_rings bo ++ [])) (wHK g a_hk q_hk_reader q_hk_rings q_hk_now q_hk_tried q_hk_history (a_bo 0) q_hk_search q_hk_within q_hk_colouring q_hk_chances o_hk ++ (wBo g a_bo q_bo_rings bo ++ [])) r_ := by
  refine start2 (y := yX11_left) (cc := cX11_left) (n := 1) (av := [.ref (a_hk 0)]) (ws := (wHK g a_hk q_hk_reader q_hk_rings q_hk_now q_hk_tried q_hk_history (a_bo 0) q_hk_search q_hk_within q_hk_colouring q_hk_chances hk ++ (wBo g a_bo q_bo_rings bo ++ []))) (Qc := fun sz => QI g (wHK g a_hk q_hk_reader q_hk_rings q_hk_now q_hk_tried q_hk_history (a_bo 0) q_hk_search q_hk_within q_hk_colouring q_hk_chances hk ++ (wBo g a_bo q_bo_rings bo ++ [])) (wHK g a_hk q_hk_reader q_hk_rings q_hk_now q_hk_tried q_hk_history (a_bo 0) q_hk_search q_hk_within q_hk_colouring q_hk_chances o_hk ++ (wBo g a_bo q_bo_rings bo ++ [])) r_ sz) (by decide) rfl ?_
  intro p e s m args below meth c ls Q A ha hQ hA X hl hI hin
  have X : Cx p s m args meth c cX11_left 1 RX11 (some .int) := X
  have hl : lv_has ls 1 [(0, .ref (a_hk 0))] := hl
  obtain ⟨hx, hb, hml, hown, ht, hr, hlk⟩ := id X
  clear ha hin
  unfold f_X11_left at hf
  refine lv_aload_n hx hb dX11_left_0 rfl (lv_at hl 0 rfl) ?_
  refine g_HK_there X hI has_HK.l (X.fl w_686) dX11_left_1 ?_
  refine lv_if_eq (tgt := 21) hx hb dX11_left_4 (by decide) (fun h_ => ?_) (fun h_ => ?_)
  · replace hf := if_t h_ hf
    refine lv_aload_n hx hb dX11_left_21 rfl (lv_at hl 0 rfl) ?_
    refine lv_iconst (v := 1) hx hb dX11_left_22 (by decide) ?_
    obtain ⟨r_1, hk_2, hc_, hf⟩ := bd2_some hf
    refine call_Vi X hI (Cj.keep Cj.nil) (c_X11_refuse l g a_hk q_hk_reader q_hk_rings q_hk_now q_hk_tried q_hk_history (a_bo 0) q_hk_search q_hk_within q_hk_colouring q_hk_chances hk (1 : Int32) r_1 hk_2 hc_) ⟨rfl, rfl⟩ ⟨ht _ w_729, w_732, ht _ w_139, lk_X11_refuse⟩ w_731 w_0 rfl rfl rfl hl rfl rfl dX11_left_23 rfl rfl rfl rfl (fun H locs hI => ?_)
    cases hf
    exact end_i hQ hA X hI dX11_left_26
  · replace hf := if_f h_ hf
    refine lv_aload_n hx hb dX11_left_7 rfl (lv_at hl 0 rfl) ?_
    refine lv_aload_n hx hb dX11_left_8 rfl (lv_at hl 0 rfl) ?_
    refine g_HK_board X hI has_HK.l (X.fl w_681) dX11_left_9 ?_
    refine g_Bo_left X hI has_Bo.l.r (hI.fn (List.mem_of_getElem? (i := 70) rfl)) dX11_left_12 ?_
    obtain ⟨r_3, hk_4, hc_, hf⟩ := bd2_some hf
    refine call_Vi X hI (Cj.keep Cj.nil) (c_X11_grant l g a_hk q_hk_reader q_hk_rings q_hk_now q_hk_tried q_hk_history (a_bo 0) q_hk_search q_hk_within q_hk_colouring q_hk_chances hk (Bo_left bo) r_3 hk_4 hc_) ⟨rfl, rfl⟩ ⟨ht _ w_995, w_998, ht _ w_139, lk_X11_grant⟩ w_997 w_37 rfl rfl rfl hl rfl rfl dX11_left_15 rfl rfl rfl rfl (fun H locs hI => ?_)
    refine lv_goto (tgt := 26) hx hb dX11_left_18 (by decide) ?_
    cases hf
    exact end_i hQ hA X hI dX11_left_26
abbrev rm_X11_loose : Room := { frames := 1, cells := 0, slots := 0, locals := 21 }
set_option maxRecDepth 20000 in
theorem c_X11_loose (l : Launch) (g : GT) (a_hk : Nat → Nat) (a_bo : Nat → Nat) (q_hk_reader : Nat) (q_hk_rings : Nat) (q_hk_now : Nat) (q_hk_tried : Nat) (q_hk_history : Nat) (q_hk_search : Nat) (q_hk_within : Nat) (q_hk_colouring : Nat) (q_hk_chances : Nat) (q_bo_rings : Nat) (hk : HKS) (bo : BoS) (r_ : Int32) (o_hk : HKS) (hf : f_X11_loose hk bo = some (r_, o_hk)) : CI l yX11_loose cX11_loose 1 (some .int) rm_X11_loose g [.ref (a_hk 0)] (wHK g a_hk q_hk_reader q_hk_rings q_hk_now q_hk_tried q_hk_history (a_bo 0) q_hk_search q_hk_within q_hk_colouring q_hk_chances hk ++ (wBo g a_bo q_bo_rings bo ++ [])) (wHK g a_hk q_hk_reader q_hk_rings q_hk_now q_hk_tried q_hk_history (a_bo 0) q_hk_search q_hk_within q_hk_colouring q_hk_chances o_hk ++ (wBo g a_bo q_bo_rings bo ++ [])) r_ := by
  refine start2 (y := yX11_loose) (cc := cX11_loose) (n := 1) (av := [.ref (a_hk 0)]) (ws := (wHK g a_hk q_hk_reader q_hk_rings q_hk_now q_hk_tried q_hk_history (a_bo 0) q_hk_search q_hk_within q_hk_colouring q_hk_chances hk ++ (wBo g a_bo q_bo_rings bo ++ []))) (Qc := fun sz => QI g (wHK g a_hk q_hk_reader q_hk_rings q_hk_now q_hk_tried q_hk_history (a_bo 0) q_hk_search q_hk_within q_hk_colouring q_hk_chances hk ++ (wBo g a_bo q_bo_rings bo ++ [])) (wHK g a_hk q_hk_reader q_hk_rings q_hk_now q_hk_tried q_hk_history (a_bo 0) q_hk_search q_hk_within q_hk_colouring q_hk_chances o_hk ++ (wBo g a_bo q_bo_rings bo ++ [])) r_ sz) (by decide) rfl ?_
  intro p e s m args below meth c ls Q A ha hQ hA X hl hI hin
  have X : Cx p s m args meth c cX11_loose 1 RX11 (some .int) := X
  have hl : lv_has ls 1 [(0, .ref (a_hk 0))] := hl
  obtain ⟨hx, hb, hml, hown, ht, hr, hlk⟩ := id X
  clear ha hin
  have L_23 : ∀ (t1i : Int32) (hk : HKS) (H : Heap) (locs : List Loc) (ls : Array Slot), lv_has ls 1 [] → In g A s.heap s (wHK g a_hk q_hk_reader q_hk_rings q_hk_now q_hk_tried q_hk_history (a_bo 0) q_hk_search q_hk_within q_hk_colouring q_hk_chances hk ++ (wBo g a_bo q_bo_rings bo ++ [])) H locs → f_X11_loose_L23 t1i hk = some (r_, o_hk) → W p l e rm_X11_loose s m args below meth c H locs 0 0 Q (F0 m 23 ls [.int t1i, .ref (a_hk 0)]) := by
    intro t1i hk H locs ls hl hI hf
    unfold f_X11_loose_L23 at hf
    obtain ⟨r_3, hk_4, hc_, hf⟩ := bd2_some hf
    refine call_Vi X hI (Cj.keep Cj.nil) (c_X11_grant l g a_hk q_hk_reader q_hk_rings q_hk_now q_hk_tried q_hk_history (a_bo 0) q_hk_search q_hk_within q_hk_colouring q_hk_chances hk t1i r_3 hk_4 hc_) ⟨rfl, rfl⟩ ⟨ht _ w_995, w_998, ht _ w_139, lk_X11_grant⟩ w_997 w_37 rfl rfl rfl hl rfl rfl dX11_loose_23 rfl rfl rfl rfl (fun H locs hI => ?_)
    refine lv_goto (tgt := 34) hx hb dX11_loose_26 (by decide) ?_
    cases hf
    exact end_i hQ hA X hI dX11_loose_34
  unfold f_X11_loose at hf
  refine lv_aload_n hx hb dX11_loose_0 rfl (lv_at hl 0 rfl) ?_
  refine g_HK_there X hI has_HK.l (X.fl w_686) dX11_loose_1 ?_
  refine lv_if_eq (tgt := 29) hx hb dX11_loose_4 (by decide) (fun h_ => ?_) (fun h_ => ?_)
  · replace hf := if_t h_ hf
    refine lv_aload_n hx hb dX11_loose_29 rfl (lv_at hl 0 rfl) ?_
    refine lv_iconst (v := 1) hx hb dX11_loose_30 (by decide) ?_
    obtain ⟨r_1, hk_2, hc_, hf⟩ := bd2_some hf
    refine call_Vi X hI (Cj.keep Cj.nil) (c_X11_refuse l g a_hk q_hk_reader q_hk_rings q_hk_now q_hk_tried q_hk_history (a_bo 0) q_hk_search q_hk_within q_hk_colouring q_hk_chances hk (1 : Int32) r_1 hk_2 hc_) ⟨rfl, rfl⟩ ⟨ht _ w_729, w_732, ht _ w_139, lk_X11_refuse⟩ w_731 w_0 rfl rfl rfl hl rfl rfl dX11_loose_31 rfl rfl rfl rfl (fun H locs hI => ?_)
    cases hf
    exact end_i hQ hA X hI dX11_loose_34
  · replace hf := if_f h_ hf
    refine lv_aload_n hx hb dX11_loose_7 rfl (lv_at hl 0 rfl) ?_
    refine lv_aload_n hx hb dX11_loose_8 rfl (lv_at hl 0 rfl) ?_
    refine g_HK_board X hI has_HK.l (X.fl w_681) dX11_loose_9 ?_
    refine g_Bo_left X hI has_Bo.l.r (hI.fn (List.mem_of_getElem? (i := 70) rfl)) dX11_loose_12 ?_
    refine lv_if_ne (tgt := 22) hx hb dX11_loose_15 (by decide) (fun h_ => ?_) (fun h_ => ?_)
    · replace hf := if_f h_ hf
      refine lv_iconst (v := 0) hx hb dX11_loose_22 (by decide) ?_
      exact L_23 (0 : Int32) hk _ _ _ (lv_sub hl [] rfl) hI hf
    · replace hf := if_t h_ hf
      refine lv_iconst (v := 1) hx hb dX11_loose_18 (by decide) ?_
      refine lv_goto (tgt := 23) hx hb dX11_loose_19 (by decide) ?_
      exact L_23 (1 : Int32) hk _ _ _ (lv_sub hl [] rfl) hI hf
abbrev rm_X11_may : Room := { frames := 4, cells := 0, slots := 0, locals := 87 }
set_option maxRecDepth 20000 in
theorem c_X11_may (l : Launch) (g : GT) (a_hk : Nat → Nat) (a_bo : Nat → Nat) (a_ri : Nat → Nat) (q_hk_reader : Nat) (q_hk_now : Nat) (q_hk_tried : Nat) (q_hk_history : Nat) (q_hk_search : Nat) (q_hk_within : Nat) (q_hk_colouring : Nat) (q_hk_chances : Nat) (hk : HKS) (bo : BoS) (ri : RiS) (p1 : Int32) (r_ : Int32) (o_hk : HKS) (hf : f_X11_may hk bo ri p1 = some (r_, o_hk)) : CI l yX11_may cX11_may 2 (some .int) rm_X11_may g [.ref (a_hk 0), .int p1] (wHK g a_hk q_hk_reader (a_ri 0) q_hk_now q_hk_tried q_hk_history (a_bo 0) q_hk_search q_hk_within q_hk_colouring q_hk_chances hk ++ (wBo g a_bo (a_ri 0) bo ++ (wRi g a_ri ri ++ []))) (wHK g a_hk q_hk_reader (a_ri 0) q_hk_now q_hk_tried q_hk_history (a_bo 0) q_hk_search q_hk_within q_hk_colouring q_hk_chances o_hk ++ (wBo g a_bo (a_ri 0) bo ++ (wRi g a_ri ri ++ []))) r_ := by
  refine start2 (y := yX11_may) (cc := cX11_may) (n := 2) (av := [.ref (a_hk 0), .int p1]) (ws := (wHK g a_hk q_hk_reader (a_ri 0) q_hk_now q_hk_tried q_hk_history (a_bo 0) q_hk_search q_hk_within q_hk_colouring q_hk_chances hk ++ (wBo g a_bo (a_ri 0) bo ++ (wRi g a_ri ri ++ [])))) (Qc := fun sz => QI g (wHK g a_hk q_hk_reader (a_ri 0) q_hk_now q_hk_tried q_hk_history (a_bo 0) q_hk_search q_hk_within q_hk_colouring q_hk_chances hk ++ (wBo g a_bo (a_ri 0) bo ++ (wRi g a_ri ri ++ []))) (wHK g a_hk q_hk_reader (a_ri 0) q_hk_now q_hk_tried q_hk_history (a_bo 0) q_hk_search q_hk_within q_hk_colouring q_hk_chances o_hk ++ (wBo g a_bo (a_ri 0) bo ++ (wRi g a_ri ri ++ []))) r_ sz) (by decide) rfl ?_
  intro p e s m args below meth c ls Q A ha hQ hA X hl hI hin
  have X : Cx p s m args meth c cX11_may 2 RX11 (some .int) := X
  have hl : lv_has ls 2 [(0, .ref (a_hk 0)), (1, .int p1)] := hl
  obtain ⟨hx, hb, hml, hown, ht, hr, hlk⟩ := id X
  clear ha hin
  have L_25 : ∀ (t1i : Int32) (hk : HKS) (H : Heap) (locs : List Loc) (ls : Array Slot), lv_has ls 2 [] → In g A s.heap s (wHK g a_hk q_hk_reader (a_ri 0) q_hk_now q_hk_tried q_hk_history (a_bo 0) q_hk_search q_hk_within q_hk_colouring q_hk_chances hk ++ (wBo g a_bo (a_ri 0) bo ++ (wRi g a_ri ri ++ []))) H locs → f_X11_may_L25 t1i hk = some (r_, o_hk) → W p l e rm_X11_may s m args below meth c H locs 0 0 Q (F0 m 25 ls [.int t1i, .ref (a_hk 0)]) := by
    intro t1i hk H locs ls hl hI hf
    unfold f_X11_may_L25 at hf
    obtain ⟨r_5, hk_6, hc_, hf⟩ := bd2_some hf
    refine call_Vi X hI (Cj.keep Cj.nil) (c_X11_grant l g a_hk q_hk_reader (a_ri 0) q_hk_now q_hk_tried q_hk_history (a_bo 0) q_hk_search q_hk_within q_hk_colouring q_hk_chances hk t1i r_5 hk_6 hc_) ⟨rfl, rfl⟩ ⟨ht _ w_995, w_998, ht _ w_139, lk_X11_grant⟩ w_997 w_37 rfl rfl rfl hl rfl rfl dX11_may_25 rfl rfl rfl rfl (fun H locs hI => ?_)
    refine lv_goto (tgt := 36) hx hb dX11_may_28 (by decide) ?_
    cases hf
    exact end_i hQ hA X hI dX11_may_36
  unfold f_X11_may at hf
  refine lv_aload_n hx hb dX11_may_0 rfl (lv_at hl 0 rfl) ?_
  refine lv_iload_n hx hb dX11_may_1 rfl (lv_at hl 1 rfl) ?_
  obtain ⟨r_1, hc_, hf⟩ := bd1_some hf
  refine call_Vi X hI (Cj.keep (Cj.skip (Cj.keep Cj.id))) (c_X11_isMove l g a_hk a_ri q_hk_reader q_hk_now q_hk_tried q_hk_history (a_bo 0) q_hk_search q_hk_within q_hk_colouring q_hk_chances hk ri p1 r_1 hc_) ⟨rfl, rfl⟩ ⟨ht _ w_1089, w_1092, ht _ w_139, lk_X11_isMove⟩ w_1091 w_44 rfl rfl rfl hl rfl rfl dX11_may_2 rfl rfl rfl rfl (fun H locs hI => ?_)
  refine lv_if_eq (tgt := 31) hx hb dX11_may_5 (by decide) (fun h_ => ?_) (fun h_ => ?_)
  · replace hf := if_t h_ hf
    refine lv_aload_n hx hb dX11_may_31 rfl (lv_at hl 0 rfl) ?_
    refine lv_iconst (v := 1) hx hb dX11_may_32 (by decide) ?_
    obtain ⟨r_2, hk_3, hc_, hf⟩ := bd2_some hf
    refine call_Vi X hI (Cj.keep Cj.nil) (c_X11_refuse l g a_hk q_hk_reader (a_ri 0) q_hk_now q_hk_tried q_hk_history (a_bo 0) q_hk_search q_hk_within q_hk_colouring q_hk_chances hk (1 : Int32) r_2 hk_3 hc_) ⟨rfl, rfl⟩ ⟨ht _ w_729, w_732, ht _ w_139, lk_X11_refuse⟩ w_731 w_0 rfl rfl rfl hl rfl rfl dX11_may_33 rfl rfl rfl rfl (fun H locs hI => ?_)
    cases hf
    exact end_i hQ hA X hI dX11_may_36
  · replace hf := if_f h_ hf
    refine lv_aload_n hx hb dX11_may_8 rfl (lv_at hl 0 rfl) ?_
    refine lv_aload_n hx hb dX11_may_9 rfl (lv_at hl 0 rfl) ?_
    refine g_HK_board X hI has_HK.l (X.fl w_681) dX11_may_10 ?_
    refine lv_iload_n hx hb dX11_may_13 rfl (lv_at hl 1 rfl) ?_
    obtain ⟨r_4, hc_, hf⟩ := bd1_some hf
    refine call_Vi X hI (Cj.skip (Cj.keep (Cj.keep Cj.id))) (c_X0_allows l g a_bo a_ri bo ri p1 r_4 hc_) ⟨rfl, rfl⟩ ⟨ht _ w_1105, w_1108, ht _ w_150, lk_X0_allows⟩ w_1106 w_1107 rfl rfl rfl hl rfl rfl dX11_may_14 rfl rfl rfl rfl (fun H locs hI => ?_)
    refine lv_if_eq (tgt := 24) hx hb dX11_may_17 (by decide) (fun h_ => ?_) (fun h_ => ?_)
    · replace hf := if_t h_ hf
      refine lv_iconst (v := 0) hx hb dX11_may_24 (by decide) ?_
      exact L_25 (0 : Int32) hk _ _ _ (lv_sub hl [] rfl) hI hf
    · replace hf := if_f h_ hf
      refine lv_iconst (v := 1) hx hb dX11_may_20 (by decide) ?_
      refine lv_goto (tgt := 25) hx hb dX11_may_21 (by decide) ?_
      exact L_25 (1 : Int32) hk _ _ _ (lv_sub hl [] rfl) hI hf
abbrev rm_X11_goer : Room := { frames := 3, cells := 0, slots := 0, locals := 68 }
set_option maxRecDepth 20000 in
theorem c_X11_goer (l : Launch) (g : GT) (a_hk : Nat → Nat) (a_bo : Nat → Nat) (a_ri : Nat → Nat) (q_hk_reader : Nat) (q_hk_now : Nat) (q_hk_tried : Nat) (q_hk_history : Nat) (q_hk_search : Nat) (q_hk_within : Nat) (q_hk_colouring : Nat) (q_hk_chances : Nat) (hk : HKS) (bo : BoS) (ri : RiS) (p1 : Int32) (r_ : Int32) (o_hk : HKS) (hf : f_X11_goer hk bo ri p1 = some (r_, o_hk)) : CI l yX11_goer cX11_goer 2 (some .int) rm_X11_goer g [.ref (a_hk 0), .int p1] (wHK g a_hk q_hk_reader (a_ri 0) q_hk_now q_hk_tried q_hk_history (a_bo 0) q_hk_search q_hk_within q_hk_colouring q_hk_chances hk ++ (wBo g a_bo (a_ri 0) bo ++ (wRi g a_ri ri ++ []))) (wHK g a_hk q_hk_reader (a_ri 0) q_hk_now q_hk_tried q_hk_history (a_bo 0) q_hk_search q_hk_within q_hk_colouring q_hk_chances o_hk ++ (wBo g a_bo (a_ri 0) bo ++ (wRi g a_ri ri ++ []))) r_ := by
  refine start2 (y := yX11_goer) (cc := cX11_goer) (n := 2) (av := [.ref (a_hk 0), .int p1]) (ws := (wHK g a_hk q_hk_reader (a_ri 0) q_hk_now q_hk_tried q_hk_history (a_bo 0) q_hk_search q_hk_within q_hk_colouring q_hk_chances hk ++ (wBo g a_bo (a_ri 0) bo ++ (wRi g a_ri ri ++ [])))) (Qc := fun sz => QI g (wHK g a_hk q_hk_reader (a_ri 0) q_hk_now q_hk_tried q_hk_history (a_bo 0) q_hk_search q_hk_within q_hk_colouring q_hk_chances hk ++ (wBo g a_bo (a_ri 0) bo ++ (wRi g a_ri ri ++ []))) (wHK g a_hk q_hk_reader (a_ri 0) q_hk_now q_hk_tried q_hk_history (a_bo 0) q_hk_search q_hk_within q_hk_colouring q_hk_chances o_hk ++ (wBo g a_bo (a_ri 0) bo ++ (wRi g a_ri ri ++ []))) r_ sz) (by decide) rfl ?_
  intro p e s m args below meth c ls Q A ha hQ hA X hl hI hin
  have X : Cx p s m args meth c cX11_goer 2 RX11 (some .int) := X
  have hl : lv_has ls 2 [(0, .ref (a_hk 0)), (1, .int p1)] := hl
  obtain ⟨hx, hb, hml, hown, ht, hr, hlk⟩ := id X
  clear ha hin
  unfold f_X11_goer at hf
  refine lv_aload_n hx hb dX11_goer_0 rfl (lv_at hl 0 rfl) ?_
  refine lv_iload_n hx hb dX11_goer_1 rfl (lv_at hl 1 rfl) ?_
  obtain ⟨r_1, hc_, hf⟩ := bd1_some hf
  refine call_Vi X hI (Cj.keep (Cj.skip (Cj.keep Cj.id))) (c_X11_isMove l g a_hk a_ri q_hk_reader q_hk_now q_hk_tried q_hk_history (a_bo 0) q_hk_search q_hk_within q_hk_colouring q_hk_chances hk ri p1 r_1 hc_) ⟨rfl, rfl⟩ ⟨ht _ w_1089, w_1092, ht _ w_139, lk_X11_isMove⟩ w_1091 w_44 rfl rfl rfl hl rfl rfl dX11_goer_2 rfl rfl rfl rfl (fun H locs hI => ?_)
  refine lv_if_ne (tgt := 14) hx hb dX11_goer_5 (by decide) (fun h_ => ?_) (fun h_ => ?_)
  · replace hf := if_f h_ hf
    refine lv_aload_n hx hb dX11_goer_14 rfl (lv_at hl 0 rfl) ?_
    refine g_HK_board X hI has_HK.l (X.fl w_681) dX11_goer_15 ?_
    refine lv_iload_n hx hb dX11_goer_18 rfl (lv_at hl 1 rfl) ?_
    obtain ⟨r_2, hc_, hf⟩ := bd1_some hf
    refine call_Vi X hI (Cj.skip (Cj.keep Cj.nil)) (c_X0_can l g a_bo (a_ri 0) bo p1 r_2 hc_) ⟨rfl, rfl⟩ ⟨ht _ w_1121, w_1112, ht _ w_150, lk_X0_can⟩ w_1110 w_1111 rfl rfl rfl hl rfl rfl dX11_goer_19 rfl rfl rfl rfl (fun H locs hI => ?_)
    refine lv_if_ne (tgt := 31) hx hb dX11_goer_22 (by decide) (fun h_ => ?_) (fun h_ => ?_)
    · replace hf := if_f h_ hf
      refine lv_aload_n hx hb dX11_goer_31 rfl (lv_at hl 0 rfl) ?_
      refine lv_aload_n hx hb dX11_goer_32 rfl (lv_at hl 0 rfl) ?_
      refine g_HK_board X hI has_HK.l (X.fl w_681) dX11_goer_33 ?_
      refine lv_iload_n hx hb dX11_goer_36 rfl (lv_at hl 1 rfl) ?_
      obtain ⟨r_3, hc_, hf⟩ := bd1_some hf
      refine call_Vi X hI (Cj.skip (Cj.keep (Cj.keep Cj.id))) (c_X0_whoGoes l g a_bo a_ri bo ri p1 r_3 hc_) ⟨rfl, rfl⟩ ⟨ht _ w_1122, w_1125, ht _ w_150, lk_X0_whoGoes⟩ w_1123 w_1124 rfl rfl rfl hl rfl rfl dX11_goer_37 rfl rfl rfl rfl (fun H locs hI => ?_)
      obtain ⟨r_4, hk_5, hc_, hf⟩ := bd2_some hf
      refine call_Vi X hI (Cj.keep Cj.nil) (c_X11_grant l g a_hk q_hk_reader (a_ri 0) q_hk_now q_hk_tried q_hk_history (a_bo 0) q_hk_search q_hk_within q_hk_colouring q_hk_chances hk r_3 r_4 hk_5 hc_) ⟨rfl, rfl⟩ ⟨ht _ w_995, w_998, ht _ w_139, lk_X11_grant⟩ w_997 w_37 rfl rfl rfl hl rfl rfl dX11_goer_40 rfl rfl rfl rfl (fun H locs hI => ?_)
      cases hf
      exact end_i hQ hA X hI dX11_goer_43
    · replace hf := if_t h_ hf
      refine lv_aload_n hx hb dX11_goer_25 rfl (lv_at hl 0 rfl) ?_
      refine lv_iconst (v := 5) hx hb dX11_goer_26 (by decide) ?_
      obtain ⟨r_6, hk_7, hc_, hf⟩ := bd2_some hf
      refine call_Vi X hI (Cj.keep Cj.nil) (c_X11_refuse l g a_hk q_hk_reader (a_ri 0) q_hk_now q_hk_tried q_hk_history (a_bo 0) q_hk_search q_hk_within q_hk_colouring q_hk_chances hk (5 : Int32) r_6 hk_7 hc_) ⟨rfl, rfl⟩ ⟨ht _ w_729, w_732, ht _ w_139, lk_X11_refuse⟩ w_731 w_0 rfl rfl rfl hl rfl rfl dX11_goer_27 rfl rfl rfl rfl (fun H locs hI => ?_)
      cases hf
      exact end_i hQ hA X hI dX11_goer_30
  · replace hf := if_t h_ hf
    refine lv_aload_n hx hb dX11_goer_8 rfl (lv_at hl 0 rfl) ?_
    refine lv_iconst (v := 1) hx hb dX11_goer_9 (by decide) ?_
    obtain ⟨r_8, hk_9, hc_, hf⟩ := bd2_some hf
    refine call_Vi X hI (Cj.keep Cj.nil) (c_X11_refuse l g a_hk q_hk_reader (a_ri 0) q_hk_now q_hk_tried q_hk_history (a_bo 0) q_hk_search q_hk_within q_hk_colouring q_hk_chances hk (1 : Int32) r_8 hk_9 hc_) ⟨rfl, rfl⟩ ⟨ht _ w_729, w_732, ht _ w_139, lk_X11_refuse⟩ w_731 w_0 rfl rfl rfl hl rfl rfl dX11_goer_10 rfl rfl rfl rfl (fun H locs hI => ?_)
    cases hf
    exact end_i hQ hA X hI dX11_goer_13
abbrev rm_X11_moves : Room := { frames := 1, cells := 0, slots := 0, locals := 21 }
set_option maxRecDepth 20000 in
theorem c_X11_moves (l : Launch) (g : GT) (a_hk : Nat → Nat) (a_bo : Nat → Nat) (q_hk_reader : Nat) (q_hk_rings : Nat) (q_hk_now : Nat) (q_hk_tried : Nat) (q_hk_history : Nat) (q_hk_search : Nat) (q_hk_within : Nat) (q_hk_colouring : Nat) (q_hk_chances : Nat) (q_bo_rings : Nat) (hk : HKS) (bo : BoS) (r_ : Int32) (o_hk : HKS) (hf : f_X11_moves hk bo = some (r_, o_hk)) : CI l yX11_moves cX11_moves 1 (some .int) rm_X11_moves g [.ref (a_hk 0)] (wHK g a_hk q_hk_reader q_hk_rings q_hk_now q_hk_tried q_hk_history (a_bo 0) q_hk_search q_hk_within q_hk_colouring q_hk_chances hk ++ (wBo g a_bo q_bo_rings bo ++ [])) (wHK g a_hk q_hk_reader q_hk_rings q_hk_now q_hk_tried q_hk_history (a_bo 0) q_hk_search q_hk_within q_hk_colouring q_hk_chances o_hk ++ (wBo g a_bo q_bo_rings bo ++ [])) r_ := by
  refine start2 (y := yX11_moves) (cc := cX11_moves) (n := 1) (av := [.ref (a_hk 0)]) (ws := (wHK g a_hk q_hk_reader q_hk_rings q_hk_now q_hk_tried q_hk_history (a_bo 0) q_hk_search q_hk_within q_hk_colouring q_hk_chances hk ++ (wBo g a_bo q_bo_rings bo ++ []))) (Qc := fun sz => QI g (wHK g a_hk q_hk_reader q_hk_rings q_hk_now q_hk_tried q_hk_history (a_bo 0) q_hk_search q_hk_within q_hk_colouring q_hk_chances hk ++ (wBo g a_bo q_bo_rings bo ++ [])) (wHK g a_hk q_hk_reader q_hk_rings q_hk_now q_hk_tried q_hk_history (a_bo 0) q_hk_search q_hk_within q_hk_colouring q_hk_chances o_hk ++ (wBo g a_bo q_bo_rings bo ++ [])) r_ sz) (by decide) rfl ?_
  intro p e s m args below meth c ls Q A ha hQ hA X hl hI hin
  have X : Cx p s m args meth c cX11_moves 1 RX11 (some .int) := X
  have hl : lv_has ls 1 [(0, .ref (a_hk 0))] := hl
  obtain ⟨hx, hb, hml, hown, ht, hr, hlk⟩ := id X
  clear ha hin
  unfold f_X11_moves at hf
  refine lv_aload_n hx hb dX11_moves_0 rfl (lv_at hl 0 rfl) ?_
  refine g_HK_there X hI has_HK.l (X.fl w_686) dX11_moves_1 ?_
  refine lv_if_eq (tgt := 21) hx hb dX11_moves_4 (by decide) (fun h_ => ?_) (fun h_ => ?_)
  · replace hf := if_t h_ hf
    refine lv_aload_n hx hb dX11_moves_21 rfl (lv_at hl 0 rfl) ?_
    refine lv_iconst (v := 1) hx hb dX11_moves_22 (by decide) ?_
    obtain ⟨r_1, hk_2, hc_, hf⟩ := bd2_some hf
    refine call_Vi X hI (Cj.keep Cj.nil) (c_X11_refuse l g a_hk q_hk_reader q_hk_rings q_hk_now q_hk_tried q_hk_history (a_bo 0) q_hk_search q_hk_within q_hk_colouring q_hk_chances hk (1 : Int32) r_1 hk_2 hc_) ⟨rfl, rfl⟩ ⟨ht _ w_729, w_732, ht _ w_139, lk_X11_refuse⟩ w_731 w_0 rfl rfl rfl hl rfl rfl dX11_moves_23 rfl rfl rfl rfl (fun H locs hI => ?_)
    cases hf
    exact end_i hQ hA X hI dX11_moves_26
  · replace hf := if_f h_ hf
    refine lv_aload_n hx hb dX11_moves_7 rfl (lv_at hl 0 rfl) ?_
    refine lv_aload_n hx hb dX11_moves_8 rfl (lv_at hl 0 rfl) ?_
    refine g_HK_board X hI has_HK.l (X.fl w_681) dX11_moves_9 ?_
    refine g_Bo_count X hI has_Bo.l.r (hI.fn (List.mem_of_getElem? (i := 78) rfl)) dX11_moves_12 ?_
    obtain ⟨r_3, hk_4, hc_, hf⟩ := bd2_some hf
    refine call_Vi X hI (Cj.keep Cj.nil) (c_X11_grant l g a_hk q_hk_reader q_hk_rings q_hk_now q_hk_tried q_hk_history (a_bo 0) q_hk_search q_hk_within q_hk_colouring q_hk_chances hk (Bo_count bo) r_3 hk_4 hc_) ⟨rfl, rfl⟩ ⟨ht _ w_995, w_998, ht _ w_139, lk_X11_grant⟩ w_997 w_37 rfl rfl rfl hl rfl rfl dX11_moves_15 rfl rfl rfl rfl (fun H locs hI => ?_)
    refine lv_goto (tgt := 26) hx hb dX11_moves_18 (by decide) ?_
    cases hf
    exact end_i hQ hA X hI dX11_moves_26
abbrev rm_X11_moveAt : Room := { frames := 1, cells := 0, slots := 0, locals := 21 }
set_option maxRecDepth 20000 in
theorem c_X11_moveAt (l : Launch) (g : GT) (a_hk : Nat → Nat) (a_bo : Nat → Nat) (q_hk_reader : Nat) (q_hk_rings : Nat) (q_hk_now : Nat) (q_hk_tried : Nat) (q_hk_history : Nat) (q_hk_search : Nat) (q_hk_within : Nat) (q_hk_colouring : Nat) (q_hk_chances : Nat) (q_bo_rings : Nat) (hk : HKS) (bo : BoS) (p1 : Int32) (r_ : Int32) (o_hk : HKS) (hf : f_X11_moveAt hk bo p1 = some (r_, o_hk)) : CI l yX11_moveAt cX11_moveAt 2 (some .int) rm_X11_moveAt g [.ref (a_hk 0), .int p1] (wHK g a_hk q_hk_reader q_hk_rings q_hk_now q_hk_tried q_hk_history (a_bo 0) q_hk_search q_hk_within q_hk_colouring q_hk_chances hk ++ (wBo g a_bo q_bo_rings bo ++ [])) (wHK g a_hk q_hk_reader q_hk_rings q_hk_now q_hk_tried q_hk_history (a_bo 0) q_hk_search q_hk_within q_hk_colouring q_hk_chances o_hk ++ (wBo g a_bo q_bo_rings bo ++ [])) r_ := by
  refine start2 (y := yX11_moveAt) (cc := cX11_moveAt) (n := 2) (av := [.ref (a_hk 0), .int p1]) (ws := (wHK g a_hk q_hk_reader q_hk_rings q_hk_now q_hk_tried q_hk_history (a_bo 0) q_hk_search q_hk_within q_hk_colouring q_hk_chances hk ++ (wBo g a_bo q_bo_rings bo ++ []))) (Qc := fun sz => QI g (wHK g a_hk q_hk_reader q_hk_rings q_hk_now q_hk_tried q_hk_history (a_bo 0) q_hk_search q_hk_within q_hk_colouring q_hk_chances hk ++ (wBo g a_bo q_bo_rings bo ++ [])) (wHK g a_hk q_hk_reader q_hk_rings q_hk_now q_hk_tried q_hk_history (a_bo 0) q_hk_search q_hk_within q_hk_colouring q_hk_chances o_hk ++ (wBo g a_bo q_bo_rings bo ++ [])) r_ sz) (by decide) rfl ?_
  intro p e s m args below meth c ls Q A ha hQ hA X hl hI hin
  have X : Cx p s m args meth c cX11_moveAt 2 RX11 (some .int) := X
  have hl : lv_has ls 2 [(0, .ref (a_hk 0)), (1, .int p1)] := hl
  obtain ⟨hx, hb, hml, hown, ht, hr, hlk⟩ := id X
  clear ha hin
  have L_22 : ∀ (hk : HKS) (H : Heap) (locs : List Loc) (ls : Array Slot), lv_has ls 2 [(0, .ref (a_hk 0))] → In g A s.heap s (wHK g a_hk q_hk_reader q_hk_rings q_hk_now q_hk_tried q_hk_history (a_bo 0) q_hk_search q_hk_within q_hk_colouring q_hk_chances hk ++ (wBo g a_bo q_bo_rings bo ++ [])) H locs → f_X11_moveAt_L22 hk = some (r_, o_hk) → W p l e rm_X11_moveAt s m args below meth c H locs 0 0 Q (F0 m 22 ls []) := by
    intro hk H locs ls hl hI hf
    unfold f_X11_moveAt_L22 at hf
    refine lv_aload_n hx hb dX11_moveAt_22 rfl (lv_at hl 0 rfl) ?_
    refine lv_iconst (v := 1) hx hb dX11_moveAt_23 (by decide) ?_
    obtain ⟨r_3, hk_4, hc_, hf⟩ := bd2_some hf
    refine call_Vi X hI (Cj.keep Cj.nil) (c_X11_refuse l g a_hk q_hk_reader q_hk_rings q_hk_now q_hk_tried q_hk_history (a_bo 0) q_hk_search q_hk_within q_hk_colouring q_hk_chances hk (1 : Int32) r_3 hk_4 hc_) ⟨rfl, rfl⟩ ⟨ht _ w_729, w_732, ht _ w_139, lk_X11_refuse⟩ w_731 w_0 rfl rfl rfl hl rfl rfl dX11_moveAt_24 rfl rfl rfl rfl (fun H locs hI => ?_)
    cases hf
    exact end_i hQ hA X hI dX11_moveAt_27
  unfold f_X11_moveAt at hf
  refine lv_aload_n hx hb dX11_moveAt_0 rfl (lv_at hl 0 rfl) ?_
  refine g_HK_there X hI has_HK.l (X.fl w_686) dX11_moveAt_1 ?_
  refine lv_if_eq (tgt := 22) hx hb dX11_moveAt_4 (by decide) (fun h_ => ?_) (fun h_ => ?_)
  · replace hf := if_t h_ hf
    exact L_22 hk _ _ _ (lv_sub hl [0] rfl) hI hf
  · replace hf := if_f h_ hf
    refine lv_iload_n hx hb dX11_moveAt_7 rfl (lv_at hl 1 rfl) ?_
    refine lv_if_lt (tgt := 22) hx hb dX11_moveAt_8 (by decide) (fun h_ => ?_) (fun h_ => ?_)
    · replace hf := if_t h_ hf
      exact L_22 hk _ _ _ (lv_sub hl [0] rfl) hI hf
    · replace hf := if_f h_ hf
      refine lv_iload_n hx hb dX11_moveAt_11 rfl (lv_at hl 1 rfl) ?_
      refine lv_aload_n hx hb dX11_moveAt_12 rfl (lv_at hl 0 rfl) ?_
      refine g_HK_board X hI has_HK.l (X.fl w_681) dX11_moveAt_13 ?_
      refine g_Bo_count X hI has_Bo.l.r (hI.fn (List.mem_of_getElem? (i := 78) rfl)) dX11_moveAt_16 ?_
      refine lv_icmp_lt (tgt := 28) hx hb dX11_moveAt_19 (by decide) (fun h_ => ?_) (fun h_ => ?_)
      · replace hf := if_t h_ hf
        refine lv_aload_n hx hb dX11_moveAt_28 rfl (lv_at hl 0 rfl) ?_
        refine lv_aload_n hx hb dX11_moveAt_29 rfl (lv_at hl 0 rfl) ?_
        refine g_HK_board X hI has_HK.l (X.fl w_681) dX11_moveAt_30 ?_
        refine g_Bo_numbers X hI has_Bo.l.r (hI.fn (List.mem_of_getElem? (i := 75) rfl)) dX11_moveAt_33 ?_
        refine lv_iload_n hx hb dX11_moveAt_36 rfl (lv_at hl 1 rfl) ?_
        obtain ⟨h_, hf⟩ := ck_someM hf
        refine ld_I X hI has_Bo_numbers.l.r h_ dX11_moveAt_37 ?_
        obtain ⟨r_1, hk_2, hc_, hf⟩ := bd2_some hf
        refine call_Vi X hI (Cj.keep Cj.nil) (c_X11_grant l g a_hk q_hk_reader q_hk_rings q_hk_now q_hk_tried q_hk_history (a_bo 0) q_hk_search q_hk_within q_hk_colouring q_hk_chances hk (Bo_numbers bo (Int32.toNatClampNeg p1)) r_1 hk_2 hc_) ⟨rfl, rfl⟩ ⟨ht _ w_995, w_998, ht _ w_139, lk_X11_grant⟩ w_997 w_37 rfl rfl rfl hl rfl rfl dX11_moveAt_38 rfl rfl rfl rfl (fun H locs hI => ?_)
        cases hf
        exact end_i hQ hA X hI dX11_moveAt_41
      · replace hf := if_f h_ hf
        exact L_22 hk _ _ _ (lv_sub hl [0] rfl) hI hf
abbrev rm_X11_fewest : Room := { frames := 6, cells := 0, slots := 0, locals := 147 }
set_option maxRecDepth 20000 in
theorem c_X11_fewest (l : Launch) (g : GT) (a_hk : Nat → Nat) (a_se : Nat → Nat) (a_sb : Nat → Nat) (a_now : Nat → Nat) (a_ri : Nat → Nat) (q_hk_reader : Nat) (q_hk_tried : Nat) (q_hk_history : Nat) (q_hk_board : Nat) (q_hk_within : Nat) (q_hk_colouring : Nat) (q_hk_chances : Nat) (hk : HKS) (se : SeS) (sb : BoS) (now : MoS) (ri : RiS) (p1 : Int32) (r_ : Int32) (o_hk : HKS) (o_se : SeS) (o_sb : BoS) (hf : f_X11_fewest hk se sb now ri p1 = some (r_, o_hk, o_se, o_sb)) : CI l yX11_fewest cX11_fewest 3 (some .int) rm_X11_fewest g [.ref (a_hk 0), .int p1] (wHK g a_hk q_hk_reader (a_ri 0) (a_now 0) q_hk_tried q_hk_history q_hk_board (a_se 0) q_hk_within q_hk_colouring q_hk_chances hk ++ (wSe g a_se (a_sb 0) se ++ (wBo g a_sb (a_ri 0) sb ++ (wMo g a_now now ++ (wRi g a_ri ri ++ []))))) (wHK g a_hk q_hk_reader (a_ri 0) (a_now 0) q_hk_tried q_hk_history q_hk_board (a_se 0) q_hk_within q_hk_colouring q_hk_chances o_hk ++ (wSe g a_se (a_sb 0) o_se ++ (wBo g a_sb (a_ri 0) o_sb ++ (wMo g a_now now ++ (wRi g a_ri ri ++ []))))) r_ := by
  refine start2 (y := yX11_fewest) (cc := cX11_fewest) (n := 3) (av := [.ref (a_hk 0), .int p1]) (ws := (wHK g a_hk q_hk_reader (a_ri 0) (a_now 0) q_hk_tried q_hk_history q_hk_board (a_se 0) q_hk_within q_hk_colouring q_hk_chances hk ++ (wSe g a_se (a_sb 0) se ++ (wBo g a_sb (a_ri 0) sb ++ (wMo g a_now now ++ (wRi g a_ri ri ++ [])))))) (Qc := fun sz => QI g (wHK g a_hk q_hk_reader (a_ri 0) (a_now 0) q_hk_tried q_hk_history q_hk_board (a_se 0) q_hk_within q_hk_colouring q_hk_chances hk ++ (wSe g a_se (a_sb 0) se ++ (wBo g a_sb (a_ri 0) sb ++ (wMo g a_now now ++ (wRi g a_ri ri ++ []))))) (wHK g a_hk q_hk_reader (a_ri 0) (a_now 0) q_hk_tried q_hk_history q_hk_board (a_se 0) q_hk_within q_hk_colouring q_hk_chances o_hk ++ (wSe g a_se (a_sb 0) o_se ++ (wBo g a_sb (a_ri 0) o_sb ++ (wMo g a_now now ++ (wRi g a_ri ri ++ []))))) r_ sz) (by decide) rfl ?_
  intro p e s m args below meth c ls Q A ha hQ hA X hl hI hin
  have X : Cx p s m args meth c cX11_fewest 3 RX11 (some .int) := X
  have hl : lv_has ls 3 [(0, .ref (a_hk 0)), (1, .int p1)] := hl
  obtain ⟨hx, hb, hml, hown, ht, hr, hlk⟩ := id X
  clear ha hin
  unfold f_X11_fewest at hf
  refine lv_aload_n hx hb dX11_fewest_0 rfl (lv_at hl 0 rfl) ?_
  refine g_HK_there X hI has_HK.l (X.fl w_686) dX11_fewest_1 ?_
  refine lv_if_ne (tgt := 13) hx hb dX11_fewest_4 (by decide) (fun h_ => ?_) (fun h_ => ?_)
  · replace hf := if_f h_ hf
    refine lv_iload_n hx hb dX11_fewest_13 rfl (lv_at hl 1 rfl) ?_
    obtain ⟨r_1, hc_, hf⟩ := bd1_some hf
    refine call_Si X hI Cj.nil (c_X11_isDepth l g p1 r_1 hc_) ⟨rfl, rfl⟩ ⟨ht _ w_1138, w_1140, ht _ w_139, lk_X11_isDepth⟩ w_1139 rfl hl rfl rfl dX11_fewest_14 rfl rfl rfl rfl (fun H locs hI => ?_)
    refine lv_if_ne (tgt := 26) hx hb dX11_fewest_17 (by decide) (fun h_ => ?_) (fun h_ => ?_)
    · replace hf := if_f h_ hf
      refine lv_aload_n hx hb dX11_fewest_26 rfl (lv_at hl 0 rfl) ?_
      refine g_HK_search X hI has_HK.l (X.fl w_682) dX11_fewest_27 ?_
      refine lv_aload_n hx hb dX11_fewest_30 rfl (lv_at hl 0 rfl) ?_
      refine g_HK_now X hI has_HK.l (X.fl w_678) dX11_fewest_31 ?_
      refine lv_iload_n hx hb dX11_fewest_34 rfl (lv_at hl 1 rfl) ?_
      refine lv_iconst (v := 1) hx hb dX11_fewest_35 (by decide) ?_
      obtain ⟨r_2, se_3, sb_4, hc_, hf⟩ := bd3_some hf
      refine call_Vi X hI (Cj.skip (Cj.keep (Cj.keep (Cj.keep (Cj.keep Cj.id))))) (c_X7_grow l g a_se a_sb a_now a_ri se sb now ri p1 (1 : Int32) r_2 se_3 sb_4 hc_) ⟨rfl, rfl⟩ ⟨ht _ w_1141, w_1144, ht _ w_151, lk_X7_grow⟩ w_1142 w_1143 rfl rfl rfl hl rfl rfl dX11_fewest_36 rfl rfl rfl rfl (fun H locs hI => ?_)
      refine lv_istore_n (lv' := [(2, .int r_2), (0, .ref (a_hk 0)), (1, .int p1)]) hx hb dX11_fewest_39 rfl hl (by decide) rfl (fun ls hl => ?_)
      refine lv_iload_n hx hb dX11_fewest_40 rfl (lv_at hl 0 rfl) ?_
      refine lv_bipush (v := (-3)) hx hb dX11_fewest_41 (by decide) ?_
      refine lv_icmp_ne (tgt := 54) hx hb dX11_fewest_43 (by decide) (fun h_ => ?_) (fun h_ => ?_)
      · replace hf := if_f h_ hf
        refine lv_aload_n hx hb dX11_fewest_54 rfl (lv_at hl 1 rfl) ?_
        refine lv_iload_n hx hb dX11_fewest_55 rfl (lv_at hl 0 rfl) ?_
        obtain ⟨r_5, hk_6, hc_, hf⟩ := bd2_some hf
        refine call_Vi X hI (Cj.keep Cj.nil) (c_X11_grant l g a_hk q_hk_reader (a_ri 0) (a_now 0) q_hk_tried q_hk_history q_hk_board (a_se 0) q_hk_within q_hk_colouring q_hk_chances hk r_2 r_5 hk_6 hc_) ⟨rfl, rfl⟩ ⟨ht _ w_995, w_998, ht _ w_139, lk_X11_grant⟩ w_997 w_37 rfl rfl rfl hl rfl rfl dX11_fewest_56 rfl rfl rfl rfl (fun H locs hI => ?_)
        cases hf
        exact end_i hQ hA X hI dX11_fewest_59
      · replace hf := if_t h_ hf
        refine lv_aload_n hx hb dX11_fewest_46 rfl (lv_at hl 1 rfl) ?_
        refine lv_iconst (v := 3) hx hb dX11_fewest_47 (by decide) ?_
        obtain ⟨r_7, hk_8, hc_, hf⟩ := bd2_some hf
        refine call_Vi X hI (Cj.keep Cj.nil) (c_X11_refuse l g a_hk q_hk_reader (a_ri 0) (a_now 0) q_hk_tried q_hk_history q_hk_board (a_se 0) q_hk_within q_hk_colouring q_hk_chances hk (3 : Int32) r_7 hk_8 hc_) ⟨rfl, rfl⟩ ⟨ht _ w_729, w_732, ht _ w_139, lk_X11_refuse⟩ w_731 w_0 rfl rfl rfl hl rfl rfl dX11_fewest_48 rfl rfl rfl rfl (fun H locs hI => ?_)
        refine lv_goto (tgt := 59) hx hb dX11_fewest_51 (by decide) ?_
        cases hf
        exact end_i hQ hA X hI dX11_fewest_59
    · replace hf := if_t h_ hf
      refine lv_aload_n hx hb dX11_fewest_20 rfl (lv_at hl 0 rfl) ?_
      refine lv_iconst (v := 2) hx hb dX11_fewest_21 (by decide) ?_
      obtain ⟨r_9, hk_10, hc_, hf⟩ := bd2_some hf
      refine call_Vi X hI (Cj.keep Cj.nil) (c_X11_refuse l g a_hk q_hk_reader (a_ri 0) (a_now 0) q_hk_tried q_hk_history q_hk_board (a_se 0) q_hk_within q_hk_colouring q_hk_chances hk (2 : Int32) r_9 hk_10 hc_) ⟨rfl, rfl⟩ ⟨ht _ w_729, w_732, ht _ w_139, lk_X11_refuse⟩ w_731 w_0 rfl rfl rfl hl rfl rfl dX11_fewest_22 rfl rfl rfl rfl (fun H locs hI => ?_)
      cases hf
      exact end_i hQ hA X hI dX11_fewest_25
  · replace hf := if_t h_ hf
    refine lv_aload_n hx hb dX11_fewest_7 rfl (lv_at hl 0 rfl) ?_
    refine lv_iconst (v := 1) hx hb dX11_fewest_8 (by decide) ?_
    obtain ⟨r_11, hk_12, hc_, hf⟩ := bd2_some hf
    refine call_Vi X hI (Cj.keep Cj.nil) (c_X11_refuse l g a_hk q_hk_reader (a_ri 0) (a_now 0) q_hk_tried q_hk_history q_hk_board (a_se 0) q_hk_within q_hk_colouring q_hk_chances hk (1 : Int32) r_11 hk_12 hc_) ⟨rfl, rfl⟩ ⟨ht _ w_729, w_732, ht _ w_139, lk_X11_refuse⟩ w_731 w_0 rfl rfl rfl hl rfl rfl dX11_fewest_9 rfl rfl rfl rfl (fun H locs hI => ?_)
    cases hf
    exact end_i hQ hA X hI dX11_fewest_12
abbrev rm_X11_next : Room := { frames := 7, cells := 0, slots := 0, locals := 170 }
set_option maxRecDepth 20000 in
theorem c_X11_next (l : Launch) (g : GT) (a_hk : Nat → Nat) (a_se : Nat → Nat) (a_sb : Nat → Nat) (a_now : Nat → Nat) (a_ri : Nat → Nat) (q_hk_reader : Nat) (q_hk_tried : Nat) (q_hk_history : Nat) (q_hk_board : Nat) (q_hk_within : Nat) (q_hk_colouring : Nat) (q_hk_chances : Nat) (hk : HKS) (se : SeS) (sb : BoS) (now : MoS) (ri : RiS) (p1 : Int32) (r_ : Int32) (o_hk : HKS) (o_se : SeS) (o_sb : BoS) (hf : f_X11_next hk se sb now ri p1 = some (r_, o_hk, o_se, o_sb)) : CI l yX11_next cX11_next 3 (some .int) rm_X11_next g [.ref (a_hk 0), .int p1] (wHK g a_hk q_hk_reader (a_ri 0) (a_now 0) q_hk_tried q_hk_history q_hk_board (a_se 0) q_hk_within q_hk_colouring q_hk_chances hk ++ (wSe g a_se (a_sb 0) se ++ (wBo g a_sb (a_ri 0) sb ++ (wMo g a_now now ++ (wRi g a_ri ri ++ []))))) (wHK g a_hk q_hk_reader (a_ri 0) (a_now 0) q_hk_tried q_hk_history q_hk_board (a_se 0) q_hk_within q_hk_colouring q_hk_chances o_hk ++ (wSe g a_se (a_sb 0) o_se ++ (wBo g a_sb (a_ri 0) o_sb ++ (wMo g a_now now ++ (wRi g a_ri ri ++ []))))) r_ := by
  refine start2 (y := yX11_next) (cc := cX11_next) (n := 3) (av := [.ref (a_hk 0), .int p1]) (ws := (wHK g a_hk q_hk_reader (a_ri 0) (a_now 0) q_hk_tried q_hk_history q_hk_board (a_se 0) q_hk_within q_hk_colouring q_hk_chances hk ++ (wSe g a_se (a_sb 0) se ++ (wBo g a_sb (a_ri 0) sb ++ (wMo g a_now now ++ (wRi g a_ri ri ++ [])))))) (Qc := fun sz => QI g (wHK g a_hk q_hk_reader (a_ri 0) (a_now 0) q_hk_tried q_hk_history q_hk_board (a_se 0) q_hk_within q_hk_colouring q_hk_chances hk ++ (wSe g a_se (a_sb 0) se ++ (wBo g a_sb (a_ri 0) sb ++ (wMo g a_now now ++ (wRi g a_ri ri ++ []))))) (wHK g a_hk q_hk_reader (a_ri 0) (a_now 0) q_hk_tried q_hk_history q_hk_board (a_se 0) q_hk_within q_hk_colouring q_hk_chances o_hk ++ (wSe g a_se (a_sb 0) o_se ++ (wBo g a_sb (a_ri 0) o_sb ++ (wMo g a_now now ++ (wRi g a_ri ri ++ []))))) r_ sz) (by decide) rfl ?_
  intro p e s m args below meth c ls Q A ha hQ hA X hl hI hin
  have X : Cx p s m args meth c cX11_next 3 RX11 (some .int) := X
  have hl : lv_has ls 3 [(0, .ref (a_hk 0)), (1, .int p1)] := hl
  obtain ⟨hx, hb, hml, hown, ht, hr, hlk⟩ := id X
  clear ha hin
  have L_24 : ∀ (hk : HKS) (se : SeS) (sb : BoS) (H : Heap) (locs : List Loc) (ls : Array Slot), lv_has ls 3 [(0, .ref (a_hk 0))] → In g A s.heap s (wHK g a_hk q_hk_reader (a_ri 0) (a_now 0) q_hk_tried q_hk_history q_hk_board (a_se 0) q_hk_within q_hk_colouring q_hk_chances hk ++ (wSe g a_se (a_sb 0) se ++ (wBo g a_sb (a_ri 0) sb ++ (wMo g a_now now ++ (wRi g a_ri ri ++ []))))) H locs → f_X11_next_L24 hk se sb = some (r_, o_hk, o_se, o_sb) → W p l e rm_X11_next s m args below meth c H locs 0 0 Q (F0 m 24 ls []) := by
    intro hk se sb H locs ls hl hI hf
    unfold f_X11_next_L24 at hf
    refine lv_aload_n hx hb dX11_next_24 rfl (lv_at hl 0 rfl) ?_
    refine lv_iconst (v := 2) hx hb dX11_next_25 (by decide) ?_
    obtain ⟨r_11, hk_12, hc_, hf⟩ := bd2_some hf
    refine call_Vi X hI (Cj.keep Cj.nil) (c_X11_refuse l g a_hk q_hk_reader (a_ri 0) (a_now 0) q_hk_tried q_hk_history q_hk_board (a_se 0) q_hk_within q_hk_colouring q_hk_chances hk (2 : Int32) r_11 hk_12 hc_) ⟨rfl, rfl⟩ ⟨ht _ w_729, w_732, ht _ w_139, lk_X11_refuse⟩ w_731 w_0 rfl rfl rfl hl rfl rfl dX11_next_26 rfl rfl rfl rfl (fun H locs hI => ?_)
    cases hf
    exact end_i hQ hA X hI dX11_next_29
  unfold f_X11_next at hf
  refine lv_aload_n hx hb dX11_next_0 rfl (lv_at hl 0 rfl) ?_
  refine g_HK_there X hI has_HK.l (X.fl w_686) dX11_next_1 ?_
  refine lv_if_ne (tgt := 13) hx hb dX11_next_4 (by decide) (fun h_ => ?_) (fun h_ => ?_)
  · replace hf := if_f h_ hf
    refine lv_iload_n hx hb dX11_next_13 rfl (lv_at hl 1 rfl) ?_
    obtain ⟨r_1, hc_, hf⟩ := bd1_some hf
    refine call_Si X hI Cj.nil (c_X11_isDepth l g p1 r_1 hc_) ⟨rfl, rfl⟩ ⟨ht _ w_1138, w_1140, ht _ w_139, lk_X11_isDepth⟩ w_1139 rfl hl rfl rfl dX11_next_14 rfl rfl rfl rfl (fun H locs hI => ?_)
    refine lv_if_eq (tgt := 24) hx hb dX11_next_17 (by decide) (fun h_ => ?_) (fun h_ => ?_)
    · replace hf := if_t h_ hf
      exact L_24 hk se sb _ _ _ (lv_sub hl [0] rfl) hI hf
    · replace hf := if_f h_ hf
      refine lv_iload_n hx hb dX11_next_20 rfl (lv_at hl 1 rfl) ?_
      refine lv_if_ne (tgt := 30) hx hb dX11_next_21 (by decide) (fun h_ => ?_) (fun h_ => ?_)
      · replace hf := if_f h_ hf
        refine lv_aload_n hx hb dX11_next_30 rfl (lv_at hl 0 rfl) ?_
        refine g_HK_search X hI has_HK.l (X.fl w_682) dX11_next_31 ?_
        refine lv_aload_n hx hb dX11_next_34 rfl (lv_at hl 0 rfl) ?_
        refine g_HK_now X hI has_HK.l (X.fl w_678) dX11_next_35 ?_
        refine lv_iload_n hx hb dX11_next_38 rfl (lv_at hl 1 rfl) ?_
        obtain ⟨r_2, se_3, sb_4, hc_, hf⟩ := bd3_some hf
        refine call_Vi X hI (Cj.skip (Cj.keep (Cj.keep (Cj.keep (Cj.keep Cj.id))))) (c_X7_firstToLoose l g a_se a_sb a_now a_ri se sb now ri p1 r_2 se_3 sb_4 hc_) ⟨rfl, rfl⟩ ⟨ht _ w_1181, w_1184, ht _ w_151, lk_X7_firstToLoose⟩ w_1182 w_1183 rfl rfl rfl hl rfl rfl dX11_next_39 rfl rfl rfl rfl (fun H locs hI => ?_)
        refine lv_istore_n (lv' := [(2, .int r_2), (0, .ref (a_hk 0)), (1, .int p1)]) hx hb dX11_next_42 rfl hl (by decide) rfl (fun ls hl => ?_)
        refine lv_iload_n hx hb dX11_next_43 rfl (lv_at hl 0 rfl) ?_
        refine lv_bipush (v := (-3)) hx hb dX11_next_44 (by decide) ?_
        refine lv_icmp_ne (tgt := 57) hx hb dX11_next_46 (by decide) (fun h_ => ?_) (fun h_ => ?_)
        · replace hf := if_f h_ hf
          refine lv_aload_n hx hb dX11_next_57 rfl (lv_at hl 1 rfl) ?_
          refine lv_iload_n hx hb dX11_next_58 rfl (lv_at hl 0 rfl) ?_
          obtain ⟨r_5, hk_6, hc_, hf⟩ := bd2_some hf
          refine call_Vi X hI (Cj.keep Cj.nil) (c_X11_grant l g a_hk q_hk_reader (a_ri 0) (a_now 0) q_hk_tried q_hk_history q_hk_board (a_se 0) q_hk_within q_hk_colouring q_hk_chances hk r_2 r_5 hk_6 hc_) ⟨rfl, rfl⟩ ⟨ht _ w_995, w_998, ht _ w_139, lk_X11_grant⟩ w_997 w_37 rfl rfl rfl hl rfl rfl dX11_next_59 rfl rfl rfl rfl (fun H locs hI => ?_)
          cases hf
          exact end_i hQ hA X hI dX11_next_62
        · replace hf := if_t h_ hf
          refine lv_aload_n hx hb dX11_next_49 rfl (lv_at hl 1 rfl) ?_
          refine lv_iconst (v := 3) hx hb dX11_next_50 (by decide) ?_
          obtain ⟨r_7, hk_8, hc_, hf⟩ := bd2_some hf
          refine call_Vi X hI (Cj.keep Cj.nil) (c_X11_refuse l g a_hk q_hk_reader (a_ri 0) (a_now 0) q_hk_tried q_hk_history q_hk_board (a_se 0) q_hk_within q_hk_colouring q_hk_chances hk (3 : Int32) r_7 hk_8 hc_) ⟨rfl, rfl⟩ ⟨ht _ w_729, w_732, ht _ w_139, lk_X11_refuse⟩ w_731 w_0 rfl rfl rfl hl rfl rfl dX11_next_51 rfl rfl rfl rfl (fun H locs hI => ?_)
          refine lv_goto (tgt := 62) hx hb dX11_next_54 (by decide) ?_
          cases hf
          exact end_i hQ hA X hI dX11_next_62
      · replace hf := if_t h_ hf
        exact L_24 hk se sb _ _ _ (lv_sub hl [0] rfl) hI hf
  · replace hf := if_t h_ hf
    refine lv_aload_n hx hb dX11_next_7 rfl (lv_at hl 0 rfl) ?_
    refine lv_iconst (v := 1) hx hb dX11_next_8 (by decide) ?_
    obtain ⟨r_9, hk_10, hc_, hf⟩ := bd2_some hf
    refine call_Vi X hI (Cj.keep Cj.nil) (c_X11_refuse l g a_hk q_hk_reader (a_ri 0) (a_now 0) q_hk_tried q_hk_history q_hk_board (a_se 0) q_hk_within q_hk_colouring q_hk_chances hk (1 : Int32) r_9 hk_10 hc_) ⟨rfl, rfl⟩ ⟨ht _ w_729, w_732, ht _ w_139, lk_X11_refuse⟩ w_731 w_0 rfl rfl rfl hl rfl rfl dX11_next_9 rfl rfl rfl rfl (fun H locs hI => ?_)
    cases hf
    exact end_i hQ hA X hI dX11_next_12
