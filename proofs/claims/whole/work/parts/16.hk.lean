def f_X11_refuse (hk : HKS) (p1 : Int32) : Option (Int32 × (HKS)) :=
  lt1 (HK_trouble' hk p1) fun (hk_1 : HKS) =>
  some ((-1 : Int32), hk_1)
abbrev rm_X11_refuse : Room := { frames := 0, cells := 0, slots := 0, locals := 0 }
set_option maxRecDepth 20000 in
theorem c_X11_refuse (l : Launch) (g : GT) (a_hk : Nat → Nat) (q_hk_reader : Nat) (q_hk_rings : Nat) (q_hk_now : Nat) (q_hk_tried : Nat) (q_hk_history : Nat) (q_hk_board : Nat) (q_hk_search : Nat) (q_hk_within : Nat) (q_hk_colouring : Nat) (q_hk_chances : Nat) (hk : HKS) (p1 : Int32) (r_ : Int32) (o_hk : HKS) (hf : f_X11_refuse hk p1 = some (r_, o_hk)) : CI l yX11_refuse cX11_refuse 2 (some .int) rm_X11_refuse g [.ref (a_hk 0), .int p1] (wHK g a_hk q_hk_reader q_hk_rings q_hk_now q_hk_tried q_hk_history q_hk_board q_hk_search q_hk_within q_hk_colouring q_hk_chances hk ++ []) (wHK g a_hk q_hk_reader q_hk_rings q_hk_now q_hk_tried q_hk_history q_hk_board q_hk_search q_hk_within q_hk_colouring q_hk_chances o_hk ++ []) r_ := by
  refine start2 (Qc := fun sz => QI g (wHK g a_hk q_hk_reader q_hk_rings q_hk_now q_hk_tried q_hk_history q_hk_board q_hk_search q_hk_within q_hk_colouring q_hk_chances hk ++ []) (wHK g a_hk q_hk_reader q_hk_rings q_hk_now q_hk_tried q_hk_history q_hk_board q_hk_search q_hk_within q_hk_colouring q_hk_chances o_hk ++ []) r_ sz) (by decide) rfl ?_
  intro p e s m args below meth c ls Q A ha hQ hA X hl hI hin
  have X : Cx p s m args meth c cX11_refuse 2 RX11 (some .int) := X
  have hl : lv_has ls 2 [(0, .ref (a_hk 0)), (1, .int p1)] := hl
  obtain ⟨hx, hb, hml, hown, ht, hr, hlk⟩ := id X
  clear ha hin
  unfold f_X11_refuse at hf
  refine lv_aload_n hx hb dX11_refuse_0 rfl (lv_at hl 0 rfl) ?_
  refine lv_iload_n hx hb dX11_refuse_1 rfl (lv_at hl 1 rfl) ?_
  refine p_HK_trouble X hI up_HK_trouble.l (X.fl w_687) dX11_refuse_2 (fun H locs hI => ?_)
  generalize hz_ : (HK_trouble' hk p1) = hk_1 at hI hf
  clear hz_
  replace hf := lt_e hf
  refine lv_iconst (v := (-1)) hx hb dX11_refuse_5 (by decide) ?_
  cases hf
  exact end_i hQ hA X hI dX11_refuse_6
def f_X11_refuseSigned (hk : HKS) (p1 : Int32) : Option (Int32 × (HKS)) :=
  lt1 (HK_trouble' hk p1) fun (hk_1 : HKS) =>
  some ((-100 : Int32), hk_1)
abbrev rm_X11_refuseSigned : Room := { frames := 0, cells := 0, slots := 0, locals := 0 }
set_option maxRecDepth 20000 in
theorem c_X11_refuseSigned (l : Launch) (g : GT) (a_hk : Nat → Nat) (q_hk_reader : Nat) (q_hk_rings : Nat) (q_hk_now : Nat) (q_hk_tried : Nat) (q_hk_history : Nat) (q_hk_board : Nat) (q_hk_search : Nat) (q_hk_within : Nat) (q_hk_colouring : Nat) (q_hk_chances : Nat) (hk : HKS) (p1 : Int32) (r_ : Int32) (o_hk : HKS) (hf : f_X11_refuseSigned hk p1 = some (r_, o_hk)) : CI l yX11_refuseSigned cX11_refuseSigned 2 (some .int) rm_X11_refuseSigned g [.ref (a_hk 0), .int p1] (wHK g a_hk q_hk_reader q_hk_rings q_hk_now q_hk_tried q_hk_history q_hk_board q_hk_search q_hk_within q_hk_colouring q_hk_chances hk ++ []) (wHK g a_hk q_hk_reader q_hk_rings q_hk_now q_hk_tried q_hk_history q_hk_board q_hk_search q_hk_within q_hk_colouring q_hk_chances o_hk ++ []) r_ := by
  refine start2 (Qc := fun sz => QI g (wHK g a_hk q_hk_reader q_hk_rings q_hk_now q_hk_tried q_hk_history q_hk_board q_hk_search q_hk_within q_hk_colouring q_hk_chances hk ++ []) (wHK g a_hk q_hk_reader q_hk_rings q_hk_now q_hk_tried q_hk_history q_hk_board q_hk_search q_hk_within q_hk_colouring q_hk_chances o_hk ++ []) r_ sz) (by decide) rfl ?_
  intro p e s m args below meth c ls Q A ha hQ hA X hl hI hin
  have X : Cx p s m args meth c cX11_refuseSigned 2 RX11 (some .int) := X
  have hl : lv_has ls 2 [(0, .ref (a_hk 0)), (1, .int p1)] := hl
  obtain ⟨hx, hb, hml, hown, ht, hr, hlk⟩ := id X
  clear ha hin
  unfold f_X11_refuseSigned at hf
  refine lv_aload_n hx hb dX11_refuseSigned_0 rfl (lv_at hl 0 rfl) ?_
  refine lv_iload_n hx hb dX11_refuseSigned_1 rfl (lv_at hl 1 rfl) ?_
  refine p_HK_trouble X hI up_HK_trouble.l (X.fl w_687) dX11_refuseSigned_2 (fun H locs hI => ?_)
  generalize hz_ : (HK_trouble' hk p1) = hk_1 at hI hf
  clear hz_
  replace hf := lt_e hf
  refine lv_bipush (v := (-100)) hx hb dX11_refuseSigned_5 (by decide) ?_
  cases hf
  exact end_i hQ hA X hI dX11_refuseSigned_7
def f_X11_refuseFlatly (hk : HKS) (p1 : Int32) : Option (Int32 × (HKS)) :=
  lt1 (HK_trouble' hk p1) fun (hk_1 : HKS) =>
  some ((0 : Int32), hk_1)
abbrev rm_X11_refuseFlatly : Room := { frames := 0, cells := 0, slots := 0, locals := 0 }
set_option maxRecDepth 20000 in
theorem c_X11_refuseFlatly (l : Launch) (g : GT) (a_hk : Nat → Nat) (q_hk_reader : Nat) (q_hk_rings : Nat) (q_hk_now : Nat) (q_hk_tried : Nat) (q_hk_history : Nat) (q_hk_board : Nat) (q_hk_search : Nat) (q_hk_within : Nat) (q_hk_colouring : Nat) (q_hk_chances : Nat) (hk : HKS) (p1 : Int32) (r_ : Int32) (o_hk : HKS) (hf : f_X11_refuseFlatly hk p1 = some (r_, o_hk)) : CI l yX11_refuseFlatly cX11_refuseFlatly 2 (some .boolean) rm_X11_refuseFlatly g [.ref (a_hk 0), .int p1] (wHK g a_hk q_hk_reader q_hk_rings q_hk_now q_hk_tried q_hk_history q_hk_board q_hk_search q_hk_within q_hk_colouring q_hk_chances hk ++ []) (wHK g a_hk q_hk_reader q_hk_rings q_hk_now q_hk_tried q_hk_history q_hk_board q_hk_search q_hk_within q_hk_colouring q_hk_chances o_hk ++ []) r_ := by
  refine start2 (Qc := fun sz => QI g (wHK g a_hk q_hk_reader q_hk_rings q_hk_now q_hk_tried q_hk_history q_hk_board q_hk_search q_hk_within q_hk_colouring q_hk_chances hk ++ []) (wHK g a_hk q_hk_reader q_hk_rings q_hk_now q_hk_tried q_hk_history q_hk_board q_hk_search q_hk_within q_hk_colouring q_hk_chances o_hk ++ []) r_ sz) (by decide) rfl ?_
  intro p e s m args below meth c ls Q A ha hQ hA X hl hI hin
  have X : Cx p s m args meth c cX11_refuseFlatly 2 RX11 (some .boolean) := X
  have hl : lv_has ls 2 [(0, .ref (a_hk 0)), (1, .int p1)] := hl
  obtain ⟨hx, hb, hml, hown, ht, hr, hlk⟩ := id X
  clear ha hin
  unfold f_X11_refuseFlatly at hf
  refine lv_aload_n hx hb dX11_refuseFlatly_0 rfl (lv_at hl 0 rfl) ?_
  refine lv_iload_n hx hb dX11_refuseFlatly_1 rfl (lv_at hl 1 rfl) ?_
  refine p_HK_trouble X hI up_HK_trouble.l (X.fl w_687) dX11_refuseFlatly_2 (fun H locs hI => ?_)
  generalize hz_ : (HK_trouble' hk p1) = hk_1 at hI hf
  clear hz_
  replace hf := lt_e hf
  refine lv_iconst (v := 0) hx hb dX11_refuseFlatly_5 (by decide) ?_
  cases hf
  exact end_z hQ hA X hI rfl dX11_refuseFlatly_6
def f_X11_grant (hk : HKS) (p1 : Int32) : Option (Int32 × (HKS)) :=
  lt1 (HK_trouble' hk (0 : Int32)) fun (hk_1 : HKS) =>
  some (p1, hk_1)
abbrev rm_X11_grant : Room := { frames := 0, cells := 0, slots := 0, locals := 0 }
set_option maxRecDepth 20000 in
theorem c_X11_grant (l : Launch) (g : GT) (a_hk : Nat → Nat) (q_hk_reader : Nat) (q_hk_rings : Nat) (q_hk_now : Nat) (q_hk_tried : Nat) (q_hk_history : Nat) (q_hk_board : Nat) (q_hk_search : Nat) (q_hk_within : Nat) (q_hk_colouring : Nat) (q_hk_chances : Nat) (hk : HKS) (p1 : Int32) (r_ : Int32) (o_hk : HKS) (hf : f_X11_grant hk p1 = some (r_, o_hk)) : CI l yX11_grant cX11_grant 2 (some .int) rm_X11_grant g [.ref (a_hk 0), .int p1] (wHK g a_hk q_hk_reader q_hk_rings q_hk_now q_hk_tried q_hk_history q_hk_board q_hk_search q_hk_within q_hk_colouring q_hk_chances hk ++ []) (wHK g a_hk q_hk_reader q_hk_rings q_hk_now q_hk_tried q_hk_history q_hk_board q_hk_search q_hk_within q_hk_colouring q_hk_chances o_hk ++ []) r_ := by
  refine start2 (Qc := fun sz => QI g (wHK g a_hk q_hk_reader q_hk_rings q_hk_now q_hk_tried q_hk_history q_hk_board q_hk_search q_hk_within q_hk_colouring q_hk_chances hk ++ []) (wHK g a_hk q_hk_reader q_hk_rings q_hk_now q_hk_tried q_hk_history q_hk_board q_hk_search q_hk_within q_hk_colouring q_hk_chances o_hk ++ []) r_ sz) (by decide) rfl ?_
  intro p e s m args below meth c ls Q A ha hQ hA X hl hI hin
  have X : Cx p s m args meth c cX11_grant 2 RX11 (some .int) := X
  have hl : lv_has ls 2 [(0, .ref (a_hk 0)), (1, .int p1)] := hl
  obtain ⟨hx, hb, hml, hown, ht, hr, hlk⟩ := id X
  clear ha hin
  unfold f_X11_grant at hf
  refine lv_aload_n hx hb dX11_grant_0 rfl (lv_at hl 0 rfl) ?_
  refine lv_iconst (v := 0) hx hb dX11_grant_1 (by decide) ?_
  refine p_HK_trouble X hI up_HK_trouble.l (X.fl w_687) dX11_grant_2 (fun H locs hI => ?_)
  generalize hz_ : (HK_trouble' hk (0 : Int32)) = hk_1 at hI hf
  clear hz_
  replace hf := lt_e hf
  refine lv_iload_n hx hb dX11_grant_5 rfl (lv_at hl 1 rfl) ?_
  cases hf
  exact end_i hQ hA X hI dX11_grant_6
def f_X11_isPerson (hk : HKS) (ri : RiS) (p1 : Int32) : Option (Int32) :=
  if (HK_there hk) = 0 then
    some ((0 : Int32))
  else
    if p1 < 0 then
      some ((0 : Int32))
    else
      if (Ri_people ri) ≤ p1 then
        some ((0 : Int32))
      else
        some ((1 : Int32))
abbrev rm_X11_isPerson : Room := { frames := 0, cells := 0, slots := 0, locals := 0 }
set_option maxRecDepth 20000 in
theorem c_X11_isPerson (l : Launch) (g : GT) (a_hk : Nat → Nat) (a_ri : Nat → Nat) (q_hk_reader : Nat) (q_hk_now : Nat) (q_hk_tried : Nat) (q_hk_history : Nat) (q_hk_board : Nat) (q_hk_search : Nat) (q_hk_within : Nat) (q_hk_colouring : Nat) (q_hk_chances : Nat) (hk : HKS) (ri : RiS) (p1 : Int32) (r_ : Int32) (hf : f_X11_isPerson hk ri p1 = some (r_)) : CI l yX11_isPerson cX11_isPerson 2 (some .boolean) rm_X11_isPerson g [.ref (a_hk 0), .int p1] (wHK g a_hk q_hk_reader (a_ri 0) q_hk_now q_hk_tried q_hk_history q_hk_board q_hk_search q_hk_within q_hk_colouring q_hk_chances hk ++ (wRi g a_ri ri ++ [])) (wHK g a_hk q_hk_reader (a_ri 0) q_hk_now q_hk_tried q_hk_history q_hk_board q_hk_search q_hk_within q_hk_colouring q_hk_chances hk ++ (wRi g a_ri ri ++ [])) r_ := by
  refine start2 (Qc := fun sz => QI g (wHK g a_hk q_hk_reader (a_ri 0) q_hk_now q_hk_tried q_hk_history q_hk_board q_hk_search q_hk_within q_hk_colouring q_hk_chances hk ++ (wRi g a_ri ri ++ [])) (wHK g a_hk q_hk_reader (a_ri 0) q_hk_now q_hk_tried q_hk_history q_hk_board q_hk_search q_hk_within q_hk_colouring q_hk_chances hk ++ (wRi g a_ri ri ++ [])) r_ sz) (by decide) rfl ?_
  intro p e s m args below meth c ls Q A ha hQ hA X hl hI hin
  have X : Cx p s m args meth c cX11_isPerson 2 RX11 (some .boolean) := X
  have hl : lv_has ls 2 [(0, .ref (a_hk 0)), (1, .int p1)] := hl
  obtain ⟨hx, hb, hml, hown, ht, hr, hlk⟩ := id X
  clear ha hin
  unfold f_X11_isPerson at hf
  refine lv_aload_n hx hb dX11_isPerson_0 rfl (lv_at hl 0 rfl) ?_
  refine g_HK_there X hI has_HK.l (X.fl w_686) dX11_isPerson_1 ?_
  refine lv_if_eq (tgt := 26) hx hb dX11_isPerson_4 (by decide) (fun h_ => ?_) (fun h_ => ?_)
  · replace hf := if_t h_ hf
    refine lv_iconst (v := 0) hx hb dX11_isPerson_26 (by decide) ?_
    cases hf
    exact end_z hQ hA X hI rfl dX11_isPerson_27
  · replace hf := if_f h_ hf
    refine lv_iload_n hx hb dX11_isPerson_7 rfl (lv_at hl 1 rfl) ?_
    refine lv_if_lt (tgt := 26) hx hb dX11_isPerson_8 (by decide) (fun h_ => ?_) (fun h_ => ?_)
    · replace hf := if_t h_ hf
      refine lv_iconst (v := 0) hx hb dX11_isPerson_26 (by decide) ?_
      cases hf
      exact end_z hQ hA X hI rfl dX11_isPerson_27
    · replace hf := if_f h_ hf
      refine lv_iload_n hx hb dX11_isPerson_11 rfl (lv_at hl 1 rfl) ?_
      refine lv_aload_n hx hb dX11_isPerson_12 rfl (lv_at hl 0 rfl) ?_
      refine g_HK_rings X hI has_HK.l (X.fl w_677) dX11_isPerson_13 ?_
      refine g_Ri_people X hI has_Ri.l.r (hI.fn (List.mem_of_getElem? (i := 28) rfl)) dX11_isPerson_16 ?_
      refine lv_icmp_ge (tgt := 26) hx hb dX11_isPerson_19 (by decide) (fun h_ => ?_) (fun h_ => ?_)
      · replace hf := if_t h_ hf
        refine lv_iconst (v := 0) hx hb dX11_isPerson_26 (by decide) ?_
        cases hf
        exact end_z hQ hA X hI rfl dX11_isPerson_27
      · replace hf := if_f h_ hf
        refine lv_iconst (v := 1) hx hb dX11_isPerson_22 (by decide) ?_
        refine lv_goto (tgt := 27) hx hb dX11_isPerson_23 (by decide) ?_
        cases hf
        exact end_z hQ hA X hI rfl dX11_isPerson_27
def f_X11_isLink (hk : HKS) (ri : RiS) (p1 : Int32) : Option (Int32) :=
  if (HK_there hk) = 0 then
    some ((0 : Int32))
  else
    if p1 < 0 then
      some ((0 : Int32))
    else
      if (Ri_links ri) ≤ p1 then
        some ((0 : Int32))
      else
        some ((1 : Int32))
abbrev rm_X11_isLink : Room := { frames := 0, cells := 0, slots := 0, locals := 0 }
set_option maxRecDepth 20000 in
theorem c_X11_isLink (l : Launch) (g : GT) (a_hk : Nat → Nat) (a_ri : Nat → Nat) (q_hk_reader : Nat) (q_hk_now : Nat) (q_hk_tried : Nat) (q_hk_history : Nat) (q_hk_board : Nat) (q_hk_search : Nat) (q_hk_within : Nat) (q_hk_colouring : Nat) (q_hk_chances : Nat) (hk : HKS) (ri : RiS) (p1 : Int32) (r_ : Int32) (hf : f_X11_isLink hk ri p1 = some (r_)) : CI l yX11_isLink cX11_isLink 2 (some .boolean) rm_X11_isLink g [.ref (a_hk 0), .int p1] (wHK g a_hk q_hk_reader (a_ri 0) q_hk_now q_hk_tried q_hk_history q_hk_board q_hk_search q_hk_within q_hk_colouring q_hk_chances hk ++ (wRi g a_ri ri ++ [])) (wHK g a_hk q_hk_reader (a_ri 0) q_hk_now q_hk_tried q_hk_history q_hk_board q_hk_search q_hk_within q_hk_colouring q_hk_chances hk ++ (wRi g a_ri ri ++ [])) r_ := by
  refine start2 (Qc := fun sz => QI g (wHK g a_hk q_hk_reader (a_ri 0) q_hk_now q_hk_tried q_hk_history q_hk_board q_hk_search q_hk_within q_hk_colouring q_hk_chances hk ++ (wRi g a_ri ri ++ [])) (wHK g a_hk q_hk_reader (a_ri 0) q_hk_now q_hk_tried q_hk_history q_hk_board q_hk_search q_hk_within q_hk_colouring q_hk_chances hk ++ (wRi g a_ri ri ++ [])) r_ sz) (by decide) rfl ?_
  intro p e s m args below meth c ls Q A ha hQ hA X hl hI hin
  have X : Cx p s m args meth c cX11_isLink 2 RX11 (some .boolean) := X
  have hl : lv_has ls 2 [(0, .ref (a_hk 0)), (1, .int p1)] := hl
  obtain ⟨hx, hb, hml, hown, ht, hr, hlk⟩ := id X
  clear ha hin
  unfold f_X11_isLink at hf
  refine lv_aload_n hx hb dX11_isLink_0 rfl (lv_at hl 0 rfl) ?_
  refine g_HK_there X hI has_HK.l (X.fl w_686) dX11_isLink_1 ?_
  refine lv_if_eq (tgt := 26) hx hb dX11_isLink_4 (by decide) (fun h_ => ?_) (fun h_ => ?_)
  · replace hf := if_t h_ hf
    refine lv_iconst (v := 0) hx hb dX11_isLink_26 (by decide) ?_
    cases hf
    exact end_z hQ hA X hI rfl dX11_isLink_27
  · replace hf := if_f h_ hf
    refine lv_iload_n hx hb dX11_isLink_7 rfl (lv_at hl 1 rfl) ?_
    refine lv_if_lt (tgt := 26) hx hb dX11_isLink_8 (by decide) (fun h_ => ?_) (fun h_ => ?_)
    · replace hf := if_t h_ hf
      refine lv_iconst (v := 0) hx hb dX11_isLink_26 (by decide) ?_
      cases hf
      exact end_z hQ hA X hI rfl dX11_isLink_27
    · replace hf := if_f h_ hf
      refine lv_iload_n hx hb dX11_isLink_11 rfl (lv_at hl 1 rfl) ?_
      refine lv_aload_n hx hb dX11_isLink_12 rfl (lv_at hl 0 rfl) ?_
      refine g_HK_rings X hI has_HK.l (X.fl w_677) dX11_isLink_13 ?_
      refine g_Ri_links X hI has_Ri.l.r (hI.fn (List.mem_of_getElem? (i := 29) rfl)) dX11_isLink_16 ?_
      refine lv_icmp_ge (tgt := 26) hx hb dX11_isLink_19 (by decide) (fun h_ => ?_) (fun h_ => ?_)
      · replace hf := if_t h_ hf
        refine lv_iconst (v := 0) hx hb dX11_isLink_26 (by decide) ?_
        cases hf
        exact end_z hQ hA X hI rfl dX11_isLink_27
      · replace hf := if_f h_ hf
        refine lv_iconst (v := 1) hx hb dX11_isLink_22 (by decide) ?_
        refine lv_goto (tgt := 27) hx hb dX11_isLink_23 (by decide) ?_
        cases hf
        exact end_z hQ hA X hI rfl dX11_isLink_27
def f_X11_isRing (hk : HKS) (ri : RiS) (p1 : Int32) : Option (Int32) :=
  if (HK_there hk) = 0 then
    some ((0 : Int32))
  else
    if p1 < 0 then
      some ((0 : Int32))
    else
      if (Ri_count ri) ≤ p1 then
        some ((0 : Int32))
      else
        some ((1 : Int32))
abbrev rm_X11_isRing : Room := { frames := 0, cells := 0, slots := 0, locals := 0 }
set_option maxRecDepth 20000 in
theorem c_X11_isRing (l : Launch) (g : GT) (a_hk : Nat → Nat) (a_ri : Nat → Nat) (q_hk_reader : Nat) (q_hk_now : Nat) (q_hk_tried : Nat) (q_hk_history : Nat) (q_hk_board : Nat) (q_hk_search : Nat) (q_hk_within : Nat) (q_hk_colouring : Nat) (q_hk_chances : Nat) (hk : HKS) (ri : RiS) (p1 : Int32) (r_ : Int32) (hf : f_X11_isRing hk ri p1 = some (r_)) : CI l yX11_isRing cX11_isRing 2 (some .boolean) rm_X11_isRing g [.ref (a_hk 0), .int p1] (wHK g a_hk q_hk_reader (a_ri 0) q_hk_now q_hk_tried q_hk_history q_hk_board q_hk_search q_hk_within q_hk_colouring q_hk_chances hk ++ (wRi g a_ri ri ++ [])) (wHK g a_hk q_hk_reader (a_ri 0) q_hk_now q_hk_tried q_hk_history q_hk_board q_hk_search q_hk_within q_hk_colouring q_hk_chances hk ++ (wRi g a_ri ri ++ [])) r_ := by
  refine start2 (Qc := fun sz => QI g (wHK g a_hk q_hk_reader (a_ri 0) q_hk_now q_hk_tried q_hk_history q_hk_board q_hk_search q_hk_within q_hk_colouring q_hk_chances hk ++ (wRi g a_ri ri ++ [])) (wHK g a_hk q_hk_reader (a_ri 0) q_hk_now q_hk_tried q_hk_history q_hk_board q_hk_search q_hk_within q_hk_colouring q_hk_chances hk ++ (wRi g a_ri ri ++ [])) r_ sz) (by decide) rfl ?_
  intro p e s m args below meth c ls Q A ha hQ hA X hl hI hin
  have X : Cx p s m args meth c cX11_isRing 2 RX11 (some .boolean) := X
  have hl : lv_has ls 2 [(0, .ref (a_hk 0)), (1, .int p1)] := hl
  obtain ⟨hx, hb, hml, hown, ht, hr, hlk⟩ := id X
  clear ha hin
  unfold f_X11_isRing at hf
  refine lv_aload_n hx hb dX11_isRing_0 rfl (lv_at hl 0 rfl) ?_
  refine g_HK_there X hI has_HK.l (X.fl w_686) dX11_isRing_1 ?_
  refine lv_if_eq (tgt := 26) hx hb dX11_isRing_4 (by decide) (fun h_ => ?_) (fun h_ => ?_)
  · replace hf := if_t h_ hf
    refine lv_iconst (v := 0) hx hb dX11_isRing_26 (by decide) ?_
    cases hf
    exact end_z hQ hA X hI rfl dX11_isRing_27
  · replace hf := if_f h_ hf
    refine lv_iload_n hx hb dX11_isRing_7 rfl (lv_at hl 1 rfl) ?_
    refine lv_if_lt (tgt := 26) hx hb dX11_isRing_8 (by decide) (fun h_ => ?_) (fun h_ => ?_)
    · replace hf := if_t h_ hf
      refine lv_iconst (v := 0) hx hb dX11_isRing_26 (by decide) ?_
      cases hf
      exact end_z hQ hA X hI rfl dX11_isRing_27
    · replace hf := if_f h_ hf
      refine lv_iload_n hx hb dX11_isRing_11 rfl (lv_at hl 1 rfl) ?_
      refine lv_aload_n hx hb dX11_isRing_12 rfl (lv_at hl 0 rfl) ?_
      refine g_HK_rings X hI has_HK.l (X.fl w_677) dX11_isRing_13 ?_
      refine g_Ri_count X hI has_Ri.l.r (hI.fn (List.mem_of_getElem? (i := 35) rfl)) dX11_isRing_16 ?_
      refine lv_icmp_ge (tgt := 26) hx hb dX11_isRing_19 (by decide) (fun h_ => ?_) (fun h_ => ?_)
      · replace hf := if_t h_ hf
        refine lv_iconst (v := 0) hx hb dX11_isRing_26 (by decide) ?_
        cases hf
        exact end_z hQ hA X hI rfl dX11_isRing_27
      · replace hf := if_f h_ hf
        refine lv_iconst (v := 1) hx hb dX11_isRing_22 (by decide) ?_
        refine lv_goto (tgt := 27) hx hb dX11_isRing_23 (by decide) ?_
        cases hf
        exact end_z hQ hA X hI rfl dX11_isRing_27
def f_X11_isCrossing (hk : HKS) (ri : RiS) (p1 : Int32) : Option (Int32) :=
  if (HK_there hk) = 0 then
    some ((0 : Int32))
  else
    if p1 < 0 then
      some ((0 : Int32))
    else
      if (Ri_crossings ri) ≤ p1 then
        some ((0 : Int32))
      else
        some ((1 : Int32))
abbrev rm_X11_isCrossing : Room := { frames := 0, cells := 0, slots := 0, locals := 0 }
set_option maxRecDepth 20000 in
theorem c_X11_isCrossing (l : Launch) (g : GT) (a_hk : Nat → Nat) (a_ri : Nat → Nat) (q_hk_reader : Nat) (q_hk_now : Nat) (q_hk_tried : Nat) (q_hk_history : Nat) (q_hk_board : Nat) (q_hk_search : Nat) (q_hk_within : Nat) (q_hk_colouring : Nat) (q_hk_chances : Nat) (hk : HKS) (ri : RiS) (p1 : Int32) (r_ : Int32) (hf : f_X11_isCrossing hk ri p1 = some (r_)) : CI l yX11_isCrossing cX11_isCrossing 2 (some .boolean) rm_X11_isCrossing g [.ref (a_hk 0), .int p1] (wHK g a_hk q_hk_reader (a_ri 0) q_hk_now q_hk_tried q_hk_history q_hk_board q_hk_search q_hk_within q_hk_colouring q_hk_chances hk ++ (wRi g a_ri ri ++ [])) (wHK g a_hk q_hk_reader (a_ri 0) q_hk_now q_hk_tried q_hk_history q_hk_board q_hk_search q_hk_within q_hk_colouring q_hk_chances hk ++ (wRi g a_ri ri ++ [])) r_ := by
  refine start2 (Qc := fun sz => QI g (wHK g a_hk q_hk_reader (a_ri 0) q_hk_now q_hk_tried q_hk_history q_hk_board q_hk_search q_hk_within q_hk_colouring q_hk_chances hk ++ (wRi g a_ri ri ++ [])) (wHK g a_hk q_hk_reader (a_ri 0) q_hk_now q_hk_tried q_hk_history q_hk_board q_hk_search q_hk_within q_hk_colouring q_hk_chances hk ++ (wRi g a_ri ri ++ [])) r_ sz) (by decide) rfl ?_
  intro p e s m args below meth c ls Q A ha hQ hA X hl hI hin
  have X : Cx p s m args meth c cX11_isCrossing 2 RX11 (some .boolean) := X
  have hl : lv_has ls 2 [(0, .ref (a_hk 0)), (1, .int p1)] := hl
  obtain ⟨hx, hb, hml, hown, ht, hr, hlk⟩ := id X
  clear ha hin
  unfold f_X11_isCrossing at hf
  refine lv_aload_n hx hb dX11_isCrossing_0 rfl (lv_at hl 0 rfl) ?_
  refine g_HK_there X hI has_HK.l (X.fl w_686) dX11_isCrossing_1 ?_
  refine lv_if_eq (tgt := 26) hx hb dX11_isCrossing_4 (by decide) (fun h_ => ?_) (fun h_ => ?_)
  · replace hf := if_t h_ hf
    refine lv_iconst (v := 0) hx hb dX11_isCrossing_26 (by decide) ?_
    cases hf
    exact end_z hQ hA X hI rfl dX11_isCrossing_27
  · replace hf := if_f h_ hf
    refine lv_iload_n hx hb dX11_isCrossing_7 rfl (lv_at hl 1 rfl) ?_
    refine lv_if_lt (tgt := 26) hx hb dX11_isCrossing_8 (by decide) (fun h_ => ?_) (fun h_ => ?_)
    · replace hf := if_t h_ hf
      refine lv_iconst (v := 0) hx hb dX11_isCrossing_26 (by decide) ?_
      cases hf
      exact end_z hQ hA X hI rfl dX11_isCrossing_27
    · replace hf := if_f h_ hf
      refine lv_iload_n hx hb dX11_isCrossing_11 rfl (lv_at hl 1 rfl) ?_
      refine lv_aload_n hx hb dX11_isCrossing_12 rfl (lv_at hl 0 rfl) ?_
      refine g_HK_rings X hI has_HK.l (X.fl w_677) dX11_isCrossing_13 ?_
      refine g_Ri_crossings X hI has_Ri.l.r (hI.fn (List.mem_of_getElem? (i := 32) rfl)) dX11_isCrossing_16 ?_
      refine lv_icmp_ge (tgt := 26) hx hb dX11_isCrossing_19 (by decide) (fun h_ => ?_) (fun h_ => ?_)
      · replace hf := if_t h_ hf
        refine lv_iconst (v := 0) hx hb dX11_isCrossing_26 (by decide) ?_
        cases hf
        exact end_z hQ hA X hI rfl dX11_isCrossing_27
      · replace hf := if_f h_ hf
        refine lv_iconst (v := 1) hx hb dX11_isCrossing_22 (by decide) ?_
        refine lv_goto (tgt := 27) hx hb dX11_isCrossing_23 (by decide) ?_
        cases hf
        exact end_z hQ hA X hI rfl dX11_isCrossing_27
def f_X11_isStanding (hk : HKS) (ri : RiS) (p1 : Int32) : Option (Int32) :=
  if (HK_there hk) = 0 then
    some ((0 : Int32))
  else
    if p1 < 0 then
      some ((0 : Int32))
    else
      if (Ri_standings ri) ≤ p1 then
        some ((0 : Int32))
      else
        some ((1 : Int32))
abbrev rm_X11_isStanding : Room := { frames := 0, cells := 0, slots := 0, locals := 0 }
set_option maxRecDepth 20000 in
theorem c_X11_isStanding (l : Launch) (g : GT) (a_hk : Nat → Nat) (a_ri : Nat → Nat) (q_hk_reader : Nat) (q_hk_now : Nat) (q_hk_tried : Nat) (q_hk_history : Nat) (q_hk_board : Nat) (q_hk_search : Nat) (q_hk_within : Nat) (q_hk_colouring : Nat) (q_hk_chances : Nat) (hk : HKS) (ri : RiS) (p1 : Int32) (r_ : Int32) (hf : f_X11_isStanding hk ri p1 = some (r_)) : CI l yX11_isStanding cX11_isStanding 2 (some .boolean) rm_X11_isStanding g [.ref (a_hk 0), .int p1] (wHK g a_hk q_hk_reader (a_ri 0) q_hk_now q_hk_tried q_hk_history q_hk_board q_hk_search q_hk_within q_hk_colouring q_hk_chances hk ++ (wRi g a_ri ri ++ [])) (wHK g a_hk q_hk_reader (a_ri 0) q_hk_now q_hk_tried q_hk_history q_hk_board q_hk_search q_hk_within q_hk_colouring q_hk_chances hk ++ (wRi g a_ri ri ++ [])) r_ := by
  refine start2 (Qc := fun sz => QI g (wHK g a_hk q_hk_reader (a_ri 0) q_hk_now q_hk_tried q_hk_history q_hk_board q_hk_search q_hk_within q_hk_colouring q_hk_chances hk ++ (wRi g a_ri ri ++ [])) (wHK g a_hk q_hk_reader (a_ri 0) q_hk_now q_hk_tried q_hk_history q_hk_board q_hk_search q_hk_within q_hk_colouring q_hk_chances hk ++ (wRi g a_ri ri ++ [])) r_ sz) (by decide) rfl ?_
  intro p e s m args below meth c ls Q A ha hQ hA X hl hI hin
  have X : Cx p s m args meth c cX11_isStanding 2 RX11 (some .boolean) := X
  have hl : lv_has ls 2 [(0, .ref (a_hk 0)), (1, .int p1)] := hl
  obtain ⟨hx, hb, hml, hown, ht, hr, hlk⟩ := id X
  clear ha hin
  unfold f_X11_isStanding at hf
  refine lv_aload_n hx hb dX11_isStanding_0 rfl (lv_at hl 0 rfl) ?_
  refine g_HK_there X hI has_HK.l (X.fl w_686) dX11_isStanding_1 ?_
  refine lv_if_eq (tgt := 26) hx hb dX11_isStanding_4 (by decide) (fun h_ => ?_) (fun h_ => ?_)
  · replace hf := if_t h_ hf
    refine lv_iconst (v := 0) hx hb dX11_isStanding_26 (by decide) ?_
    cases hf
    exact end_z hQ hA X hI rfl dX11_isStanding_27
  · replace hf := if_f h_ hf
    refine lv_iload_n hx hb dX11_isStanding_7 rfl (lv_at hl 1 rfl) ?_
    refine lv_if_lt (tgt := 26) hx hb dX11_isStanding_8 (by decide) (fun h_ => ?_) (fun h_ => ?_)
    · replace hf := if_t h_ hf
      refine lv_iconst (v := 0) hx hb dX11_isStanding_26 (by decide) ?_
      cases hf
      exact end_z hQ hA X hI rfl dX11_isStanding_27
    · replace hf := if_f h_ hf
      refine lv_iload_n hx hb dX11_isStanding_11 rfl (lv_at hl 1 rfl) ?_
      refine lv_aload_n hx hb dX11_isStanding_12 rfl (lv_at hl 0 rfl) ?_
      refine g_HK_rings X hI has_HK.l (X.fl w_677) dX11_isStanding_13 ?_
      refine g_Ri_standings X hI has_Ri.l.r (hI.fn (List.mem_of_getElem? (i := 34) rfl)) dX11_isStanding_16 ?_
      refine lv_icmp_ge (tgt := 26) hx hb dX11_isStanding_19 (by decide) (fun h_ => ?_) (fun h_ => ?_)
      · replace hf := if_t h_ hf
        refine lv_iconst (v := 0) hx hb dX11_isStanding_26 (by decide) ?_
        cases hf
        exact end_z hQ hA X hI rfl dX11_isStanding_27
      · replace hf := if_f h_ hf
        refine lv_iconst (v := 1) hx hb dX11_isStanding_22 (by decide) ?_
        refine lv_goto (tgt := 27) hx hb dX11_isStanding_23 (by decide) ?_
        cases hf
        exact end_z hQ hA X hI rfl dX11_isStanding_27
def f_X11_isMove (hk : HKS) (ri : RiS) (p1 : Int32) : Option (Int32) :=
  if (HK_there hk) = 0 then
    some ((0 : Int32))
  else
    bd1 (f_X0_isNumber p1 (Ri_crossings ri)) fun (r_1 : Int32) =>
    if r_1 = 0 then
      some ((0 : Int32))
    else
      some ((1 : Int32))
abbrev rm_X11_isMove : Room := { frames := 2, cells := 0, slots := 0, locals := 44 }
set_option maxRecDepth 20000 in
theorem c_X11_isMove (l : Launch) (g : GT) (a_hk : Nat → Nat) (a_ri : Nat → Nat) (q_hk_reader : Nat) (q_hk_now : Nat) (q_hk_tried : Nat) (q_hk_history : Nat) (q_hk_board : Nat) (q_hk_search : Nat) (q_hk_within : Nat) (q_hk_colouring : Nat) (q_hk_chances : Nat) (hk : HKS) (ri : RiS) (p1 : Int32) (r_ : Int32) (hf : f_X11_isMove hk ri p1 = some (r_)) : CI l yX11_isMove cX11_isMove 2 (some .boolean) rm_X11_isMove g [.ref (a_hk 0), .int p1] (wHK g a_hk q_hk_reader (a_ri 0) q_hk_now q_hk_tried q_hk_history q_hk_board q_hk_search q_hk_within q_hk_colouring q_hk_chances hk ++ (wRi g a_ri ri ++ [])) (wHK g a_hk q_hk_reader (a_ri 0) q_hk_now q_hk_tried q_hk_history q_hk_board q_hk_search q_hk_within q_hk_colouring q_hk_chances hk ++ (wRi g a_ri ri ++ [])) r_ := by
  refine start2 (Qc := fun sz => QI g (wHK g a_hk q_hk_reader (a_ri 0) q_hk_now q_hk_tried q_hk_history q_hk_board q_hk_search q_hk_within q_hk_colouring q_hk_chances hk ++ (wRi g a_ri ri ++ [])) (wHK g a_hk q_hk_reader (a_ri 0) q_hk_now q_hk_tried q_hk_history q_hk_board q_hk_search q_hk_within q_hk_colouring q_hk_chances hk ++ (wRi g a_ri ri ++ [])) r_ sz) (by decide) rfl ?_
  intro p e s m args below meth c ls Q A ha hQ hA X hl hI hin
  have X : Cx p s m args meth c cX11_isMove 2 RX11 (some .boolean) := X
  have hl : lv_has ls 2 [(0, .ref (a_hk 0)), (1, .int p1)] := hl
  obtain ⟨hx, hb, hml, hown, ht, hr, hlk⟩ := id X
  clear ha hin
  unfold f_X11_isMove at hf
  refine lv_aload_n hx hb dX11_isMove_0 rfl (lv_at hl 0 rfl) ?_
  refine g_HK_there X hI has_HK.l (X.fl w_686) dX11_isMove_1 ?_
  refine lv_if_eq (tgt := 25) hx hb dX11_isMove_4 (by decide) (fun h_ => ?_) (fun h_ => ?_)
  · replace hf := if_t h_ hf
    refine lv_iconst (v := 0) hx hb dX11_isMove_25 (by decide) ?_
    cases hf
    exact end_z hQ hA X hI rfl dX11_isMove_26
  · replace hf := if_f h_ hf
    refine lv_iload_n hx hb dX11_isMove_7 rfl (lv_at hl 1 rfl) ?_
    refine lv_aload_n hx hb dX11_isMove_8 rfl (lv_at hl 0 rfl) ?_
    refine g_HK_rings X hI has_HK.l (X.fl w_677) dX11_isMove_9 ?_
    refine g_Ri_crossings X hI has_Ri.l.r (hI.fn (List.mem_of_getElem? (i := 32) rfl)) dX11_isMove_12 ?_
    obtain ⟨r_1, hc_, hf⟩ := bd1_some hf
    refine call_Si X hI Cj.nil (c_X0_isNumber l g p1 (Ri_crossings ri) r_1 hc_) ⟨rfl, rfl⟩ ⟨ht _ w_1093, w_1095, ht _ w_150, lk_X0_isNumber⟩ w_1094 rfl hl rfl rfl dX11_isMove_15 rfl rfl rfl rfl (fun H locs hI => ?_)
    refine lv_if_eq (tgt := 25) hx hb dX11_isMove_18 (by decide) (fun h_ => ?_) (fun h_ => ?_)
    · replace hf := if_t h_ hf
      refine lv_iconst (v := 0) hx hb dX11_isMove_25 (by decide) ?_
      cases hf
      exact end_z hQ hA X hI rfl dX11_isMove_26
    · replace hf := if_f h_ hf
      refine lv_iconst (v := 1) hx hb dX11_isMove_21 (by decide) ?_
      refine lv_goto (tgt := 26) hx hb dX11_isMove_22 (by decide) ?_
      cases hf
      exact end_z hQ hA X hI rfl dX11_isMove_26
def f_X11_isDepth (p0 : Int32) : Option (Int32) :=
  if p0 < 0 then
    some ((0 : Int32))
  else
    if (8 : Int32) < p0 then
      some ((0 : Int32))
    else
      some ((1 : Int32))
abbrev rm_X11_isDepth : Room := { frames := 0, cells := 0, slots := 0, locals := 0 }
set_option maxRecDepth 20000 in
theorem c_X11_isDepth (l : Launch) (g : GT) (p0 : Int32) (r_ : Int32) (hf : f_X11_isDepth p0 = some (r_)) : CI l yX11_isDepth cX11_isDepth 1 (some .boolean) rm_X11_isDepth g [.int p0] ([]) ([]) r_ := by
  refine start2 (Qc := fun sz => QI g ([]) ([]) r_ sz) (by decide) rfl ?_
  intro p e s m args below meth c ls Q A ha hQ hA X hl hI hin
  have X : Cx p s m args meth c cX11_isDepth 1 RX11 (some .boolean) := X
  have hl : lv_has ls 1 [(0, .int p0)] := hl
  obtain ⟨hx, hb, hml, hown, ht, hr, hlk⟩ := id X
  clear ha hin
  unfold f_X11_isDepth at hf
  refine lv_iload_n hx hb dX11_isDepth_0 rfl (lv_at hl 0 rfl) ?_
  refine lv_if_lt (tgt := 14) hx hb dX11_isDepth_1 (by decide) (fun h_ => ?_) (fun h_ => ?_)
  · replace hf := if_t h_ hf
    refine lv_iconst (v := 0) hx hb dX11_isDepth_14 (by decide) ?_
    cases hf
    exact end_z hQ hA X hI rfl dX11_isDepth_15
  · replace hf := if_f h_ hf
    refine lv_iload_n hx hb dX11_isDepth_4 rfl (lv_at hl 0 rfl) ?_
    refine lv_bipush (v := 8) hx hb dX11_isDepth_5 (by decide) ?_
    refine lv_icmp_gt (tgt := 14) hx hb dX11_isDepth_7 (by decide) (fun h_ => ?_) (fun h_ => ?_)
    · replace hf := if_t h_ hf
      refine lv_iconst (v := 0) hx hb dX11_isDepth_14 (by decide) ?_
      cases hf
      exact end_z hQ hA X hI rfl dX11_isDepth_15
    · replace hf := if_f h_ hf
      refine lv_iconst (v := 1) hx hb dX11_isDepth_10 (by decide) ?_
      refine lv_goto (tgt := 15) hx hb dX11_isDepth_11 (by decide) ?_
      cases hf
      exact end_z hQ hA X hI rfl dX11_isDepth_15
def f_X11_isSeed (p0 : Int32) : Option (Int32) :=
  if p0 < 0 then
    some ((0 : Int32))
  else
    if (65537 : Int32) ≤ p0 then
      some ((0 : Int32))
    else
      some ((1 : Int32))
abbrev rm_X11_isSeed : Room := { frames := 0, cells := 0, slots := 0, locals := 0 }
set_option maxRecDepth 20000 in
theorem c_X11_isSeed (l : Launch) (g : GT) (p0 : Int32) (r_ : Int32) (hf : f_X11_isSeed p0 = some (r_)) : CI l yX11_isSeed cX11_isSeed 1 (some .boolean) rm_X11_isSeed g [.int p0] ([]) ([]) r_ := by
  refine start2 (Qc := fun sz => QI g ([]) ([]) r_ sz) (by decide) rfl ?_
  intro p e s m args below meth c ls Q A ha hQ hA X hl hI hin
  have X : Cx p s m args meth c cX11_isSeed 1 RX11 (some .boolean) := X
  have hl : lv_has ls 1 [(0, .int p0)] := hl
  obtain ⟨hx, hb, hml, hown, ht, hr, hlk⟩ := id X
  clear ha hin
  unfold f_X11_isSeed at hf
  refine lv_iload_n hx hb dX11_isSeed_0 rfl (lv_at hl 0 rfl) ?_
  refine lv_if_lt (tgt := 14) hx hb dX11_isSeed_1 (by decide) (fun h_ => ?_) (fun h_ => ?_)
  · replace hf := if_t h_ hf
    refine lv_iconst (v := 0) hx hb dX11_isSeed_14 (by decide) ?_
    cases hf
    exact end_z hQ hA X hI rfl dX11_isSeed_15
  · replace hf := if_f h_ hf
    refine lv_iload_n hx hb dX11_isSeed_4 rfl (lv_at hl 0 rfl) ?_
    refine lv_ldc (v := 65537) hx hb hown (ht _ w_1365) dX11_isSeed_5 ?_
    refine lv_icmp_ge (tgt := 14) hx hb dX11_isSeed_7 (by decide) (fun h_ => ?_) (fun h_ => ?_)
    · replace hf := if_t h_ hf
      refine lv_iconst (v := 0) hx hb dX11_isSeed_14 (by decide) ?_
      cases hf
      exact end_z hQ hA X hI rfl dX11_isSeed_15
    · replace hf := if_f h_ hf
      refine lv_iconst (v := 1) hx hb dX11_isSeed_10 (by decide) ?_
      refine lv_goto (tgt := 15) hx hb dX11_isSeed_11 (by decide) ?_
      cases hf
      exact end_z hQ hA X hI rfl dX11_isSeed_15
def f_X11_feed (ta : TaS) (p1 : Int32) (p2 : Int32) (p3 : Int32) (p4 : Int32) (p5 : Int32) : Option (Int32 × (TaS)) :=
  bd1 (f_X8_hasRoom ta) fun (r_1 : Int32) =>
  if r_1 = 0 then
    some ((-1 : Int32), ta)
  else
    bd1 (f_X8_take ta p1) fun (ta_2 : TaS) =>
    bd1 (f_X8_take ta_2 p2) fun (ta_3 : TaS) =>
    bd1 (f_X8_take ta_3 p3) fun (ta_4 : TaS) =>
    bd1 (f_X8_take ta_4 p4) fun (ta_5 : TaS) =>
    bd1 (f_X8_take ta_5 p5) fun (ta_6 : TaS) =>
    some ((Ta_filled ta_6), ta_6)
abbrev rm_X11_feed : Room := { frames := 1, cells := 0, slots := 0, locals := 22 }
set_option maxRecDepth 20000 in
theorem c_X11_feed (l : Launch) (g : GT) (a_hk : Nat → Nat) (a_re : Nat → Nat) (a_ta : Nat → Nat) (q_hk_rings : Nat) (q_hk_now : Nat) (q_hk_tried : Nat) (q_hk_history : Nat) (q_hk_board : Nat) (q_hk_search : Nat) (q_hk_within : Nat) (q_hk_colouring : Nat) (q_hk_chances : Nat) (q_re_told : Nat) (hk : HKS) (re : ReS) (ta : TaS) (p1 : Int32) (p2 : Int32) (p3 : Int32) (p4 : Int32) (p5 : Int32) (r_ : Int32) (o_ta : TaS) (hf : f_X11_feed ta p1 p2 p3 p4 p5 = some (r_, o_ta)) : CI l yX11_feed cX11_feed 6 (some .int) rm_X11_feed g [.ref (a_hk 0), .int p1, .int p2, .int p3, .int p4, .int p5] (wHK g a_hk (a_re 0) q_hk_rings q_hk_now q_hk_tried q_hk_history q_hk_board q_hk_search q_hk_within q_hk_colouring q_hk_chances hk ++ (wRe g a_re (a_ta 0) q_re_told re ++ (wTa g a_ta ta ++ []))) (wHK g a_hk (a_re 0) q_hk_rings q_hk_now q_hk_tried q_hk_history q_hk_board q_hk_search q_hk_within q_hk_colouring q_hk_chances hk ++ (wRe g a_re (a_ta 0) q_re_told re ++ (wTa g a_ta o_ta ++ []))) r_ := by
  refine start2 (Qc := fun sz => QI g (wHK g a_hk (a_re 0) q_hk_rings q_hk_now q_hk_tried q_hk_history q_hk_board q_hk_search q_hk_within q_hk_colouring q_hk_chances hk ++ (wRe g a_re (a_ta 0) q_re_told re ++ (wTa g a_ta ta ++ []))) (wHK g a_hk (a_re 0) q_hk_rings q_hk_now q_hk_tried q_hk_history q_hk_board q_hk_search q_hk_within q_hk_colouring q_hk_chances hk ++ (wRe g a_re (a_ta 0) q_re_told re ++ (wTa g a_ta o_ta ++ []))) r_ sz) (by decide) rfl ?_
  intro p e s m args below meth c ls Q A ha hQ hA X hl hI hin
  have X : Cx p s m args meth c cX11_feed 6 RX11 (some .int) := X
  have hl : lv_has ls 6 [(0, .ref (a_hk 0)), (1, .int p1), (2, .int p2), (3, .int p3), (4, .int p4), (5, .int p5)] := hl
  obtain ⟨hx, hb, hml, hown, ht, hr, hlk⟩ := id X
  clear ha hin
  unfold f_X11_feed at hf
  refine lv_aload_n hx hb dX11_feed_0 rfl (lv_at hl 0 rfl) ?_
  refine g_HK_reader X hI has_HK.l (X.fl w_676) dX11_feed_1 ?_
  refine g_Re_tape X hI has_Re.l.r (hI.fn (List.mem_of_getElem? (i := 23) rfl)) dX11_feed_4 ?_
  obtain ⟨r_1, hc_, hf⟩ := bd1_some hf
  refine call_Vi X hI (Cj.skip (Cj.skip (Cj.keep Cj.id))) (c_X8_hasRoom l g a_ta ta r_1 hc_) ⟨rfl, rfl⟩ ⟨ht _ w_717, w_720, ht _ w_141, lk_X8_hasRoom⟩ w_718 w_719 rfl rfl rfl hl rfl rfl dX11_feed_7 rfl rfl rfl rfl (fun H locs hI => ?_)
  refine lv_if_ne (tgt := 15) hx hb dX11_feed_10 (by decide) (fun h_ => ?_) (fun h_ => ?_)
  · replace hf := if_f h_ hf
    refine lv_aload_n hx hb dX11_feed_15 rfl (lv_at hl 0 rfl) ?_
    refine g_HK_reader X hI has_HK.l (X.fl w_676) dX11_feed_16 ?_
    refine g_Re_tape X hI has_Re.l.r (hI.fn (List.mem_of_getElem? (i := 23) rfl)) dX11_feed_19 ?_
    refine lv_iload_n hx hb dX11_feed_22 rfl (lv_at hl 1 rfl) ?_
    obtain ⟨ta_2, hc_, hf⟩ := bd1_some hf
    refine call_Vv X hI (Cj.skip (Cj.skip (Cj.keep Cj.id))) (c_X8_take l g a_ta ta p1 ta_2 hc_) ⟨rfl, rfl⟩ ⟨ht _ w_721, w_724, ht _ w_141, lk_X8_take⟩ w_722 w_723 rfl rfl rfl hl rfl rfl dX11_feed_23 rfl rfl rfl rfl (fun H locs hI => ?_)
    refine lv_aload_n hx hb dX11_feed_26 rfl (lv_at hl 0 rfl) ?_
    refine g_HK_reader X hI has_HK.l (X.fl w_676) dX11_feed_27 ?_
    refine g_Re_tape X hI has_Re.l.r (hI.fn (List.mem_of_getElem? (i := 23) rfl)) dX11_feed_30 ?_
    refine lv_iload_n hx hb dX11_feed_33 rfl (lv_at hl 2 rfl) ?_
    obtain ⟨ta_3, hc_, hf⟩ := bd1_some hf
    refine call_Vv X hI (Cj.skip (Cj.skip (Cj.keep Cj.id))) (c_X8_take l g a_ta ta_2 p2 ta_3 hc_) ⟨rfl, rfl⟩ ⟨ht _ w_721, w_724, ht _ w_141, lk_X8_take⟩ w_722 w_723 rfl rfl rfl hl rfl rfl dX11_feed_34 rfl rfl rfl rfl (fun H locs hI => ?_)
    refine lv_aload_n hx hb dX11_feed_37 rfl (lv_at hl 0 rfl) ?_
    refine g_HK_reader X hI has_HK.l (X.fl w_676) dX11_feed_38 ?_
    refine g_Re_tape X hI has_Re.l.r (hI.fn (List.mem_of_getElem? (i := 23) rfl)) dX11_feed_41 ?_
    refine lv_iload_n hx hb dX11_feed_44 rfl (lv_at hl 3 rfl) ?_
    obtain ⟨ta_4, hc_, hf⟩ := bd1_some hf
    refine call_Vv X hI (Cj.skip (Cj.skip (Cj.keep Cj.id))) (c_X8_take l g a_ta ta_3 p3 ta_4 hc_) ⟨rfl, rfl⟩ ⟨ht _ w_721, w_724, ht _ w_141, lk_X8_take⟩ w_722 w_723 rfl rfl rfl hl rfl rfl dX11_feed_45 rfl rfl rfl rfl (fun H locs hI => ?_)
    refine lv_aload_n hx hb dX11_feed_48 rfl (lv_at hl 0 rfl) ?_
    refine g_HK_reader X hI has_HK.l (X.fl w_676) dX11_feed_49 ?_
    refine g_Re_tape X hI has_Re.l.r (hI.fn (List.mem_of_getElem? (i := 23) rfl)) dX11_feed_52 ?_
    refine lv_iload hx hb dX11_feed_55 (lv_at hl 4 rfl) ?_
    obtain ⟨ta_5, hc_, hf⟩ := bd1_some hf
    refine call_Vv X hI (Cj.skip (Cj.skip (Cj.keep Cj.id))) (c_X8_take l g a_ta ta_4 p4 ta_5 hc_) ⟨rfl, rfl⟩ ⟨ht _ w_721, w_724, ht _ w_141, lk_X8_take⟩ w_722 w_723 rfl rfl rfl hl rfl rfl dX11_feed_57 rfl rfl rfl rfl (fun H locs hI => ?_)
    refine lv_aload_n hx hb dX11_feed_60 rfl (lv_at hl 0 rfl) ?_
    refine g_HK_reader X hI has_HK.l (X.fl w_676) dX11_feed_61 ?_
    refine g_Re_tape X hI has_Re.l.r (hI.fn (List.mem_of_getElem? (i := 23) rfl)) dX11_feed_64 ?_
    refine lv_iload hx hb dX11_feed_67 (lv_at hl 5 rfl) ?_
    obtain ⟨ta_6, hc_, hf⟩ := bd1_some hf
    refine call_Vv X hI (Cj.skip (Cj.skip (Cj.keep Cj.id))) (c_X8_take l g a_ta ta_5 p5 ta_6 hc_) ⟨rfl, rfl⟩ ⟨ht _ w_721, w_724, ht _ w_141, lk_X8_take⟩ w_722 w_723 rfl rfl rfl hl rfl rfl dX11_feed_69 rfl rfl rfl rfl (fun H locs hI => ?_)
    refine lv_aload_n hx hb dX11_feed_72 rfl (lv_at hl 0 rfl) ?_
    refine g_HK_reader X hI has_HK.l (X.fl w_676) dX11_feed_73 ?_
    refine g_Re_tape X hI has_Re.l.r (hI.fn (List.mem_of_getElem? (i := 23) rfl)) dX11_feed_76 ?_
    refine g_Ta_filled X hI has_Ta.l.r.r (hI.fn (List.mem_of_getElem? (i := 0) rfl)) dX11_feed_79 ?_
    cases hf
    exact end_i hQ hA X hI dX11_feed_82
  · replace hf := if_t h_ hf
    refine lv_iconst (v := (-1)) hx hb dX11_feed_13 (by decide) ?_
    cases hf
    exact end_i hQ hA X hI dX11_feed_14
def f_X11_fault (re : ReS) : Option (Int32) :=
  some ((Re_fault re))
abbrev rm_X11_fault : Room := { frames := 0, cells := 0, slots := 0, locals := 0 }
set_option maxRecDepth 20000 in
theorem c_X11_fault (l : Launch) (g : GT) (a_hk : Nat → Nat) (a_re : Nat → Nat) (q_hk_rings : Nat) (q_hk_now : Nat) (q_hk_tried : Nat) (q_hk_history : Nat) (q_hk_board : Nat) (q_hk_search : Nat) (q_hk_within : Nat) (q_hk_colouring : Nat) (q_hk_chances : Nat) (q_re_tape : Nat) (q_re_told : Nat) (hk : HKS) (re : ReS) (r_ : Int32) (hf : f_X11_fault re = some (r_)) : CI l yX11_fault cX11_fault 1 (some .int) rm_X11_fault g [.ref (a_hk 0)] (wHK g a_hk (a_re 0) q_hk_rings q_hk_now q_hk_tried q_hk_history q_hk_board q_hk_search q_hk_within q_hk_colouring q_hk_chances hk ++ (wRe g a_re q_re_tape q_re_told re ++ [])) (wHK g a_hk (a_re 0) q_hk_rings q_hk_now q_hk_tried q_hk_history q_hk_board q_hk_search q_hk_within q_hk_colouring q_hk_chances hk ++ (wRe g a_re q_re_tape q_re_told re ++ [])) r_ := by
  refine start2 (Qc := fun sz => QI g (wHK g a_hk (a_re 0) q_hk_rings q_hk_now q_hk_tried q_hk_history q_hk_board q_hk_search q_hk_within q_hk_colouring q_hk_chances hk ++ (wRe g a_re q_re_tape q_re_told re ++ [])) (wHK g a_hk (a_re 0) q_hk_rings q_hk_now q_hk_tried q_hk_history q_hk_board q_hk_search q_hk_within q_hk_colouring q_hk_chances hk ++ (wRe g a_re q_re_tape q_re_told re ++ [])) r_ sz) (by decide) rfl ?_
  intro p e s m args below meth c ls Q A ha hQ hA X hl hI hin
  have X : Cx p s m args meth c cX11_fault 1 RX11 (some .int) := X
  have hl : lv_has ls 1 [(0, .ref (a_hk 0))] := hl
  obtain ⟨hx, hb, hml, hown, ht, hr, hlk⟩ := id X
  clear ha hin
  unfold f_X11_fault at hf
  refine lv_aload_n hx hb dX11_fault_0 rfl (lv_at hl 0 rfl) ?_
  refine g_HK_reader X hI has_HK.l (X.fl w_676) dX11_fault_1 ?_
  refine g_Re_fault X hI has_Re.l.r (hI.fn (List.mem_of_getElem? (i := 25) rfl)) dX11_fault_4 ?_
  cases hf
  exact end_i hQ hA X hI dX11_fault_7
def f_X11_where (hk : HKS) (re : ReS) : Option (Int32) :=
  if (HK_trouble hk) = (4 : Int32) then
    some ((Re_place re))
  else
    some ((-1 : Int32))
abbrev rm_X11_where : Room := { frames := 0, cells := 0, slots := 0, locals := 0 }
set_option maxRecDepth 20000 in
theorem c_X11_where (l : Launch) (g : GT) (a_hk : Nat → Nat) (a_re : Nat → Nat) (q_hk_rings : Nat) (q_hk_now : Nat) (q_hk_tried : Nat) (q_hk_history : Nat) (q_hk_board : Nat) (q_hk_search : Nat) (q_hk_within : Nat) (q_hk_colouring : Nat) (q_hk_chances : Nat) (q_re_tape : Nat) (q_re_told : Nat) (hk : HKS) (re : ReS) (r_ : Int32) (hf : f_X11_where hk re = some (r_)) : CI l yX11_where cX11_where 1 (some .int) rm_X11_where g [.ref (a_hk 0)] (wHK g a_hk (a_re 0) q_hk_rings q_hk_now q_hk_tried q_hk_history q_hk_board q_hk_search q_hk_within q_hk_colouring q_hk_chances hk ++ (wRe g a_re q_re_tape q_re_told re ++ [])) (wHK g a_hk (a_re 0) q_hk_rings q_hk_now q_hk_tried q_hk_history q_hk_board q_hk_search q_hk_within q_hk_colouring q_hk_chances hk ++ (wRe g a_re q_re_tape q_re_told re ++ [])) r_ := by
  refine start2 (Qc := fun sz => QI g (wHK g a_hk (a_re 0) q_hk_rings q_hk_now q_hk_tried q_hk_history q_hk_board q_hk_search q_hk_within q_hk_colouring q_hk_chances hk ++ (wRe g a_re q_re_tape q_re_told re ++ [])) (wHK g a_hk (a_re 0) q_hk_rings q_hk_now q_hk_tried q_hk_history q_hk_board q_hk_search q_hk_within q_hk_colouring q_hk_chances hk ++ (wRe g a_re q_re_tape q_re_told re ++ [])) r_ sz) (by decide) rfl ?_
  intro p e s m args below meth c ls Q A ha hQ hA X hl hI hin
  have X : Cx p s m args meth c cX11_where 1 RX11 (some .int) := X
  have hl : lv_has ls 1 [(0, .ref (a_hk 0))] := hl
  obtain ⟨hx, hb, hml, hown, ht, hr, hlk⟩ := id X
  clear ha hin
  unfold f_X11_where at hf
  refine lv_aload_n hx hb dX11_where_0 rfl (lv_at hl 0 rfl) ?_
  refine g_HK_trouble X hI has_HK.l (X.fl w_687) dX11_where_1 ?_
  refine lv_iconst (v := 4) hx hb dX11_where_4 (by decide) ?_
  refine lv_icmp_ne (tgt := 18) hx hb dX11_where_5 (by decide) (fun h_ => ?_) (fun h_ => ?_)
  · replace hf := if_f h_ hf
    refine lv_iconst (v := (-1)) hx hb dX11_where_18 (by decide) ?_
    cases hf
    exact end_i hQ hA X hI dX11_where_19
  · replace hf := if_t h_ hf
    refine lv_aload_n hx hb dX11_where_8 rfl (lv_at hl 0 rfl) ?_
    refine g_HK_reader X hI has_HK.l (X.fl w_676) dX11_where_9 ?_
    refine g_Re_place X hI has_Re.l.r (hI.fn (List.mem_of_getElem? (i := 26) rfl)) dX11_where_12 ?_
    refine lv_goto (tgt := 19) hx hb dX11_where_15 (by decide) ?_
    cases hf
    exact end_i hQ hA X hI dX11_where_19
def f_X11_bestPart_L88 (x1 : Int32) (x2 : Int32) (x3 : Int32) (x4 : Int32) (se : SeS) (sb : BoS) (tr : MoS) (now : MoS) (ri : RiS) (k10 : (Int32) → (Int32) → (Int32) → (Int32) → (SeS) → (BoS) → (MoS) → (MoS) → (RiS) → Option (Int32 × (SeS) × (BoS) × (MoS))) : Option (Int32 × (SeS) × (BoS) × (MoS)) :=
  lt1 (x4 + (1 : Int32)) fun (v_7 : Int32) =>
  k10 x1 x2 x3 v_7 se sb tr now ri
def f_X11_bestPart_L10 : Nat → (Int32) → (Int32) → (Int32) → (Int32) → (SeS) → (BoS) → (MoS) → (MoS) → (RiS) → Option (Int32 × (SeS) × (BoS) × (MoS))
  | 0, _, _, _, _, _, _, _, _, _ => none
  | n_ + 1, x1, x2, x3, x4, se, sb, tr, now, ri =>
    if (Ri_links ri) ≤ x4 then
      some (x2, se, sb, tr)
    else
      bd1 (f_X4_become tr now) fun (tr_2 : MoS) =>
      bd1 (f_X4_letGo tr_2 ri x4) fun (tr_3 : MoS) =>
      bd3 (f_X7_grow se sb tr_3 ri x1 (1 : Int32)) fun (r_4 : Int32) (se_5 : SeS) (sb_6 : BoS) =>
      if r_4 = (-3 : Int32) then
        some (r_4, se_5, sb_6, tr_3)
      else
        if r_4 < 0 then
          f_X11_bestPart_L88 x1 x2 x3 x4 se_5 sb_6 tr_3 now ri (fun y0 y1 y2 y3 y4 y5 y6 y7 y8 => f_X11_bestPart_L10 n_ y0 y1 y2 y3 y4 y5 y6 y7 y8)
        else
          if x3 ≤ r_4 then
            f_X11_bestPart_L88 x1 x2 x3 x4 se_5 sb_6 tr_3 now ri (fun y0 y1 y2 y3 y4 y5 y6 y7 y8 => f_X11_bestPart_L10 n_ y0 y1 y2 y3 y4 y5 y6 y7 y8)
          else
            f_X11_bestPart_L88 x1 x4 r_4 x4 se_5 sb_6 tr_3 now ri (fun y0 y1 y2 y3 y4 y5 y6 y7 y8 => f_X11_bestPart_L10 n_ y0 y1 y2 y3 y4 y5 y6 y7 y8)
def f_X11_bestPart (se : SeS) (sb : BoS) (tr : MoS) (now : MoS) (ri : RiS) (p1 : Int32) : Option (Int32 × (SeS) × (BoS) × (MoS)) :=
  lt1 (p1 + (1 : Int32)) fun (v_1 : Int32) =>
  f_X11_bestPart_L10 FU p1 (-2 : Int32) v_1 (0 : Int32) se sb tr now ri
abbrev rm_X11_bestPart : Room := { frames := 6, cells := 0, slots := 0, locals := 147 }
set_option maxRecDepth 20000 in
theorem c_X11_bestPart (l : Launch) (g : GT) (a_hk : Nat → Nat) (a_se : Nat → Nat) (a_sb : Nat → Nat) (a_tr : Nat → Nat) (a_now : Nat → Nat) (a_ri : Nat → Nat) (q_hk_reader : Nat) (q_hk_history : Nat) (q_hk_board : Nat) (q_hk_within : Nat) (q_hk_colouring : Nat) (q_hk_chances : Nat) (hk : HKS) (se : SeS) (sb : BoS) (tr : MoS) (now : MoS) (ri : RiS) (p1 : Int32) (r_ : Int32) (o_se : SeS) (o_sb : BoS) (o_tr : MoS) (hf : f_X11_bestPart se sb tr now ri p1 = some (r_, o_se, o_sb, o_tr)) : CI l yX11_bestPart cX11_bestPart 6 (some .int) rm_X11_bestPart g [.ref (a_hk 0), .int p1] (wHK g a_hk q_hk_reader (a_ri 0) (a_now 0) (a_tr 0) q_hk_history q_hk_board (a_se 0) q_hk_within q_hk_colouring q_hk_chances hk ++ (wSe g a_se (a_sb 0) se ++ (wBo g a_sb (a_ri 0) sb ++ (wMo g a_tr tr ++ (wMo g a_now now ++ (wRi g a_ri ri ++ [])))))) (wHK g a_hk q_hk_reader (a_ri 0) (a_now 0) (a_tr 0) q_hk_history q_hk_board (a_se 0) q_hk_within q_hk_colouring q_hk_chances hk ++ (wSe g a_se (a_sb 0) o_se ++ (wBo g a_sb (a_ri 0) o_sb ++ (wMo g a_tr o_tr ++ (wMo g a_now now ++ (wRi g a_ri ri ++ [])))))) r_ := by
  refine start2 (Qc := fun sz => QI g (wHK g a_hk q_hk_reader (a_ri 0) (a_now 0) (a_tr 0) q_hk_history q_hk_board (a_se 0) q_hk_within q_hk_colouring q_hk_chances hk ++ (wSe g a_se (a_sb 0) se ++ (wBo g a_sb (a_ri 0) sb ++ (wMo g a_tr tr ++ (wMo g a_now now ++ (wRi g a_ri ri ++ [])))))) (wHK g a_hk q_hk_reader (a_ri 0) (a_now 0) (a_tr 0) q_hk_history q_hk_board (a_se 0) q_hk_within q_hk_colouring q_hk_chances hk ++ (wSe g a_se (a_sb 0) o_se ++ (wBo g a_sb (a_ri 0) o_sb ++ (wMo g a_tr o_tr ++ (wMo g a_now now ++ (wRi g a_ri ri ++ [])))))) r_ sz) (by decide) rfl ?_
  intro p e s m args below meth c ls Q A ha hQ hA X hl hI hin
  have X : Cx p s m args meth c cX11_bestPart 6 RX11 (some .int) := X
  have hl : lv_has ls 6 [(0, .ref (a_hk 0)), (1, .int p1)] := hl
  obtain ⟨hx, hb, hml, hown, ht, hr, hlk⟩ := id X
  clear ha hin
  have L_88 : ∀ (x1 : Int32) (x2 : Int32) (x3 : Int32) (x4 : Int32) (se : SeS) (sb : BoS) (tr : MoS) (k10 : (Int32) → (Int32) → (Int32) → (Int32) → (SeS) → (BoS) → (MoS) → (MoS) → (RiS) → Option (Int32 × (SeS) × (BoS) × (MoS))) (H : Heap) (locs : List Loc) (ls : Array Slot), lv_has ls 6 [(0, .ref (a_hk 0)), (1, .int x1), (2, .int x2), (3, .int x3), (4, .int x4)] → In g A s.heap s (wHK g a_hk q_hk_reader (a_ri 0) (a_now 0) (a_tr 0) q_hk_history q_hk_board (a_se 0) q_hk_within q_hk_colouring q_hk_chances hk ++ (wSe g a_se (a_sb 0) se ++ (wBo g a_sb (a_ri 0) sb ++ (wMo g a_tr tr ++ (wMo g a_now now ++ (wRi g a_ri ri ++ [])))))) H locs → f_X11_bestPart_L88 x1 x2 x3 x4 se sb tr now ri k10 = some (r_, o_se, o_sb, o_tr) → (∀ (x1 : Int32) (x2 : Int32) (x3 : Int32) (x4 : Int32) (se : SeS) (sb : BoS) (tr : MoS) (H : Heap) (locs : List Loc) (ls : Array Slot), lv_has ls 6 [(0, .ref (a_hk 0)), (1, .int x1), (2, .int x2), (3, .int x3), (4, .int x4)] → In g A s.heap s (wHK g a_hk q_hk_reader (a_ri 0) (a_now 0) (a_tr 0) q_hk_history q_hk_board (a_se 0) q_hk_within q_hk_colouring q_hk_chances hk ++ (wSe g a_se (a_sb 0) se ++ (wBo g a_sb (a_ri 0) sb ++ (wMo g a_tr tr ++ (wMo g a_now now ++ (wRi g a_ri ri ++ [])))))) H locs → k10 x1 x2 x3 x4 se sb tr now ri = some (r_, o_se, o_sb, o_tr) → W p l e rm_X11_bestPart s m args below meth c H locs 0 0 Q (F0 m 10 ls [])) → W p l e rm_X11_bestPart s m args below meth c H locs 0 0 Q (F0 m 88 ls []) := by
    intro x1 x2 x3 x4 se sb tr k10 H locs ls hl hI hf hk10
    unfold f_X11_bestPart_L88 at hf
    obtain ⟨v_7, e_⟩ : ∃ y : Int32, y = (x4 + (1 : Int32)) := ⟨_, rfl⟩
    replace hf := lt_to e_ hf
    refine lv_iinc (v := v_7) (lv' := [(4, .int v_7), (0, .ref (a_hk 0)), (1, .int x1), (2, .int x2), (3, .int x3)]) hx hb dX11_bestPart_88 hl (k := 4) rfl (by rw [e_]; rfl) (by decide) rfl (fun ls hl => ?_)
    clear e_
    refine lv_goto (tgt := 10) hx hb dX11_bestPart_91 (by decide) ?_
    exact hk10 x1 x2 x3 v_7 se sb tr _ _ _ (lv_sub hl [1, 2, 3, 4, 0] rfl) hI hf
  have L_10 : ∀ (n_ : Nat) (x1 : Int32) (x2 : Int32) (x3 : Int32) (x4 : Int32) (se : SeS) (sb : BoS) (tr : MoS) (H : Heap) (locs : List Loc) (ls : Array Slot), lv_has ls 6 [(0, .ref (a_hk 0)), (1, .int x1), (2, .int x2), (3, .int x3), (4, .int x4)] → In g A s.heap s (wHK g a_hk q_hk_reader (a_ri 0) (a_now 0) (a_tr 0) q_hk_history q_hk_board (a_se 0) q_hk_within q_hk_colouring q_hk_chances hk ++ (wSe g a_se (a_sb 0) se ++ (wBo g a_sb (a_ri 0) sb ++ (wMo g a_tr tr ++ (wMo g a_now now ++ (wRi g a_ri ri ++ [])))))) H locs → f_X11_bestPart_L10 n_ x1 x2 x3 x4 se sb tr now ri = some (r_, o_se, o_sb, o_tr) → W p l e rm_X11_bestPart s m args below meth c H locs 0 0 Q (F0 m 10 ls []) := by
    intro n_
    induction n_ with
    | zero =>
      intro x1 x2 x3 x4 se sb tr H locs ls hl hI hf
      rw [f_X11_bestPart_L10] at hf
      cases hf
    | succ n_ ih =>
      intro x1 x2 x3 x4 se sb tr H locs ls hl hI hf
      rw [f_X11_bestPart_L10] at hf
      refine lv_iload hx hb dX11_bestPart_10 (lv_at hl 4 rfl) ?_
      refine lv_aload_n hx hb dX11_bestPart_12 rfl (lv_at hl 0 rfl) ?_
      refine g_HK_rings X hI has_HK.l (X.fl w_677) dX11_bestPart_13 ?_
      refine g_Ri_links X hI has_Ri.l.r.r.r.r.r (hI.fn (List.mem_of_getElem? (i := 29) rfl)) dX11_bestPart_16 ?_
      refine lv_icmp_ge (tgt := 94) hx hb dX11_bestPart_19 (by decide) (fun h_ => ?_) (fun h_ => ?_)
      · replace hf := if_t h_ hf
        refine lv_iload_n hx hb dX11_bestPart_94 rfl (lv_at hl 2 rfl) ?_
        cases hf
        exact end_i hQ hA X hI dX11_bestPart_95
      · replace hf := if_f h_ hf
        refine lv_aload_n hx hb dX11_bestPart_22 rfl (lv_at hl 0 rfl) ?_
        refine g_HK_tried X hI has_HK.l (X.fl w_679) dX11_bestPart_23 ?_
        refine lv_aload_n hx hb dX11_bestPart_26 rfl (lv_at hl 0 rfl) ?_
        refine g_HK_now X hI has_HK.l (X.fl w_678) dX11_bestPart_27 ?_
        obtain ⟨tr_2, hc_, hf⟩ := bd1_some hf
        refine call_Vv X hI (Cj.skip (Cj.skip (Cj.skip (Cj.keep (Cj.keep Cj.nil))))) (c_X4_become l g a_tr a_now tr now tr_2 hc_) ⟨rfl, rfl⟩ ⟨ht _ w_1271, w_1274, ht _ w_148, lk_X4_become⟩ w_1272 w_1273 rfl rfl rfl hl rfl rfl dX11_bestPart_30 rfl rfl rfl rfl (fun H locs hI => ?_)
        refine lv_aload_n hx hb dX11_bestPart_33 rfl (lv_at hl 0 rfl) ?_
        refine g_HK_tried X hI has_HK.l (X.fl w_679) dX11_bestPart_34 ?_
        refine lv_aload_n hx hb dX11_bestPart_37 rfl (lv_at hl 0 rfl) ?_
        refine g_HK_rings X hI has_HK.l (X.fl w_677) dX11_bestPart_38 ?_
        refine lv_iload hx hb dX11_bestPart_41 (lv_at hl 4 rfl) ?_
        obtain ⟨tr_3, hc_, hf⟩ := bd1_some hf
        refine call_Vv X hI (Cj.skip (Cj.skip (Cj.skip (Cj.keep (Cj.skip (Cj.keep Cj.id)))))) (c_X4_letGo l g a_tr a_ri tr_2 ri x4 tr_3 hc_) ⟨rfl, rfl⟩ ⟨ht _ w_1275, w_1278, ht _ w_148, lk_X4_letGo⟩ w_1276 w_1277 rfl rfl rfl hl rfl rfl dX11_bestPart_43 rfl rfl rfl rfl (fun H locs hI => ?_)
        refine lv_aload_n hx hb dX11_bestPart_46 rfl (lv_at hl 0 rfl) ?_
        refine g_HK_search X hI has_HK.l (X.fl w_682) dX11_bestPart_47 ?_
        refine lv_aload_n hx hb dX11_bestPart_50 rfl (lv_at hl 0 rfl) ?_
        refine g_HK_tried X hI has_HK.l (X.fl w_679) dX11_bestPart_51 ?_
        refine lv_iload_n hx hb dX11_bestPart_54 rfl (lv_at hl 1 rfl) ?_
        refine lv_iconst (v := 1) hx hb dX11_bestPart_55 (by decide) ?_
        obtain ⟨r_4, se_5, sb_6, hc_, hf⟩ := bd3_some hf
        refine call_Vi X hI (Cj.skip (Cj.keep (Cj.keep (Cj.keep (Cj.skip (Cj.keep Cj.id)))))) (c_X7_grow l g a_se a_sb a_tr a_ri se sb tr_3 ri x1 (1 : Int32) r_4 se_5 sb_6 hc_) ⟨rfl, rfl⟩ ⟨ht _ w_1141, w_1144, ht _ w_151, lk_X7_grow⟩ w_1142 w_1143 rfl rfl rfl hl rfl rfl dX11_bestPart_56 rfl rfl rfl rfl (fun H locs hI => ?_)
        refine lv_istore (lv' := [(5, .int r_4), (0, .ref (a_hk 0)), (1, .int x1), (2, .int x2), (3, .int x3), (4, .int x4)]) hx hb dX11_bestPart_59 hl (by decide) rfl (fun ls hl => ?_)
        refine lv_iload hx hb dX11_bestPart_61 (lv_at hl 0 rfl) ?_
        refine lv_bipush (v := (-3)) hx hb dX11_bestPart_63 (by decide) ?_
        refine lv_icmp_ne (tgt := 71) hx hb dX11_bestPart_65 (by decide) (fun h_ => ?_) (fun h_ => ?_)
        · replace hf := if_f h_ hf
          refine lv_iload hx hb dX11_bestPart_71 (lv_at hl 0 rfl) ?_
          refine lv_if_lt (tgt := 88) hx hb dX11_bestPart_73 (by decide) (fun h_ => ?_) (fun h_ => ?_)
          · replace hf := if_t h_ hf
            exact L_88 x1 x2 x3 x4 se_5 sb_6 tr_3 _ _ _ _ (lv_sub hl [1, 2, 3, 4, 5] rfl) hI hf (fun z_0 z_1 z_2 z_3 z_4 z_5 z_6 _ _ _ hl hI hf => ih z_0 z_1 z_2 z_3 z_4 z_5 z_6 _ _ _ hl hI hf)
          · replace hf := if_f h_ hf
            refine lv_iload hx hb dX11_bestPart_76 (lv_at hl 0 rfl) ?_
            refine lv_iload_n hx hb dX11_bestPart_78 rfl (lv_at hl 4 rfl) ?_
            refine lv_icmp_ge (tgt := 88) hx hb dX11_bestPart_79 (by decide) (fun h_ => ?_) (fun h_ => ?_)
            · replace hf := if_t h_ hf
              exact L_88 x1 x2 x3 x4 se_5 sb_6 tr_3 _ _ _ _ (lv_sub hl [1, 2, 3, 4, 5] rfl) hI hf (fun z_0 z_1 z_2 z_3 z_4 z_5 z_6 _ _ _ hl hI hf => ih z_0 z_1 z_2 z_3 z_4 z_5 z_6 _ _ _ hl hI hf)
            · replace hf := if_f h_ hf
              refine lv_iload hx hb dX11_bestPart_82 (lv_at hl 0 rfl) ?_
              refine lv_istore_n (lv' := [(3, .int r_4), (5, .int r_4), (0, .ref (a_hk 0)), (1, .int x1), (2, .int x2), (4, .int x4)]) hx hb dX11_bestPart_84 rfl hl (by decide) rfl (fun ls hl => ?_)
              refine lv_iload hx hb dX11_bestPart_85 (lv_at hl 5 rfl) ?_
              refine lv_istore_n (lv' := [(2, .int x4), (3, .int r_4), (5, .int r_4), (0, .ref (a_hk 0)), (1, .int x1), (4, .int x4)]) hx hb dX11_bestPart_87 rfl hl (by decide) rfl (fun ls hl => ?_)
              exact L_88 x1 x4 r_4 x4 se_5 sb_6 tr_3 _ _ _ _ (lv_sub hl [3, 4, 0, 1, 5] rfl) hI hf (fun z_0 z_1 z_2 z_3 z_4 z_5 z_6 _ _ _ hl hI hf => ih z_0 z_1 z_2 z_3 z_4 z_5 z_6 _ _ _ hl hI hf)
        · replace hf := if_t h_ hf
          refine lv_iload hx hb dX11_bestPart_68 (lv_at hl 0 rfl) ?_
          cases hf
          exact end_i hQ hA X hI dX11_bestPart_70
  unfold f_X11_bestPart at hf
  refine lv_bipush (v := (-2)) hx hb dX11_bestPart_0 (by decide) ?_
  refine lv_istore_n (lv' := [(2, .int (-2 : Int32)), (0, .ref (a_hk 0)), (1, .int p1)]) hx hb dX11_bestPart_2 rfl hl (by decide) rfl (fun ls hl => ?_)
  refine lv_iload_n hx hb dX11_bestPart_3 rfl (lv_at hl 2 rfl) ?_
  refine lv_iconst (v := 1) hx hb dX11_bestPart_4 (by decide) ?_
  refine lv_iadd hx hb dX11_bestPart_5 ?_
  refine lv_topi (fun v_1 e_ => ?_)
  replace hf := lt_to e_ hf
  clear e_
  refine lv_istore_n (lv' := [(3, .int v_1), (2, .int (-2 : Int32)), (0, .ref (a_hk 0)), (1, .int p1)]) hx hb dX11_bestPart_6 rfl hl (by decide) rfl (fun ls hl => ?_)
  refine lv_iconst (v := 0) hx hb dX11_bestPart_7 (by decide) ?_
  refine lv_istore (lv' := [(4, .int (0 : Int32)), (3, .int v_1), (2, .int (-2 : Int32)), (0, .ref (a_hk 0)), (1, .int p1)]) hx hb dX11_bestPart_8 hl (by decide) rfl (fun ls hl => ?_)
  exact L_10 FU p1 (-2 : Int32) v_1 (0 : Int32) se sb tr _ _ _ (lv_sub hl [3, 4, 2, 1, 0] rfl) hI hf
def f_X11_bestLift_L99 (x1 : Int32) (x2 : Int32) (x3 : Int32) (x4 : Int32) (se : SeS) (sb : BoS) (tr : MoS) (bo : BoS) (now : MoS) (ri : RiS) (k10 : (Int32) → (Int32) → (Int32) → (Int32) → (SeS) → (BoS) → (MoS) → (BoS) → (MoS) → (RiS) → Option (Int32 × (SeS) × (BoS) × (MoS))) : Option (Int32 × (SeS) × (BoS) × (MoS)) :=
  lt1 (x4 + (1 : Int32)) fun (v_8 : Int32) =>
  k10 x1 x2 x3 v_8 se sb tr bo now ri
def f_X11_bestLift_L10 : Nat → (Int32) → (Int32) → (Int32) → (Int32) → (SeS) → (BoS) → (MoS) → (BoS) → (MoS) → (RiS) → Option (Int32 × (SeS) × (BoS) × (MoS))
  | 0, _, _, _, _, _, _, _, _, _, _ => none
  | n_ + 1, x1, x2, x3, x4, se, sb, tr, bo, now, ri =>
    if (Ri_crossings ri) ≤ x4 then
      some (x2, se, sb, tr)
    else
      bd1 (f_X0_isLeft bo x4) fun (r_2 : Int32) =>
      if r_2 = 0 then
        f_X11_bestLift_L99 x1 x2 x3 x4 se sb tr bo now ri (fun y0 y1 y2 y3 y4 y5 y6 y7 y8 y9 => f_X11_bestLift_L10 n_ y0 y1 y2 y3 y4 y5 y6 y7 y8 y9)
      else
        bd1 (f_X4_become tr now) fun (tr_3 : MoS) =>
        bd1 (f_X4_turnOver tr_3 x4) fun (tr_4 : MoS) =>
        bd3 (f_X7_grow se sb tr_4 ri x1 (1 : Int32)) fun (r_5 : Int32) (se_6 : SeS) (sb_7 : BoS) =>
        if r_5 = (-3 : Int32) then
          some (r_5, se_6, sb_7, tr_4)
        else
          if r_5 < 0 then
            f_X11_bestLift_L99 x1 x2 x3 x4 se_6 sb_7 tr_4 bo now ri (fun y0 y1 y2 y3 y4 y5 y6 y7 y8 y9 => f_X11_bestLift_L10 n_ y0 y1 y2 y3 y4 y5 y6 y7 y8 y9)
          else
            if x3 ≤ r_5 then
              f_X11_bestLift_L99 x1 x2 x3 x4 se_6 sb_7 tr_4 bo now ri (fun y0 y1 y2 y3 y4 y5 y6 y7 y8 y9 => f_X11_bestLift_L10 n_ y0 y1 y2 y3 y4 y5 y6 y7 y8 y9)
            else
              f_X11_bestLift_L99 x1 x4 r_5 x4 se_6 sb_7 tr_4 bo now ri (fun y0 y1 y2 y3 y4 y5 y6 y7 y8 y9 => f_X11_bestLift_L10 n_ y0 y1 y2 y3 y4 y5 y6 y7 y8 y9)
def f_X11_bestLift (se : SeS) (bo : BoS) (sb : BoS) (tr : MoS) (now : MoS) (ri : RiS) (p1 : Int32) : Option (Int32 × (SeS) × (BoS) × (MoS)) :=
  lt1 (p1 + (1 : Int32)) fun (v_1 : Int32) =>
  f_X11_bestLift_L10 FU p1 (-2 : Int32) v_1 (0 : Int32) se sb tr bo now ri
abbrev rm_X11_bestLift : Room := { frames := 6, cells := 0, slots := 0, locals := 147 }
set_option maxRecDepth 20000 in
theorem c_X11_bestLift (l : Launch) (g : GT) (a_hk : Nat → Nat) (a_se : Nat → Nat) (a_bo : Nat → Nat) (a_sb : Nat → Nat) (a_tr : Nat → Nat) (a_now : Nat → Nat) (a_ri : Nat → Nat) (q_hk_reader : Nat) (q_hk_history : Nat) (q_hk_within : Nat) (q_hk_colouring : Nat) (q_hk_chances : Nat) (hk : HKS) (se : SeS) (bo : BoS) (sb : BoS) (tr : MoS) (now : MoS) (ri : RiS) (p1 : Int32) (r_ : Int32) (o_se : SeS) (o_sb : BoS) (o_tr : MoS) (hf : f_X11_bestLift se bo sb tr now ri p1 = some (r_, o_se, o_sb, o_tr)) : CI l yX11_bestLift cX11_bestLift 6 (some .int) rm_X11_bestLift g [.ref (a_hk 0), .int p1] (wHK g a_hk q_hk_reader (a_ri 0) (a_now 0) (a_tr 0) q_hk_history (a_bo 0) (a_se 0) q_hk_within q_hk_colouring q_hk_chances hk ++ (wSe g a_se (a_sb 0) se ++ (wBo g a_bo (a_ri 0) bo ++ (wBo g a_sb (a_ri 0) sb ++ (wMo g a_tr tr ++ (wMo g a_now now ++ (wRi g a_ri ri ++ []))))))) (wHK g a_hk q_hk_reader (a_ri 0) (a_now 0) (a_tr 0) q_hk_history (a_bo 0) (a_se 0) q_hk_within q_hk_colouring q_hk_chances hk ++ (wSe g a_se (a_sb 0) o_se ++ (wBo g a_bo (a_ri 0) bo ++ (wBo g a_sb (a_ri 0) o_sb ++ (wMo g a_tr o_tr ++ (wMo g a_now now ++ (wRi g a_ri ri ++ []))))))) r_ := by
  refine start2 (Qc := fun sz => QI g (wHK g a_hk q_hk_reader (a_ri 0) (a_now 0) (a_tr 0) q_hk_history (a_bo 0) (a_se 0) q_hk_within q_hk_colouring q_hk_chances hk ++ (wSe g a_se (a_sb 0) se ++ (wBo g a_bo (a_ri 0) bo ++ (wBo g a_sb (a_ri 0) sb ++ (wMo g a_tr tr ++ (wMo g a_now now ++ (wRi g a_ri ri ++ []))))))) (wHK g a_hk q_hk_reader (a_ri 0) (a_now 0) (a_tr 0) q_hk_history (a_bo 0) (a_se 0) q_hk_within q_hk_colouring q_hk_chances hk ++ (wSe g a_se (a_sb 0) o_se ++ (wBo g a_bo (a_ri 0) bo ++ (wBo g a_sb (a_ri 0) o_sb ++ (wMo g a_tr o_tr ++ (wMo g a_now now ++ (wRi g a_ri ri ++ []))))))) r_ sz) (by decide) rfl ?_
  intro p e s m args below meth c ls Q A ha hQ hA X hl hI hin
  have X : Cx p s m args meth c cX11_bestLift 6 RX11 (some .int) := X
  have hl : lv_has ls 6 [(0, .ref (a_hk 0)), (1, .int p1)] := hl
  obtain ⟨hx, hb, hml, hown, ht, hr, hlk⟩ := id X
  clear ha hin
  have L_99 : ∀ (x1 : Int32) (x2 : Int32) (x3 : Int32) (x4 : Int32) (se : SeS) (sb : BoS) (tr : MoS) (k10 : (Int32) → (Int32) → (Int32) → (Int32) → (SeS) → (BoS) → (MoS) → (BoS) → (MoS) → (RiS) → Option (Int32 × (SeS) × (BoS) × (MoS))) (H : Heap) (locs : List Loc) (ls : Array Slot), lv_has ls 6 [(0, .ref (a_hk 0)), (1, .int x1), (2, .int x2), (3, .int x3), (4, .int x4)] → In g A s.heap s (wHK g a_hk q_hk_reader (a_ri 0) (a_now 0) (a_tr 0) q_hk_history (a_bo 0) (a_se 0) q_hk_within q_hk_colouring q_hk_chances hk ++ (wSe g a_se (a_sb 0) se ++ (wBo g a_bo (a_ri 0) bo ++ (wBo g a_sb (a_ri 0) sb ++ (wMo g a_tr tr ++ (wMo g a_now now ++ (wRi g a_ri ri ++ []))))))) H locs → f_X11_bestLift_L99 x1 x2 x3 x4 se sb tr bo now ri k10 = some (r_, o_se, o_sb, o_tr) → (∀ (x1 : Int32) (x2 : Int32) (x3 : Int32) (x4 : Int32) (se : SeS) (sb : BoS) (tr : MoS) (H : Heap) (locs : List Loc) (ls : Array Slot), lv_has ls 6 [(0, .ref (a_hk 0)), (1, .int x1), (2, .int x2), (3, .int x3), (4, .int x4)] → In g A s.heap s (wHK g a_hk q_hk_reader (a_ri 0) (a_now 0) (a_tr 0) q_hk_history (a_bo 0) (a_se 0) q_hk_within q_hk_colouring q_hk_chances hk ++ (wSe g a_se (a_sb 0) se ++ (wBo g a_bo (a_ri 0) bo ++ (wBo g a_sb (a_ri 0) sb ++ (wMo g a_tr tr ++ (wMo g a_now now ++ (wRi g a_ri ri ++ []))))))) H locs → k10 x1 x2 x3 x4 se sb tr bo now ri = some (r_, o_se, o_sb, o_tr) → W p l e rm_X11_bestLift s m args below meth c H locs 0 0 Q (F0 m 10 ls [])) → W p l e rm_X11_bestLift s m args below meth c H locs 0 0 Q (F0 m 99 ls []) := by
    intro x1 x2 x3 x4 se sb tr k10 H locs ls hl hI hf hk10
    unfold f_X11_bestLift_L99 at hf
    obtain ⟨v_8, e_⟩ : ∃ y : Int32, y = (x4 + (1 : Int32)) := ⟨_, rfl⟩
    replace hf := lt_to e_ hf
    refine lv_iinc (v := v_8) (lv' := [(4, .int v_8), (0, .ref (a_hk 0)), (1, .int x1), (2, .int x2), (3, .int x3)]) hx hb dX11_bestLift_99 hl (k := 4) rfl (by rw [e_]; rfl) (by decide) rfl (fun ls hl => ?_)
    clear e_
    refine lv_goto (tgt := 10) hx hb dX11_bestLift_102 (by decide) ?_
    exact hk10 x1 x2 x3 v_8 se sb tr _ _ _ (lv_sub hl [1, 2, 3, 4, 0] rfl) hI hf
  have L_10 : ∀ (n_ : Nat) (x1 : Int32) (x2 : Int32) (x3 : Int32) (x4 : Int32) (se : SeS) (sb : BoS) (tr : MoS) (H : Heap) (locs : List Loc) (ls : Array Slot), lv_has ls 6 [(0, .ref (a_hk 0)), (1, .int x1), (2, .int x2), (3, .int x3), (4, .int x4)] → In g A s.heap s (wHK g a_hk q_hk_reader (a_ri 0) (a_now 0) (a_tr 0) q_hk_history (a_bo 0) (a_se 0) q_hk_within q_hk_colouring q_hk_chances hk ++ (wSe g a_se (a_sb 0) se ++ (wBo g a_bo (a_ri 0) bo ++ (wBo g a_sb (a_ri 0) sb ++ (wMo g a_tr tr ++ (wMo g a_now now ++ (wRi g a_ri ri ++ []))))))) H locs → f_X11_bestLift_L10 n_ x1 x2 x3 x4 se sb tr bo now ri = some (r_, o_se, o_sb, o_tr) → W p l e rm_X11_bestLift s m args below meth c H locs 0 0 Q (F0 m 10 ls []) := by
    intro n_
    induction n_ with
    | zero =>
      intro x1 x2 x3 x4 se sb tr H locs ls hl hI hf
      rw [f_X11_bestLift_L10] at hf
      cases hf
    | succ n_ ih =>
      intro x1 x2 x3 x4 se sb tr H locs ls hl hI hf
      rw [f_X11_bestLift_L10] at hf
      refine lv_iload hx hb dX11_bestLift_10 (lv_at hl 4 rfl) ?_
      refine lv_aload_n hx hb dX11_bestLift_12 rfl (lv_at hl 0 rfl) ?_
      refine g_HK_rings X hI has_HK.l (X.fl w_677) dX11_bestLift_13 ?_
      refine g_Ri_crossings X hI has_Ri.l.r.r.r.r.r.r (hI.fn (List.mem_of_getElem? (i := 32) rfl)) dX11_bestLift_16 ?_
      refine lv_icmp_ge (tgt := 105) hx hb dX11_bestLift_19 (by decide) (fun h_ => ?_) (fun h_ => ?_)
      · replace hf := if_t h_ hf
        refine lv_iload_n hx hb dX11_bestLift_105 rfl (lv_at hl 2 rfl) ?_
        cases hf
        exact end_i hQ hA X hI dX11_bestLift_106
      · replace hf := if_f h_ hf
        refine lv_aload_n hx hb dX11_bestLift_22 rfl (lv_at hl 0 rfl) ?_
        refine g_HK_board X hI has_HK.l (X.fl w_681) dX11_bestLift_23 ?_
        refine lv_iload hx hb dX11_bestLift_26 (lv_at hl 4 rfl) ?_
        obtain ⟨r_2, hc_, hf⟩ := bd1_some hf
        refine call_Vi X hI (Cj.skip (Cj.skip (Cj.keep Cj.nil))) (c_X0_isLeft l g a_bo (a_ri 0) bo x4 r_2 hc_) ⟨rfl, rfl⟩ ⟨ht _ w_1289, w_1072, ht _ w_150, lk_X0_isLeft⟩ w_1070 w_1071 rfl rfl rfl hl rfl rfl dX11_bestLift_28 rfl rfl rfl rfl (fun H locs hI => ?_)
        refine lv_if_ne (tgt := 37) hx hb dX11_bestLift_31 (by decide) (fun h_ => ?_) (fun h_ => ?_)
        · replace hf := if_f h_ hf
          refine lv_aload_n hx hb dX11_bestLift_37 rfl (lv_at hl 0 rfl) ?_
          refine g_HK_tried X hI has_HK.l (X.fl w_679) dX11_bestLift_38 ?_
          refine lv_aload_n hx hb dX11_bestLift_41 rfl (lv_at hl 0 rfl) ?_
          refine g_HK_now X hI has_HK.l (X.fl w_678) dX11_bestLift_42 ?_
          obtain ⟨tr_3, hc_, hf⟩ := bd1_some hf
          refine call_Vv X hI (Cj.skip (Cj.skip (Cj.skip (Cj.skip (Cj.keep (Cj.keep Cj.nil)))))) (c_X4_become l g a_tr a_now tr now tr_3 hc_) ⟨rfl, rfl⟩ ⟨ht _ w_1271, w_1274, ht _ w_148, lk_X4_become⟩ w_1272 w_1273 rfl rfl rfl hl rfl rfl dX11_bestLift_45 rfl rfl rfl rfl (fun H locs hI => ?_)
          refine lv_aload_n hx hb dX11_bestLift_48 rfl (lv_at hl 0 rfl) ?_
          refine g_HK_tried X hI has_HK.l (X.fl w_679) dX11_bestLift_49 ?_
          refine lv_iload hx hb dX11_bestLift_52 (lv_at hl 4 rfl) ?_
          obtain ⟨tr_4, hc_, hf⟩ := bd1_some hf
          refine call_Vv X hI (Cj.skip (Cj.skip (Cj.skip (Cj.skip (Cj.keep Cj.nil))))) (c_X4_turnOver l g a_tr tr_3 x4 tr_4 hc_) ⟨rfl, rfl⟩ ⟨ht _ w_1290, w_1293, ht _ w_148, lk_X4_turnOver⟩ w_1291 w_1292 rfl rfl rfl hl rfl rfl dX11_bestLift_54 rfl rfl rfl rfl (fun H locs hI => ?_)
          refine lv_aload_n hx hb dX11_bestLift_57 rfl (lv_at hl 0 rfl) ?_
          refine g_HK_search X hI has_HK.l (X.fl w_682) dX11_bestLift_58 ?_
          refine lv_aload_n hx hb dX11_bestLift_61 rfl (lv_at hl 0 rfl) ?_
          refine g_HK_tried X hI has_HK.l (X.fl w_679) dX11_bestLift_62 ?_
          refine lv_iload_n hx hb dX11_bestLift_65 rfl (lv_at hl 1 rfl) ?_
          refine lv_iconst (v := 1) hx hb dX11_bestLift_66 (by decide) ?_
          obtain ⟨r_5, se_6, sb_7, hc_, hf⟩ := bd3_some hf
          refine call_Vi X hI (Cj.skip (Cj.keep (Cj.skip (Cj.keep (Cj.keep (Cj.skip (Cj.keep Cj.id))))))) (c_X7_grow l g a_se a_sb a_tr a_ri se sb tr_4 ri x1 (1 : Int32) r_5 se_6 sb_7 hc_) ⟨rfl, rfl⟩ ⟨ht _ w_1141, w_1144, ht _ w_151, lk_X7_grow⟩ w_1142 w_1143 rfl rfl rfl hl rfl rfl dX11_bestLift_67 rfl rfl rfl rfl (fun H locs hI => ?_)
          refine lv_istore (lv' := [(5, .int r_5), (0, .ref (a_hk 0)), (1, .int x1), (2, .int x2), (3, .int x3), (4, .int x4)]) hx hb dX11_bestLift_70 hl (by decide) rfl (fun ls hl => ?_)
          refine lv_iload hx hb dX11_bestLift_72 (lv_at hl 0 rfl) ?_
          refine lv_bipush (v := (-3)) hx hb dX11_bestLift_74 (by decide) ?_
          refine lv_icmp_ne (tgt := 82) hx hb dX11_bestLift_76 (by decide) (fun h_ => ?_) (fun h_ => ?_)
          · replace hf := if_f h_ hf
            refine lv_iload hx hb dX11_bestLift_82 (lv_at hl 0 rfl) ?_
            refine lv_if_lt (tgt := 99) hx hb dX11_bestLift_84 (by decide) (fun h_ => ?_) (fun h_ => ?_)
            · replace hf := if_t h_ hf
              exact L_99 x1 x2 x3 x4 se_6 sb_7 tr_4 _ _ _ _ (lv_sub hl [1, 2, 3, 4, 5] rfl) hI hf (fun z_0 z_1 z_2 z_3 z_4 z_5 z_6 _ _ _ hl hI hf => ih z_0 z_1 z_2 z_3 z_4 z_5 z_6 _ _ _ hl hI hf)
            · replace hf := if_f h_ hf
              refine lv_iload hx hb dX11_bestLift_87 (lv_at hl 0 rfl) ?_
              refine lv_iload_n hx hb dX11_bestLift_89 rfl (lv_at hl 4 rfl) ?_
              refine lv_icmp_ge (tgt := 99) hx hb dX11_bestLift_90 (by decide) (fun h_ => ?_) (fun h_ => ?_)
              · replace hf := if_t h_ hf
                exact L_99 x1 x2 x3 x4 se_6 sb_7 tr_4 _ _ _ _ (lv_sub hl [1, 2, 3, 4, 5] rfl) hI hf (fun z_0 z_1 z_2 z_3 z_4 z_5 z_6 _ _ _ hl hI hf => ih z_0 z_1 z_2 z_3 z_4 z_5 z_6 _ _ _ hl hI hf)
              · replace hf := if_f h_ hf
                refine lv_iload hx hb dX11_bestLift_93 (lv_at hl 0 rfl) ?_
                refine lv_istore_n (lv' := [(3, .int r_5), (5, .int r_5), (0, .ref (a_hk 0)), (1, .int x1), (2, .int x2), (4, .int x4)]) hx hb dX11_bestLift_95 rfl hl (by decide) rfl (fun ls hl => ?_)
                refine lv_iload hx hb dX11_bestLift_96 (lv_at hl 5 rfl) ?_
                refine lv_istore_n (lv' := [(2, .int x4), (3, .int r_5), (5, .int r_5), (0, .ref (a_hk 0)), (1, .int x1), (4, .int x4)]) hx hb dX11_bestLift_98 rfl hl (by decide) rfl (fun ls hl => ?_)
                exact L_99 x1 x4 r_5 x4 se_6 sb_7 tr_4 _ _ _ _ (lv_sub hl [3, 4, 0, 1, 5] rfl) hI hf (fun z_0 z_1 z_2 z_3 z_4 z_5 z_6 _ _ _ hl hI hf => ih z_0 z_1 z_2 z_3 z_4 z_5 z_6 _ _ _ hl hI hf)
          · replace hf := if_t h_ hf
            refine lv_iload hx hb dX11_bestLift_79 (lv_at hl 0 rfl) ?_
            cases hf
            exact end_i hQ hA X hI dX11_bestLift_81
        · replace hf := if_t h_ hf
          refine lv_goto (tgt := 99) hx hb dX11_bestLift_34 (by decide) ?_
          exact L_99 x1 x2 x3 x4 se sb tr _ _ _ _ hl hI hf (fun z_0 z_1 z_2 z_3 z_4 z_5 z_6 _ _ _ hl hI hf => ih z_0 z_1 z_2 z_3 z_4 z_5 z_6 _ _ _ hl hI hf)
  unfold f_X11_bestLift at hf
  refine lv_bipush (v := (-2)) hx hb dX11_bestLift_0 (by decide) ?_
  refine lv_istore_n (lv' := [(2, .int (-2 : Int32)), (0, .ref (a_hk 0)), (1, .int p1)]) hx hb dX11_bestLift_2 rfl hl (by decide) rfl (fun ls hl => ?_)
  refine lv_iload_n hx hb dX11_bestLift_3 rfl (lv_at hl 2 rfl) ?_
  refine lv_iconst (v := 1) hx hb dX11_bestLift_4 (by decide) ?_
  refine lv_iadd hx hb dX11_bestLift_5 ?_
  refine lv_topi (fun v_1 e_ => ?_)
  replace hf := lt_to e_ hf
  clear e_
  refine lv_istore_n (lv' := [(3, .int v_1), (2, .int (-2 : Int32)), (0, .ref (a_hk 0)), (1, .int p1)]) hx hb dX11_bestLift_6 rfl hl (by decide) rfl (fun ls hl => ?_)
  refine lv_iconst (v := 0) hx hb dX11_bestLift_7 (by decide) ?_
  refine lv_istore (lv' := [(4, .int (0 : Int32)), (3, .int v_1), (2, .int (-2 : Int32)), (0, .ref (a_hk 0)), (1, .int p1)]) hx hb dX11_bestLift_8 hl (by decide) rfl (fun ls hl => ?_)
  exact L_10 FU p1 (-2 : Int32) v_1 (0 : Int32) se sb tr _ _ _ (lv_sub hl [3, 4, 2, 1, 0] rfl) hI hf
def f_X11_makeMove (bo : BoS) (now : MoS) (ri : RiS) (p1 : Int32) : Option ((BoS) × (MoS)) :=
  bd1 (f_X0_after bo p1) fun (r_1 : Int64) =>
  lt1 (Mo_key' now r_1) fun (now_2 : MoS) =>
  bd1 (f_X0_lay bo now_2 ri) fun (bo_3 : BoS) =>
  some (bo_3, now_2)
abbrev rm_X11_makeMove : Room := { frames := 5, cells := 0, slots := 0, locals := 117 }
set_option maxRecDepth 20000 in
theorem c_X11_makeMove (l : Launch) (g : GT) (a_hk : Nat → Nat) (a_bo : Nat → Nat) (a_now : Nat → Nat) (a_ri : Nat → Nat) (q_hk_reader : Nat) (q_hk_tried : Nat) (q_hk_history : Nat) (q_hk_search : Nat) (q_hk_within : Nat) (q_hk_colouring : Nat) (q_hk_chances : Nat) (hk : HKS) (bo : BoS) (now : MoS) (ri : RiS) (p1 : Int32) (o_bo : BoS) (o_now : MoS) (hf : f_X11_makeMove bo now ri p1 = some (o_bo, o_now)) : CV l yX11_makeMove cX11_makeMove 2 none rm_X11_makeMove g [.ref (a_hk 0), .int p1] (wHK g a_hk q_hk_reader (a_ri 0) (a_now 0) q_hk_tried q_hk_history (a_bo 0) q_hk_search q_hk_within q_hk_colouring q_hk_chances hk ++ (wBo g a_bo (a_ri 0) bo ++ (wMo g a_now now ++ (wRi g a_ri ri ++ [])))) (wHK g a_hk q_hk_reader (a_ri 0) (a_now 0) q_hk_tried q_hk_history (a_bo 0) q_hk_search q_hk_within q_hk_colouring q_hk_chances hk ++ (wBo g a_bo (a_ri 0) o_bo ++ (wMo g a_now o_now ++ (wRi g a_ri ri ++ [])))) := by
  refine start2 (Qc := fun sz => QV g (wHK g a_hk q_hk_reader (a_ri 0) (a_now 0) q_hk_tried q_hk_history (a_bo 0) q_hk_search q_hk_within q_hk_colouring q_hk_chances hk ++ (wBo g a_bo (a_ri 0) bo ++ (wMo g a_now now ++ (wRi g a_ri ri ++ [])))) (wHK g a_hk q_hk_reader (a_ri 0) (a_now 0) q_hk_tried q_hk_history (a_bo 0) q_hk_search q_hk_within q_hk_colouring q_hk_chances hk ++ (wBo g a_bo (a_ri 0) o_bo ++ (wMo g a_now o_now ++ (wRi g a_ri ri ++ [])))) sz) (by decide) rfl ?_
  intro p e s m args below meth c ls Q A ha hQ hA X hl hI hin
  have X : Cx p s m args meth c cX11_makeMove 2 RX11 none := X
  have hl : lv_has ls 2 [(0, .ref (a_hk 0)), (1, .int p1)] := hl
  obtain ⟨hx, hb, hml, hown, ht, hr, hlk⟩ := id X
  clear ha hin
  unfold f_X11_makeMove at hf
  refine lv_aload_n hx hb dX11_makeMove_0 rfl (lv_at hl 0 rfl) ?_
  refine g_HK_now X hI has_HK.l (X.fl w_678) dX11_makeMove_1 ?_
  refine lv_aload_n hx hb dX11_makeMove_4 rfl (lv_at hl 0 rfl) ?_
  refine g_HK_board X hI has_HK.l (X.fl w_681) dX11_makeMove_5 ?_
  refine lv_iload_n hx hb dX11_makeMove_8 rfl (lv_at hl 1 rfl) ?_
  obtain ⟨r_1, hc_, hf⟩ := bd1_some hf
  refine call_Vl X hI (Cj.skip (Cj.keep Cj.nil)) (c_X0_after l g a_bo (a_ri 0) bo p1 r_1 hc_) ⟨rfl, rfl⟩ ⟨ht _ w_1437, w_1166, ht _ w_150, lk_X0_after⟩ w_1164 w_1165 rfl rfl rfl hl rfl rfl dX11_makeMove_9 rfl rfl rfl rfl (fun H locs hI => ?_)
  refine p_Mo_key X hI up_Mo_key.l.r.r (hI.fn (List.mem_of_getElem? (i := 57) rfl)) dX11_makeMove_12 (fun H locs hI => ?_)
  generalize hz_ : (Mo_key' now r_1) = now_2 at hI hf
  clear hz_
  replace hf := lt_e hf
  refine lv_aload_n hx hb dX11_makeMove_15 rfl (lv_at hl 0 rfl) ?_
  refine g_HK_board X hI has_HK.l (X.fl w_681) dX11_makeMove_16 ?_
  refine lv_aload_n hx hb dX11_makeMove_19 rfl (lv_at hl 0 rfl) ?_
  refine g_HK_now X hI has_HK.l (X.fl w_678) dX11_makeMove_20 ?_
  obtain ⟨bo_3, hc_, hf⟩ := bd1_some hf
  refine call_Vv X hI (Cj.skip (Cj.keep (Cj.keep (Cj.keep Cj.id)))) (c_X0_lay l g a_bo a_now a_ri bo now_2 ri bo_3 hc_) ⟨rfl, rfl⟩ ⟨ht _ w_936, w_939, ht _ w_150, lk_X0_lay⟩ w_937 w_938 rfl rfl rfl hl rfl rfl dX11_makeMove_23 rfl rfl rfl rfl (fun H locs hI => ?_)
  cases hf
  exact end_v hQ hA X hI dX11_makeMove_26
def f_X11_toldSize (ri : RiS) (p1 : Int32) : Option (Int32) :=
  if p1 = (0 : Int32) then
    some ((Ri_people ri))
  else
    if p1 = (1 : Int32) then
      some ((Ri_links ri))
    else
      if p1 = (2 : Int32) then
        some ((Ri_count ri))
      else
        if p1 = (3 : Int32) then
          some ((Ri_crossings ri))
        else
          if p1 = (4 : Int32) then
            some ((Ri_standings ri))
          else
            if p1 = (5 : Int32) then
              some ((Ri_tall ri))
            else
              if (Ri_once ri) = 0 then
                some ((0 : Int32))
              else
                some ((1 : Int32))
abbrev rm_X11_toldSize : Room := { frames := 0, cells := 0, slots := 0, locals := 0 }
set_option maxRecDepth 20000 in
theorem c_X11_toldSize (l : Launch) (g : GT) (a_hk : Nat → Nat) (a_ri : Nat → Nat) (q_hk_reader : Nat) (q_hk_now : Nat) (q_hk_tried : Nat) (q_hk_history : Nat) (q_hk_board : Nat) (q_hk_search : Nat) (q_hk_within : Nat) (q_hk_colouring : Nat) (q_hk_chances : Nat) (hk : HKS) (ri : RiS) (p1 : Int32) (r_ : Int32) (hf : f_X11_toldSize ri p1 = some (r_)) : CI l yX11_toldSize cX11_toldSize 2 (some .int) rm_X11_toldSize g [.ref (a_hk 0), .int p1] (wHK g a_hk q_hk_reader (a_ri 0) q_hk_now q_hk_tried q_hk_history q_hk_board q_hk_search q_hk_within q_hk_colouring q_hk_chances hk ++ (wRi g a_ri ri ++ [])) (wHK g a_hk q_hk_reader (a_ri 0) q_hk_now q_hk_tried q_hk_history q_hk_board q_hk_search q_hk_within q_hk_colouring q_hk_chances hk ++ (wRi g a_ri ri ++ [])) r_ := by
  refine start2 (Qc := fun sz => QI g (wHK g a_hk q_hk_reader (a_ri 0) q_hk_now q_hk_tried q_hk_history q_hk_board q_hk_search q_hk_within q_hk_colouring q_hk_chances hk ++ (wRi g a_ri ri ++ [])) (wHK g a_hk q_hk_reader (a_ri 0) q_hk_now q_hk_tried q_hk_history q_hk_board q_hk_search q_hk_within q_hk_colouring q_hk_chances hk ++ (wRi g a_ri ri ++ [])) r_ sz) (by decide) rfl ?_
  intro p e s m args below meth c ls Q A ha hQ hA X hl hI hin
  have X : Cx p s m args meth c cX11_toldSize 2 RX11 (some .int) := X
  have hl : lv_has ls 2 [(0, .ref (a_hk 0)), (1, .int p1)] := hl
  obtain ⟨hx, hb, hml, hown, ht, hr, hlk⟩ := id X
  clear ha hin
  unfold f_X11_toldSize at hf
  refine lv_iload_n hx hb dX11_toldSize_0 rfl (lv_at hl 1 rfl) ?_
  by_cases h0_ : p1 = (0 : Int32)
  · replace hf := if_t h0_ hf
    refine lv_tableIn (tgt := 40) (off := 39) hx hb dX11_toldSize_1 (by rw [h0_]; decide) (by rw [h0_]; decide) (by rw [h0_]; rfl) (by decide) ?_
    refine lv_aload_n hx hb dX11_toldSize_40 rfl (lv_at hl 0 rfl) ?_
    refine g_HK_rings X hI has_HK.l (X.fl w_677) dX11_toldSize_41 ?_
    refine g_Ri_people X hI has_Ri.l.r (hI.fn (List.mem_of_getElem? (i := 28) rfl)) dX11_toldSize_44 ?_
    cases hf
    exact end_i hQ hA X hI dX11_toldSize_47
  · replace hf := if_f h0_ hf
    by_cases h1_ : p1 = (1 : Int32)
    · replace hf := if_t h1_ hf
      refine lv_tableIn (tgt := 48) (off := 47) hx hb dX11_toldSize_1 (by rw [h1_]; decide) (by rw [h1_]; decide) (by rw [h1_]; rfl) (by decide) ?_
      refine lv_aload_n hx hb dX11_toldSize_48 rfl (lv_at hl 0 rfl) ?_
      refine g_HK_rings X hI has_HK.l (X.fl w_677) dX11_toldSize_49 ?_
      refine g_Ri_links X hI has_Ri.l.r (hI.fn (List.mem_of_getElem? (i := 29) rfl)) dX11_toldSize_52 ?_
      cases hf
      exact end_i hQ hA X hI dX11_toldSize_55
    · replace hf := if_f h1_ hf
      by_cases h2_ : p1 = (2 : Int32)
      · replace hf := if_t h2_ hf
        refine lv_tableIn (tgt := 56) (off := 55) hx hb dX11_toldSize_1 (by rw [h2_]; decide) (by rw [h2_]; decide) (by rw [h2_]; rfl) (by decide) ?_
        refine lv_aload_n hx hb dX11_toldSize_56 rfl (lv_at hl 0 rfl) ?_
        refine g_HK_rings X hI has_HK.l (X.fl w_677) dX11_toldSize_57 ?_
        refine g_Ri_count X hI has_Ri.l.r (hI.fn (List.mem_of_getElem? (i := 35) rfl)) dX11_toldSize_60 ?_
        cases hf
        exact end_i hQ hA X hI dX11_toldSize_63
      · replace hf := if_f h2_ hf
        by_cases h3_ : p1 = (3 : Int32)
        · replace hf := if_t h3_ hf
          refine lv_tableIn (tgt := 64) (off := 63) hx hb dX11_toldSize_1 (by rw [h3_]; decide) (by rw [h3_]; decide) (by rw [h3_]; rfl) (by decide) ?_
          refine lv_aload_n hx hb dX11_toldSize_64 rfl (lv_at hl 0 rfl) ?_
          refine g_HK_rings X hI has_HK.l (X.fl w_677) dX11_toldSize_65 ?_
          refine g_Ri_crossings X hI has_Ri.l.r (hI.fn (List.mem_of_getElem? (i := 32) rfl)) dX11_toldSize_68 ?_
          cases hf
          exact end_i hQ hA X hI dX11_toldSize_71
        · replace hf := if_f h3_ hf
          by_cases h4_ : p1 = (4 : Int32)
          · replace hf := if_t h4_ hf
            refine lv_tableIn (tgt := 72) (off := 71) hx hb dX11_toldSize_1 (by rw [h4_]; decide) (by rw [h4_]; decide) (by rw [h4_]; rfl) (by decide) ?_
            refine lv_aload_n hx hb dX11_toldSize_72 rfl (lv_at hl 0 rfl) ?_
            refine g_HK_rings X hI has_HK.l (X.fl w_677) dX11_toldSize_73 ?_
            refine g_Ri_standings X hI has_Ri.l.r (hI.fn (List.mem_of_getElem? (i := 34) rfl)) dX11_toldSize_76 ?_
            cases hf
            exact end_i hQ hA X hI dX11_toldSize_79
          · replace hf := if_f h4_ hf
            by_cases h5_ : p1 = (5 : Int32)
            · replace hf := if_t h5_ hf
              refine lv_tableIn (tgt := 80) (off := 79) hx hb dX11_toldSize_1 (by rw [h5_]; decide) (by rw [h5_]; decide) (by rw [h5_]; rfl) (by decide) ?_
              refine lv_aload_n hx hb dX11_toldSize_80 rfl (lv_at hl 0 rfl) ?_
              refine g_HK_rings X hI has_HK.l (X.fl w_677) dX11_toldSize_81 ?_
              refine g_Ri_tall X hI has_Ri.l.r (hI.fn (List.mem_of_getElem? (i := 37) rfl)) dX11_toldSize_84 ?_
              cases hf
              exact end_i hQ hA X hI dX11_toldSize_87
            · replace hf := if_f h5_ hf
              refine lv_tableOut (tgt := 88) hx hb dX11_toldSize_1 (by have q0 := sw_ne h0_ (j := 0) (by decide); have q1 := sw_ne h1_ (j := 1) (by decide); have q2 := sw_ne h2_ (j := 2) (by decide); have q3 := sw_ne h3_ (j := 3) (by decide); have q4 := sw_ne h4_ (j := 4) (by decide); have q5 := sw_ne h5_ (j := 5) (by decide); omega) (by decide) ?_
              refine lv_aload_n hx hb dX11_toldSize_88 rfl (lv_at hl 0 rfl) ?_
              refine g_HK_rings X hI has_HK.l (X.fl w_677) dX11_toldSize_89 ?_
              refine g_Ri_once X hI has_Ri.l.r (hI.fn (List.mem_of_getElem? (i := 38) rfl)) dX11_toldSize_92 ?_
              refine lv_if_eq (tgt := 102) hx hb dX11_toldSize_95 (by decide) (fun h_ => ?_) (fun h_ => ?_)
              · replace hf := if_t h_ hf
                refine lv_iconst (v := 0) hx hb dX11_toldSize_102 (by decide) ?_
                cases hf
                exact end_i hQ hA X hI dX11_toldSize_103
              · replace hf := if_f h_ hf
                refine lv_iconst (v := 1) hx hb dX11_toldSize_98 (by decide) ?_
                refine lv_goto (tgt := 103) hx hb dX11_toldSize_99 (by decide) ?_
                cases hf
                exact end_i hQ hA X hI dX11_toldSize_103
def f_X11_trouble (hk : HKS) : Option (Int32) :=
  some ((HK_trouble hk))
abbrev rm_X11_trouble : Room := { frames := 0, cells := 0, slots := 0, locals := 0 }
set_option maxRecDepth 20000 in
theorem c_X11_trouble (l : Launch) (g : GT) (a_hk : Nat → Nat) (q_hk_reader : Nat) (q_hk_rings : Nat) (q_hk_now : Nat) (q_hk_tried : Nat) (q_hk_history : Nat) (q_hk_board : Nat) (q_hk_search : Nat) (q_hk_within : Nat) (q_hk_colouring : Nat) (q_hk_chances : Nat) (hk : HKS) (r_ : Int32) (hf : f_X11_trouble hk = some (r_)) : CI l yX11_trouble cX11_trouble 1 (some .int) rm_X11_trouble g [.ref (a_hk 0)] (wHK g a_hk q_hk_reader q_hk_rings q_hk_now q_hk_tried q_hk_history q_hk_board q_hk_search q_hk_within q_hk_colouring q_hk_chances hk ++ []) (wHK g a_hk q_hk_reader q_hk_rings q_hk_now q_hk_tried q_hk_history q_hk_board q_hk_search q_hk_within q_hk_colouring q_hk_chances hk ++ []) r_ := by
  refine start2 (Qc := fun sz => QI g (wHK g a_hk q_hk_reader q_hk_rings q_hk_now q_hk_tried q_hk_history q_hk_board q_hk_search q_hk_within q_hk_colouring q_hk_chances hk ++ []) (wHK g a_hk q_hk_reader q_hk_rings q_hk_now q_hk_tried q_hk_history q_hk_board q_hk_search q_hk_within q_hk_colouring q_hk_chances hk ++ []) r_ sz) (by decide) rfl ?_
  intro p e s m args below meth c ls Q A ha hQ hA X hl hI hin
  have X : Cx p s m args meth c cX11_trouble 1 RX11 (some .int) := X
  have hl : lv_has ls 1 [(0, .ref (a_hk 0))] := hl
  obtain ⟨hx, hb, hml, hown, ht, hr, hlk⟩ := id X
  clear ha hin
  unfold f_X11_trouble at hf
  refine lv_aload_n hx hb dX11_trouble_0 rfl (lv_at hl 0 rfl) ?_
  refine g_HK_trouble X hI has_HK.l (X.fl w_687) dX11_trouble_1 ?_
  cases hf
  exact end_i hQ hA X hI dX11_trouble_4
