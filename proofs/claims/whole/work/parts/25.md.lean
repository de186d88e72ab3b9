abbrev rm_X13_twist : Room := { frames := 4, cells := 0, slots := 0, locals := 92 }
set_option maxRecDepth 20000 in
theorem c_X13_twist (l : Launch) (g : GT) (a_md : Nat → Nat) (a_tn : Nat → Nat) (q_md_read : Option Nat) (md : MdS) (tn : TnS) (p1 : Int32) (r_ : Int32) (o_md : MdS) (hf : f_X13_twist md tn p1 = some (r_, o_md)) : CI l yX13_twist cX13_twist 4 (some .int) rm_X13_twist g [.ref (a_md 0), .int p1] (wMd g a_md (some (a_tn 0)) q_md_read md ++ (wTn g a_tn tn ++ [])) (wMd g a_md (some (a_tn 0)) q_md_read o_md ++ (wTn g a_tn tn ++ [])) r_ := by
  refine start2 (y := yX13_twist) (cc := cX13_twist) (n := 4) (av := [.ref (a_md 0), .int p1]) (ws := (wMd g a_md (some (a_tn 0)) q_md_read md ++ (wTn g a_tn tn ++ []))) (Qc := fun sz => QI g (wMd g a_md (some (a_tn 0)) q_md_read md ++ (wTn g a_tn tn ++ [])) (wMd g a_md (some (a_tn 0)) q_md_read o_md ++ (wTn g a_tn tn ++ [])) r_ sz) (by decide) rfl ?_
  intro p e s m args below meth c ls Q A ha hQ hA X hl hI hin
  have X : Cx p s m args meth c cX13_twist 4 RX13 (some .int) := X
  have hl : lv_has ls 4 [(0, .ref (a_md 0)), (1, .int p1)] := hl
  obtain ⟨hx, hb, hml, hown, ht, hr, hlk⟩ := id X
  clear ha hin
  have L_92 : ∀ (x1 : Int32) (x2 : Int32) (x3 : Int32) (md : MdS) (k23 : (Int32) → (Int32) → (Int32) → (MdS) → (TnS) → Option (Int32 × (MdS))) (H : Heap) (locs : List Loc) (ls : Array Slot), lv_has ls 4 [(0, .ref (a_md 0)), (1, .int x1), (2, .int x2), (3, .int x3)] → In g A s.heap s (wMd g a_md (some (a_tn 0)) q_md_read md ++ (wTn g a_tn tn ++ [])) H locs → f_X13_twist_L92 x1 x2 x3 md tn k23 = some (r_, o_md) → (∀ (x1 : Int32) (x2 : Int32) (x3 : Int32) (md : MdS) (H : Heap) (locs : List Loc) (ls : Array Slot), lv_has ls 4 [(0, .ref (a_md 0)), (1, .int x1), (2, .int x2), (3, .int x3)] → In g A s.heap s (wMd g a_md (some (a_tn 0)) q_md_read md ++ (wTn g a_tn tn ++ [])) H locs → k23 x1 x2 x3 md tn = some (r_, o_md) → W p l e rm_X13_twist s m args below meth c H locs 0 0 Q (F0 m 23 ls [])) → W p l e rm_X13_twist s m args below meth c H locs 0 0 Q (F0 m 92 ls []) := by
    intro x1 x2 x3 md k23 H locs ls hl hI hf hk23
    unfold f_X13_twist_L92 at hf
    obtain ⟨v_11, e_⟩ : ∃ y : Int32, y = (x3 + (1 : Int32)) := ⟨_, rfl⟩
    replace hf := lt_to e_ hf
    refine lv_iinc (v := v_11) (lv' := [(3, .int v_11), (0, .ref (a_md 0)), (1, .int x1), (2, .int x2)]) hx hb dX13_twist_92 hl (k := 3) rfl (by rw [e_]; rfl) (by decide) rfl (fun ls hl => ?_)
    clear e_
    refine lv_goto (tgt := 23) hx hb dX13_twist_95 (by decide) ?_
    exact hk23 x1 x2 v_11 md _ _ _ (lv_sub hl [1, 2, 3, 0] rfl) hI hf
  have L_23 : ∀ (n_ : Nat) (x1 : Int32) (x2 : Int32) (x3 : Int32) (md : MdS) (H : Heap) (locs : List Loc) (ls : Array Slot), lv_has ls 4 [(0, .ref (a_md 0)), (1, .int x1), (2, .int x2), (3, .int x3)] → In g A s.heap s (wMd g a_md (some (a_tn 0)) q_md_read md ++ (wTn g a_tn tn ++ [])) H locs → f_X13_twist_L23 n_ x1 x2 x3 md tn = some (r_, o_md) → W p l e rm_X13_twist s m args below meth c H locs 0 0 Q (F0 m 23 ls []) := by
    intro n_
    induction n_ with
    | zero =>
      intro x1 x2 x3 md H locs ls hl hI hf
      rw [f_X13_twist_L23] at hf
      cases hf
    | succ n_ ih =>
      intro x1 x2 x3 md H locs ls hl hI hf
      rw [f_X13_twist_L23] at hf
      refine lv_iload_n hx hb dX13_twist_23 rfl (lv_at hl 3 rfl) ?_
      refine lv_aload_n hx hb dX13_twist_24 rfl (lv_at hl 0 rfl) ?_
      refine g_Md_tangle_S X hI has_Md.l (X.fl w_1586) dX13_twist_25 ?_
      refine g_Tn_crossings X hI has_Tn.l.r (hI.fn (List.mem_of_getElem? (i := 82) rfl)) dX13_twist_28 ?_
      refine lv_icmp_ge (tgt := 98) hx hb dX13_twist_31 (by decide) (fun h_ => ?_) (fun h_ => ?_)
      · replace hf := if_t h_ hf
        refine lv_aload_n hx hb dX13_twist_98 rfl (lv_at hl 0 rfl) ?_
        refine lv_iload_n hx hb dX13_twist_99 rfl (lv_at hl 2 rfl) ?_
        obtain ⟨r_5, md_6, hc_, hf⟩ := bd2_some hf
        refine call_Vi X hI (Cj.keep Cj.nil) (c_X13_good l g a_md (some (a_tn 0)) q_md_read md x2 r_5 md_6 hc_) ⟨rfl, rfl⟩ ⟨ht _ w_1998, w_2001, ht _ w_155, lk_X13_good⟩ w_2000 w_92 rfl rfl rfl hl rfl rfl dX13_twist_100 rfl rfl rfl rfl (fun H locs hI => ?_)
        cases hf
        exact end_i hQ hA X hI dX13_twist_103
      · replace hf := if_f h_ hf
        refine lv_aload_n hx hb dX13_twist_34 rfl (lv_at hl 0 rfl) ?_
        refine g_Md_tangle_S X hI has_Md.l (X.fl w_1586) dX13_twist_35 ?_
        refine g_Tn_linkRing X hI has_Tn.l.r (hI.fn (List.mem_of_getElem? (i := 103) rfl)) dX13_twist_38 ?_
        refine lv_aload_n hx hb dX13_twist_41 rfl (lv_at hl 0 rfl) ?_
        refine g_Md_tangle_S X hI has_Md.l (X.fl w_1586) dX13_twist_42 ?_
        refine g_Tn_over X hI has_Tn.l.r (hI.fn (List.mem_of_getElem? (i := 93) rfl)) dX13_twist_45 ?_
        refine lv_iload_n hx hb dX13_twist_48 rfl (lv_at hl 3 rfl) ?_
        obtain ⟨h_, hf⟩ := ck_someM hf
        refine ld_I X hI has_Tn_over.l.r h_ dX13_twist_49 ?_
        obtain ⟨h_, hf⟩ := ck_someM hf
        refine ld_I X hI has_Tn_linkRing.l.r h_ dX13_twist_50 ?_
        refine lv_iload_n hx hb dX13_twist_51 rfl (lv_at hl 1 rfl) ?_
        refine lv_icmp_ne (tgt := 92) hx hb dX13_twist_52 (by decide) (fun h_ => ?_) (fun h_ => ?_)
        · replace hf := if_f h_ hf
          exact L_92 x1 x2 x3 md _ _ _ _ hl hI hf (fun z_0 z_1 z_2 z_3 _ _ _ hl hI hf => ih z_0 z_1 z_2 z_3 _ _ _ hl hI hf)
        · replace hf := if_t h_ hf
          refine lv_aload_n hx hb dX13_twist_55 rfl (lv_at hl 0 rfl) ?_
          refine g_Md_tangle_S X hI has_Md.l (X.fl w_1586) dX13_twist_56 ?_
          refine g_Tn_linkRing X hI has_Tn.l.r (hI.fn (List.mem_of_getElem? (i := 103) rfl)) dX13_twist_59 ?_
          refine lv_aload_n hx hb dX13_twist_62 rfl (lv_at hl 0 rfl) ?_
          refine g_Md_tangle_S X hI has_Md.l (X.fl w_1586) dX13_twist_63 ?_
          refine g_Tn_under X hI has_Tn.l.r (hI.fn (List.mem_of_getElem? (i := 95) rfl)) dX13_twist_66 ?_
          refine lv_iload_n hx hb dX13_twist_69 rfl (lv_at hl 3 rfl) ?_
          obtain ⟨h_, hf⟩ := ck_someM hf
          refine ld_I X hI has_Tn_under.l.r h_ dX13_twist_70 ?_
          obtain ⟨h_, hf⟩ := ck_someM hf
          refine ld_I X hI has_Tn_linkRing.l.r h_ dX13_twist_71 ?_
          refine lv_iload_n hx hb dX13_twist_72 rfl (lv_at hl 1 rfl) ?_
          refine lv_icmp_ne (tgt := 92) hx hb dX13_twist_73 (by decide) (fun h_ => ?_) (fun h_ => ?_)
          · replace hf := if_f h_ hf
            exact L_92 x1 x2 x3 md _ _ _ _ hl hI hf (fun z_0 z_1 z_2 z_3 _ _ _ hl hI hf => ih z_0 z_1 z_2 z_3 _ _ _ hl hI hf)
          · replace hf := if_t h_ hf
            refine lv_aload_n hx hb dX13_twist_76 rfl (lv_at hl 0 rfl) ?_
            refine lv_iload_n hx hb dX13_twist_77 rfl (lv_at hl 3 rfl) ?_
            obtain ⟨r_7, md_8, hc_, hf⟩ := bd2_some hf
            refine call_Vi X hI (Cj.keep (Cj.keep Cj.id)) (c_X13_isLeft l g a_md a_tn q_md_read md tn x3 r_7 md_8 hc_) ⟨rfl, rfl⟩ ⟨ht _ w_2067, w_2070, ht _ w_155, lk_X13_isLeft⟩ w_2069 w_98 rfl rfl rfl hl rfl rfl dX13_twist_78 rfl rfl rfl rfl (fun H locs hI => ?_)
            refine lv_if_eq (tgt := 92) hx hb dX13_twist_81 (by decide) (fun h_ => ?_) (fun h_ => ?_)
            · replace hf := if_t h_ hf
              exact L_92 x1 x2 x3 md_8 _ _ _ _ hl hI hf (fun z_0 z_1 z_2 z_3 _ _ _ hl hI hf => ih z_0 z_1 z_2 z_3 _ _ _ hl hI hf)
            · replace hf := if_f h_ hf
              refine lv_iload_n hx hb dX13_twist_84 rfl (lv_at hl 2 rfl) ?_
              refine lv_aload_n hx hb dX13_twist_85 rfl (lv_at hl 0 rfl) ?_
              refine lv_iload_n hx hb dX13_twist_86 rfl (lv_at hl 3 rfl) ?_
              obtain ⟨r_9, hc_, hf⟩ := bd1_some hf
              refine call_Vi X hI (Cj.keep (Cj.keep Cj.id)) (c_X13_signNow l g a_md a_tn q_md_read md_8 tn x3 r_9 hc_) ⟨rfl, rfl⟩ ⟨ht _ w_2083, w_2086, ht _ w_155, lk_X13_signNow⟩ w_2085 w_102 rfl rfl rfl hl rfl rfl dX13_twist_87 rfl rfl rfl rfl (fun H locs hI => ?_)
              refine lv_iadd hx hb dX13_twist_90 ?_
              refine lv_topi (fun v_10 e_ => ?_)
              replace hf := lt_to e_ hf
              clear e_
              refine lv_istore_n (lv' := [(2, .int v_10), (0, .ref (a_md 0)), (1, .int x1), (3, .int x3)]) hx hb dX13_twist_91 rfl hl (by decide) rfl (fun ls hl => ?_)
              exact L_92 x1 v_10 x3 md_8 _ _ _ _ (lv_sub hl [1, 2, 0, 3] rfl) hI hf (fun z_0 z_1 z_2 z_3 _ _ _ hl hI hf => ih z_0 z_1 z_2 z_3 _ _ _ hl hI hf)
  unfold f_X13_twist at hf
  refine lv_aload_n hx hb dX13_twist_0 rfl (lv_at hl 0 rfl) ?_
  refine lv_iconst (v := 0) hx hb dX13_twist_1 (by decide) ?_
  refine p_Md_thrown X hI up_Md_thrown.l (X.fl w_1583) dX13_twist_2 (fun H locs hI => ?_)
  generalize hz_ : (Md_thrown' md (0 : Int32)) = md_1 at hI hf
  clear hz_
  replace hf := lt_e hf
  refine lv_aload_n hx hb dX13_twist_5 rfl (lv_at hl 0 rfl) ?_
  refine lv_iload_n hx hb dX13_twist_6 rfl (lv_at hl 1 rfl) ?_
  obtain ⟨r_2, hc_, hf⟩ := bd1_some hf
  refine call_Vi X hI (Cj.keep (Cj.keep Cj.id)) (c_X13_isRing l g a_md a_tn q_md_read md_1 tn p1 r_2 hc_) ⟨rfl, rfl⟩ ⟨ht _ w_2022, w_2025, ht _ w_155, lk_X13_isRing⟩ w_2024 w_94 rfl rfl rfl hl rfl rfl dX13_twist_7 rfl rfl rfl rfl (fun H locs hI => ?_)
  refine lv_if_ne (tgt := 19) hx hb dX13_twist_10 (by decide) (fun h_ => ?_) (fun h_ => ?_)
  · replace hf := if_f h_ hf
    refine lv_iconst (v := 0) hx hb dX13_twist_19 (by decide) ?_
    refine lv_istore_n (lv' := [(2, .int (0 : Int32)), (0, .ref (a_md 0)), (1, .int p1)]) hx hb dX13_twist_20 rfl hl (by decide) rfl (fun ls hl => ?_)
    refine lv_iconst (v := 0) hx hb dX13_twist_21 (by decide) ?_
    refine lv_istore_n (lv' := [(3, .int (0 : Int32)), (2, .int (0 : Int32)), (0, .ref (a_md 0)), (1, .int p1)]) hx hb dX13_twist_22 rfl hl (by decide) rfl (fun ls hl => ?_)
    exact L_23 FU p1 (0 : Int32) (0 : Int32) md_1 _ _ _ (lv_sub hl [2, 3, 1, 0] rfl) hI hf
  · replace hf := if_t h_ hf
    refine lv_aload_n hx hb dX13_twist_13 rfl (lv_at hl 0 rfl) ?_
    refine lv_iconst (v := 1) hx hb dX13_twist_14 (by decide) ?_
    obtain ⟨r_3, md_4, hc_, hf⟩ := bd2_some hf
    refine call_Vi X hI (Cj.keep Cj.nil) (c_X13_lost l g a_md (some (a_tn 0)) q_md_read md_1 (1 : Int32) r_3 md_4 hc_) ⟨rfl, rfl⟩ ⟨ht _ w_2063, w_2066, ht _ w_155, lk_X13_lost⟩ w_2065 w_97 rfl rfl rfl hl rfl rfl dX13_twist_15 rfl rfl rfl rfl (fun H locs hI => ?_)
    cases hf
    exact end_i hQ hA X hI dX13_twist_18
abbrev rm_X13_arcs : Room := { frames := 3, cells := 0, slots := 0, locals := 75 }
set_option maxRecDepth 20000 in
theorem c_X13_arcs (l : Launch) (g : GT) (a_md : Nat → Nat) (a_tn : Nat → Nat) (q_md_read : Option Nat) (md : MdS) (tn : TnS) (r_ : Int32) (o_md : MdS) (hf : f_X13_arcs md tn = some (r_, o_md)) : CI l yX13_arcs cX13_arcs 1 (some .int) rm_X13_arcs g [.ref (a_md 0)] (wMd g a_md (some (a_tn 0)) q_md_read md ++ (wTn g a_tn tn ++ [])) (wMd g a_md (some (a_tn 0)) q_md_read o_md ++ (wTn g a_tn tn ++ [])) r_ := by
  refine start2 (y := yX13_arcs) (cc := cX13_arcs) (n := 1) (av := [.ref (a_md 0)]) (ws := (wMd g a_md (some (a_tn 0)) q_md_read md ++ (wTn g a_tn tn ++ []))) (Qc := fun sz => QI g (wMd g a_md (some (a_tn 0)) q_md_read md ++ (wTn g a_tn tn ++ [])) (wMd g a_md (some (a_tn 0)) q_md_read o_md ++ (wTn g a_tn tn ++ [])) r_ sz) (by decide) rfl ?_
  intro p e s m args below meth c ls Q A ha hQ hA X hl hI hin
  have X : Cx p s m args meth c cX13_arcs 1 RX13 (some .int) := X
  have hl : lv_has ls 1 [(0, .ref (a_md 0))] := hl
  obtain ⟨hx, hb, hml, hown, ht, hr, hlk⟩ := id X
  clear ha hin
  unfold f_X13_arcs at hf
  refine lv_aload_n hx hb dX13_arcs_0 rfl (lv_at hl 0 rfl) ?_
  refine lv_iconst (v := 0) hx hb dX13_arcs_1 (by decide) ?_
  refine p_Md_thrown X hI up_Md_thrown.l (X.fl w_1583) dX13_arcs_2 (fun H locs hI => ?_)
  generalize hz_ : (Md_thrown' md (0 : Int32)) = md_1 at hI hf
  clear hz_
  replace hf := lt_e hf
  refine lv_aload_n hx hb dX13_arcs_5 rfl (lv_at hl 0 rfl) ?_
  refine g_Md_tangle_S X hI has_Md.l (X.fl w_1586) dX13_arcs_6 ?_
  refine lv_ifnonnull (tgt := 18) hx hb dX13_arcs_9 (by decide) ?_
  refine lv_aload_n hx hb dX13_arcs_18 rfl (lv_at hl 0 rfl) ?_
  obtain ⟨md_2, hc_, hf⟩ := bd1_some hf
  refine call_Vv X hI (Cj.keep (Cj.keep Cj.id)) (c_X13_laysArcs l g a_md a_tn q_md_read md_1 tn md_2 hc_) ⟨rfl, rfl⟩ ⟨ht _ w_2216, w_2219, ht _ w_155, lk_X13_laysArcs⟩ w_2218 w_121 rfl rfl rfl hl rfl rfl dX13_arcs_19 rfl rfl rfl rfl (fun H locs hI => ?_)
  refine lv_aload_n hx hb dX13_arcs_22 rfl (lv_at hl 0 rfl) ?_
  refine lv_aload_n hx hb dX13_arcs_23 rfl (lv_at hl 0 rfl) ?_
  refine g_Md_arcs X hI has_Md.l (X.fl w_1611) dX13_arcs_24 ?_
  obtain ⟨r_3, md_4, hc_, hf⟩ := bd2_some hf
  refine call_Vi X hI (Cj.keep Cj.nil) (c_X13_good l g a_md (some (a_tn 0)) q_md_read md_2 (Md_arcs md_2) r_3 md_4 hc_) ⟨rfl, rfl⟩ ⟨ht _ w_1998, w_2001, ht _ w_155, lk_X13_good⟩ w_2000 w_92 rfl rfl rfl hl rfl rfl dX13_arcs_27 rfl rfl rfl rfl (fun H locs hI => ?_)
  cases hf
  exact end_i hQ hA X hI dX13_arcs_30
abbrev rm_X13_comesAll : Room := { frames := 6, cells := 0, slots := 0, locals := 134 }
set_option maxRecDepth 20000 in
theorem c_X13_comesAll (l : Launch) (g : GT) (a_md : Nat → Nat) (a_tn : Nat → Nat) (q_md_read : Option Nat) (md : MdS) (tn : TnS) (p1 : Int32) (r_ : Int32) (o_md : MdS) (hf : f_X13_comesAll md tn p1 = some (r_, o_md)) : CI l yX13_comesAll cX13_comesAll 6 (some .boolean) rm_X13_comesAll g [.ref (a_md 0), .int p1] (wMd g a_md (some (a_tn 0)) q_md_read md ++ (wTn g a_tn tn ++ [])) (wMd g a_md (some (a_tn 0)) q_md_read o_md ++ (wTn g a_tn tn ++ [])) r_ := by
  refine start2 (y := yX13_comesAll) (cc := cX13_comesAll) (n := 6) (av := [.ref (a_md 0), .int p1]) (ws := (wMd g a_md (some (a_tn 0)) q_md_read md ++ (wTn g a_tn tn ++ []))) (Qc := fun sz => QI g (wMd g a_md (some (a_tn 0)) q_md_read md ++ (wTn g a_tn tn ++ [])) (wMd g a_md (some (a_tn 0)) q_md_read o_md ++ (wTn g a_tn tn ++ [])) r_ sz) (by decide) rfl ?_
  intro p e s m args below meth c ls Q A ha hQ hA X hl hI hin
  have X : Cx p s m args meth c cX13_comesAll 6 RX13 (some .boolean) := X
  have hl : lv_has ls 6 [(0, .ref (a_md 0)), (1, .int p1)] := hl
  obtain ⟨hx, hb, hml, hown, ht, hr, hlk⟩ := id X
  clear ha hin
  have L_54 : ∀ (n_ : Nat) (x1 : Int32) (x3 : Int32) (x4 : Int32) (x5 : Int32) (md : MdS) (k40 : (Int32) → (Int32) → (Int32) → (MdS) → (TnS) → Option (Int32 × (MdS))) (H : Heap) (locs : List Loc) (ls : Array Slot), lv_has ls 6 [(0, .ref (a_md 0)), (1, .int x1), (3, .int x3), (4, .int x4), (5, .int x5)] → In g A s.heap s (wMd g a_md (some (a_tn 0)) q_md_read md ++ (wTn g a_tn tn ++ [])) H locs → f_X13_comesAll_L54 n_ x1 x3 x4 x5 md tn k40 = some (r_, o_md) → (∀ (x1 : Int32) (x2 : Int32) (x3 : Int32) (md : MdS) (H : Heap) (locs : List Loc) (ls : Array Slot), lv_has ls 6 [(0, .ref (a_md 0)), (1, .int x1), (2, .int x2), (3, .int x3)] → In g A s.heap s (wMd g a_md (some (a_tn 0)) q_md_read md ++ (wTn g a_tn tn ++ [])) H locs → k40 x1 x2 x3 md tn = some (r_, o_md) → W p l e rm_X13_comesAll s m args below meth c H locs 0 0 Q (F0 m 40 ls [])) → W p l e rm_X13_comesAll s m args below meth c H locs 0 0 Q (F0 m 54 ls []) := by
    intro n_
    induction n_ with
    | zero =>
      intro x1 x3 x4 x5 md k40 H locs ls hl hI hf hk40
      rw [f_X13_comesAll_L54] at hf
      cases hf
    | succ n_ ih =>
      intro x1 x3 x4 x5 md k40 H locs ls hl hI hf hk40
      rw [f_X13_comesAll_L54] at hf
      refine lv_iload hx hb dX13_comesAll_54 (lv_at hl 4 rfl) ?_
      refine lv_iload hx hb dX13_comesAll_56 (lv_at hl 3 rfl) ?_
      refine lv_icmp_ge (tgt := 83) hx hb dX13_comesAll_58 (by decide) (fun h_ => ?_) (fun h_ => ?_)
      · replace hf := if_t h_ hf
        refine lv_iload hx hb dX13_comesAll_83 (lv_at hl 3 rfl) ?_
        refine lv_istore_n (lv' := [(2, .int x4), (0, .ref (a_md 0)), (1, .int x1), (3, .int x3), (4, .int x4), (5, .int x5)]) hx hb dX13_comesAll_85 rfl hl (by decide) rfl (fun ls hl => ?_)
        obtain ⟨v_7, e_⟩ : ∃ y : Int32, y = (x3 + (1 : Int32)) := ⟨_, rfl⟩
        replace hf := lt_to e_ hf
        refine lv_iinc (v := v_7) (lv' := [(3, .int v_7), (2, .int x4), (0, .ref (a_md 0)), (1, .int x1), (4, .int x4), (5, .int x5)]) hx hb dX13_comesAll_86 hl (k := 3) rfl (by rw [e_]; rfl) (by decide) rfl (fun ls hl => ?_)
        clear e_
        refine lv_goto (tgt := 40) hx hb dX13_comesAll_89 (by decide) ?_
        exact hk40 x1 x4 v_7 md _ _ _ (lv_sub hl [2, 3, 1, 0] rfl) hI hf
      · replace hf := if_f h_ hf
        refine lv_aload_n hx hb dX13_comesAll_61 rfl (lv_at hl 0 rfl) ?_
        refine lv_aload_n hx hb dX13_comesAll_62 rfl (lv_at hl 0 rfl) ?_
        refine g_Md_come X hI has_Md.l (X.fl w_1604) dX13_comesAll_63 ?_
        refine lv_iload hx hb dX13_comesAll_66 (lv_at hl 4 rfl) ?_
        obtain ⟨h_, hf⟩ := ck_someM hf
        refine ld_J X hI has_Md_come.l h_ dX13_comesAll_68 ?_
        obtain ⟨r_8, md_9, hc_, hf⟩ := bd2_some hf
        refine call_Vi X hI (Cj.keep (Cj.keep Cj.id)) (c_X13_goesOnFrom l g a_md a_tn q_md_read md tn (Md_come md (Int32.toNatClampNeg x5)) r_8 md_9 hc_) ⟨rfl, rfl⟩ ⟨ht _ w_2164, w_2167, ht _ w_155, lk_X13_goesOnFrom⟩ w_2166 w_113 rfl rfl rfl hl rfl rfl dX13_comesAll_69 rfl rfl rfl rfl (fun H locs hI => ?_)
        refine lv_if_ne (tgt := 77) hx hb dX13_comesAll_72 (by decide) (fun h_ => ?_) (fun h_ => ?_)
        · replace hf := if_f h_ hf
          obtain ⟨v_10, e_⟩ : ∃ y : Int32, y = (x5 + (1 : Int32)) := ⟨_, rfl⟩
          replace hf := lt_to e_ hf
          refine lv_iinc (v := v_10) (lv' := [(5, .int v_10), (0, .ref (a_md 0)), (1, .int x1), (3, .int x3), (4, .int x4)]) hx hb dX13_comesAll_77 hl (k := 4) rfl (by rw [e_]; rfl) (by decide) rfl (fun ls hl => ?_)
          clear e_
          refine lv_goto (tgt := 54) hx hb dX13_comesAll_80 (by decide) ?_
          exact ih x1 x3 x4 v_10 md_9 k40 _ _ _ (lv_sub hl [1, 2, 3, 4, 0] rfl) hI hf hk40
        · replace hf := if_t h_ hf
          refine lv_iconst (v := 0) hx hb dX13_comesAll_75 (by decide) ?_
          cases hf
          exact end_z hQ hA X hI rfl dX13_comesAll_76
  have L_40 : ∀ (n_ : Nat) (x1 : Int32) (x2 : Int32) (x3 : Int32) (md : MdS) (H : Heap) (locs : List Loc) (ls : Array Slot), lv_has ls 6 [(0, .ref (a_md 0)), (1, .int x1), (2, .int x2), (3, .int x3)] → In g A s.heap s (wMd g a_md (some (a_tn 0)) q_md_read md ++ (wTn g a_tn tn ++ [])) H locs → f_X13_comesAll_L40 n_ x1 x2 x3 md tn = some (r_, o_md) → W p l e rm_X13_comesAll s m args below meth c H locs 0 0 Q (F0 m 40 ls []) := by
    intro n_
    induction n_ with
    | zero =>
      intro x1 x2 x3 md H locs ls hl hI hf
      rw [f_X13_comesAll_L40] at hf
      cases hf
    | succ n_ ih =>
      intro x1 x2 x3 md H locs ls hl hI hf
      rw [f_X13_comesAll_L40] at hf
      refine lv_iload_n hx hb dX13_comesAll_40 rfl (lv_at hl 3 rfl) ?_
      refine lv_iload_n hx hb dX13_comesAll_41 rfl (lv_at hl 1 rfl) ?_
      refine lv_icmp_ge (tgt := 92) hx hb dX13_comesAll_42 (by decide) (fun h_ => ?_) (fun h_ => ?_)
      · replace hf := if_t h_ hf
        refine lv_iconst (v := 1) hx hb dX13_comesAll_92 (by decide) ?_
        cases hf
        exact end_z hQ hA X hI rfl dX13_comesAll_93
      · replace hf := if_f h_ hf
        refine lv_aload_n hx hb dX13_comesAll_45 rfl (lv_at hl 0 rfl) ?_
        refine g_Md_many X hI has_Md.l (X.fl w_1606) dX13_comesAll_46 ?_
        refine lv_topi (fun v_6 e_ => ?_)
        replace hf := lt_to e_ hf
        clear e_
        refine lv_istore (lv' := [(4, .int v_6), (0, .ref (a_md 0)), (1, .int x1), (2, .int x2), (3, .int x3)]) hx hb dX13_comesAll_49 hl (by decide) rfl (fun ls hl => ?_)
        refine lv_iload_n hx hb dX13_comesAll_51 rfl (lv_at hl 3 rfl) ?_
        refine lv_istore (lv' := [(5, .int x2), (4, .int v_6), (0, .ref (a_md 0)), (1, .int x1), (2, .int x2), (3, .int x3)]) hx hb dX13_comesAll_52 hl (by decide) rfl (fun ls hl => ?_)
        exact L_54 FU x1 x3 v_6 x2 md _ _ _ _ (lv_sub hl [2, 3, 5, 1, 0] rfl) hI hf (fun z_0 z_1 z_2 z_3 _ _ _ hl hI hf => ih z_0 z_1 z_2 z_3 _ _ _ hl hI hf)
  have L_2 : ∀ (n_ : Nat) (x1 : Int32) (x2 : Int32) (md : MdS) (H : Heap) (locs : List Loc) (ls : Array Slot), lv_has ls 6 [(0, .ref (a_md 0)), (1, .int x1), (2, .int x2)] → In g A s.heap s (wMd g a_md (some (a_tn 0)) q_md_read md ++ (wTn g a_tn tn ++ [])) H locs → f_X13_comesAll_L2 n_ x1 x2 md tn = some (r_, o_md) → W p l e rm_X13_comesAll s m args below meth c H locs 0 0 Q (F0 m 2 ls []) := by
    intro n_
    induction n_ with
    | zero =>
      intro x1 x2 md H locs ls hl hI hf
      rw [f_X13_comesAll_L2] at hf
      cases hf
    | succ n_ ih =>
      intro x1 x2 md H locs ls hl hI hf
      rw [f_X13_comesAll_L2] at hf
      refine lv_iload_n hx hb dX13_comesAll_2 rfl (lv_at hl 2 rfl) ?_
      refine lv_sipush (v := 16384) hx hb dX13_comesAll_3 (by decide) ?_
      refine lv_icmp_ge (tgt := 22) hx hb dX13_comesAll_6 (by decide) (fun h_ => ?_) (fun h_ => ?_)
      · replace hf := if_t h_ hf
        refine lv_aload_n hx hb dX13_comesAll_22 rfl (lv_at hl 0 rfl) ?_
        refine lv_iconst (v := 0) hx hb dX13_comesAll_23 (by decide) ?_
        refine p_Md_many X hI up_Md_many.l (X.fl w_1606) dX13_comesAll_24 (fun H locs hI => ?_)
        generalize hz_ : (Md_many' md (0 : Int32)) = md_1 at hI hf
        clear hz_
        replace hf := lt_e hf
        refine lv_aload_n hx hb dX13_comesAll_27 rfl (lv_at hl 0 rfl) ?_
        refine lv_aload_n hx hb dX13_comesAll_28 rfl (lv_at hl 0 rfl) ?_
        refine g_Md_now X hI has_Md.l (X.fl w_1598) dX13_comesAll_29 ?_
        obtain ⟨r_2, md_3, hc_, hf⟩ := bd2_some hf
        refine call_Vi X hI (Cj.keep Cj.nil) (c_X13_comes l g a_md (some (a_tn 0)) q_md_read md_1 (Md_now md_1) r_2 md_3 hc_) ⟨rfl, rfl⟩ ⟨ht _ w_2158, w_2161, ht _ w_155, lk_X13_comes⟩ w_2160 w_112 rfl rfl rfl hl rfl rfl dX13_comesAll_32 rfl rfl rfl rfl (fun H locs hI => ?_)
        refine lv_pop hx hb dX13_comesAll_35 rfl ?_
        refine lv_iconst (v := 0) hx hb dX13_comesAll_36 (by decide) ?_
        refine lv_istore_n (lv' := [(2, .int (0 : Int32)), (0, .ref (a_md 0)), (1, .int x1)]) hx hb dX13_comesAll_37 rfl hl (by decide) rfl (fun ls hl => ?_)
        refine lv_iconst (v := 0) hx hb dX13_comesAll_38 (by decide) ?_
        refine lv_istore_n (lv' := [(3, .int (0 : Int32)), (2, .int (0 : Int32)), (0, .ref (a_md 0)), (1, .int x1)]) hx hb dX13_comesAll_39 rfl hl (by decide) rfl (fun ls hl => ?_)
        exact L_40 FU x1 (0 : Int32) (0 : Int32) md_3 _ _ _ (lv_sub hl [2, 3, 1, 0] rfl) hI hf
      · replace hf := if_f h_ hf
        refine lv_aload_n hx hb dX13_comesAll_9 rfl (lv_at hl 0 rfl) ?_
        refine g_Md_table X hI has_Md.l (X.fl w_1605) dX13_comesAll_10 ?_
        refine lv_iload_n hx hb dX13_comesAll_13 rfl (lv_at hl 2 rfl) ?_
        refine lv_lconst (v := 0) hx hb dX13_comesAll_14 (by decide) ?_
        obtain ⟨h_, hf⟩ := ck_someM hf
        refine st_J X hI up_Md_table.l h_ dX13_comesAll_15 (fun H locs hI => ?_)
        generalize hz_ : (Md_table' md (vp_updL (Md_table md) (Int32.toNatClampNeg x2) (0 : Int64))) = md_4 at hI hf
        clear hz_
        replace hf := lt_e hf
        obtain ⟨v_5, e_⟩ : ∃ y : Int32, y = (x2 + (1 : Int32)) := ⟨_, rfl⟩
        replace hf := lt_to e_ hf
        refine lv_iinc (v := v_5) (lv' := [(2, .int v_5), (0, .ref (a_md 0)), (1, .int x1)]) hx hb dX13_comesAll_16 hl (k := 2) rfl (by rw [e_]; rfl) (by decide) rfl (fun ls hl => ?_)
        clear e_
        refine lv_goto (tgt := 2) hx hb dX13_comesAll_19 (by decide) ?_
        exact ih x1 v_5 md_4 _ _ _ (lv_sub hl [1, 2, 0] rfl) hI hf
  unfold f_X13_comesAll at hf
  refine lv_iconst (v := 0) hx hb dX13_comesAll_0 (by decide) ?_
  refine lv_istore_n (lv' := [(2, .int (0 : Int32)), (0, .ref (a_md 0)), (1, .int p1)]) hx hb dX13_comesAll_1 rfl hl (by decide) rfl (fun ls hl => ?_)
  exact L_2 FU p1 (0 : Int32) md _ _ _ (lv_sub hl [1, 2, 0] rfl) hI hf
abbrev rm_X13_reached : Room := { frames := 7, cells := 0, slots := 0, locals := 159 }
set_option maxRecDepth 20000 in
theorem c_X13_reached (l : Launch) (g : GT) (a_md : Nat → Nat) (a_tn : Nat → Nat) (q_md_read : Option Nat) (md : MdS) (tn : TnS) (p1 : Int32) (r_ : Int32) (o_md : MdS) (hf : f_X13_reached md tn p1 = some (r_, o_md)) : CI l yX13_reached cX13_reached 2 (some .int) rm_X13_reached g [.ref (a_md 0), .int p1] (wMd g a_md (some (a_tn 0)) q_md_read md ++ (wTn g a_tn tn ++ [])) (wMd g a_md (some (a_tn 0)) q_md_read o_md ++ (wTn g a_tn tn ++ [])) r_ := by
  refine start2 (y := yX13_reached) (cc := cX13_reached) (n := 2) (av := [.ref (a_md 0), .int p1]) (ws := (wMd g a_md (some (a_tn 0)) q_md_read md ++ (wTn g a_tn tn ++ []))) (Qc := fun sz => QI g (wMd g a_md (some (a_tn 0)) q_md_read md ++ (wTn g a_tn tn ++ [])) (wMd g a_md (some (a_tn 0)) q_md_read o_md ++ (wTn g a_tn tn ++ [])) r_ sz) (by decide) rfl ?_
  intro p e s m args below meth c ls Q A ha hQ hA X hl hI hin
  have X : Cx p s m args meth c cX13_reached 2 RX13 (some .int) := X
  have hl : lv_has ls 2 [(0, .ref (a_md 0)), (1, .int p1)] := hl
  obtain ⟨hx, hb, hml, hown, ht, hr, hlk⟩ := id X
  clear ha hin
  unfold f_X13_reached at hf
  refine lv_aload_n hx hb dX13_reached_0 rfl (lv_at hl 0 rfl) ?_
  refine lv_iconst (v := 0) hx hb dX13_reached_1 (by decide) ?_
  refine p_Md_thrown X hI up_Md_thrown.l (X.fl w_1583) dX13_reached_2 (fun H locs hI => ?_)
  generalize hz_ : (Md_thrown' md (0 : Int32)) = md_1 at hI hf
  clear hz_
  replace hf := lt_e hf
  refine lv_aload_n hx hb dX13_reached_5 rfl (lv_at hl 0 rfl) ?_
  refine g_Md_tangle_S X hI has_Md.l (X.fl w_1586) dX13_reached_6 ?_
  refine lv_ifnonnull (tgt := 18) hx hb dX13_reached_9 (by decide) ?_
  refine lv_iload_n hx hb dX13_reached_18 rfl (lv_at hl 1 rfl) ?_
  refine lv_iconst (v := 0) hx hb dX13_reached_19 (by decide) ?_
  refine lv_bipush (v := 8) hx hb dX13_reached_20 (by decide) ?_
  obtain ⟨r_2, hc_, hf⟩ := bd1_some hf
  refine call_Si X hI Cj.nil (c_X13_in l g p1 (0 : Int32) (8 : Int32) r_2 hc_) ⟨rfl, rfl⟩ ⟨ht _ w_1910, w_1912, ht _ w_155, lk_X13_in⟩ w_1911 rfl hl rfl rfl dX13_reached_22 rfl rfl rfl rfl (fun H locs hI => ?_)
  refine lv_if_ne (tgt := 34) hx hb dX13_reached_25 (by decide) (fun h_ => ?_) (fun h_ => ?_)
  · replace hf := if_f h_ hf
    refine lv_aload_n hx hb dX13_reached_34 rfl (lv_at hl 0 rfl) ?_
    refine lv_iload_n hx hb dX13_reached_35 rfl (lv_at hl 1 rfl) ?_
    obtain ⟨r_3, md_4, hc_, hf⟩ := bd2_some hf
    refine call_Vi X hI (Cj.keep (Cj.keep Cj.id)) (c_X13_comesAll l g a_md a_tn q_md_read md_1 tn p1 r_3 md_4 hc_) ⟨rfl, rfl⟩ ⟨ht _ w_2275, w_2278, ht _ w_155, lk_X13_comesAll⟩ w_2277 w_128 rfl rfl rfl hl rfl rfl dX13_reached_36 rfl rfl rfl rfl (fun H locs hI => ?_)
    refine lv_if_eq (tgt := 53) hx hb dX13_reached_39 (by decide) (fun h_ => ?_) (fun h_ => ?_)
    · replace hf := if_t h_ hf
      refine lv_aload_n hx hb dX13_reached_53 rfl (lv_at hl 0 rfl) ?_
      refine lv_iconst (v := 3) hx hb dX13_reached_54 (by decide) ?_
      obtain ⟨r_5, md_6, hc_, hf⟩ := bd2_some hf
      refine call_Vi X hI (Cj.keep Cj.nil) (c_X13_refused l g a_md (some (a_tn 0)) q_md_read md_4 (3 : Int32) r_5 md_6 hc_) ⟨rfl, rfl⟩ ⟨ht _ w_1719, w_1722, ht _ w_155, lk_X13_refused⟩ w_1721 w_65 rfl rfl rfl hl rfl rfl dX13_reached_55 rfl rfl rfl rfl (fun H locs hI => ?_)
      cases hf
      exact end_i hQ hA X hI dX13_reached_58
    · replace hf := if_f h_ hf
      refine lv_aload_n hx hb dX13_reached_42 rfl (lv_at hl 0 rfl) ?_
      refine lv_aload_n hx hb dX13_reached_43 rfl (lv_at hl 0 rfl) ?_
      refine g_Md_many X hI has_Md.l (X.fl w_1606) dX13_reached_44 ?_
      obtain ⟨r_7, md_8, hc_, hf⟩ := bd2_some hf
      refine call_Vi X hI (Cj.keep Cj.nil) (c_X13_good l g a_md (some (a_tn 0)) q_md_read md_4 (Md_many md_4) r_7 md_8 hc_) ⟨rfl, rfl⟩ ⟨ht _ w_1998, w_2001, ht _ w_155, lk_X13_good⟩ w_2000 w_92 rfl rfl rfl hl rfl rfl dX13_reached_47 rfl rfl rfl rfl (fun H locs hI => ?_)
      refine lv_goto (tgt := 58) hx hb dX13_reached_50 (by decide) ?_
      cases hf
      exact end_i hQ hA X hI dX13_reached_58
  · replace hf := if_t h_ hf
    refine lv_aload_n hx hb dX13_reached_28 rfl (lv_at hl 0 rfl) ?_
    refine lv_iconst (v := 2) hx hb dX13_reached_29 (by decide) ?_
    obtain ⟨r_9, md_10, hc_, hf⟩ := bd2_some hf
    refine call_Vi X hI (Cj.keep Cj.nil) (c_X13_refused l g a_md (some (a_tn 0)) q_md_read md_1 (2 : Int32) r_9 md_10 hc_) ⟨rfl, rfl⟩ ⟨ht _ w_1719, w_1722, ht _ w_155, lk_X13_refused⟩ w_1721 w_65 rfl rfl rfl hl rfl rfl dX13_reached_30 rfl rfl rfl rfl (fun H locs hI => ?_)
    cases hf
    exact end_i hQ hA X hI dX13_reached_33
abbrev rm_X13_few : Room := { frames := 7, cells := 0, slots := 0, locals := 159 }
set_option maxRecDepth 20000 in
theorem c_X13_few (l : Launch) (g : GT) (a_md : Nat → Nat) (a_tn : Nat → Nat) (q_md_read : Option Nat) (md : MdS) (tn : TnS) (p1 : Int32) (r_ : Int32) (o_md : MdS) (hf : f_X13_few md tn p1 = some (r_, o_md)) : CI l yX13_few cX13_few 4 (some .int) rm_X13_few g [.ref (a_md 0), .int p1] (wMd g a_md (some (a_tn 0)) q_md_read md ++ (wTn g a_tn tn ++ [])) (wMd g a_md (some (a_tn 0)) q_md_read o_md ++ (wTn g a_tn tn ++ [])) r_ := by
  refine start2 (y := yX13_few) (cc := cX13_few) (n := 4) (av := [.ref (a_md 0), .int p1]) (ws := (wMd g a_md (some (a_tn 0)) q_md_read md ++ (wTn g a_tn tn ++ []))) (Qc := fun sz => QI g (wMd g a_md (some (a_tn 0)) q_md_read md ++ (wTn g a_tn tn ++ [])) (wMd g a_md (some (a_tn 0)) q_md_read o_md ++ (wTn g a_tn tn ++ [])) r_ sz) (by decide) rfl ?_
  intro p e s m args below meth c ls Q A ha hQ hA X hl hI hin
  have X : Cx p s m args meth c cX13_few 4 RX13 (some .int) := X
  have hl : lv_has ls 4 [(0, .ref (a_md 0)), (1, .int p1)] := hl
  obtain ⟨hx, hb, hml, hown, ht, hr, hlk⟩ := id X
  clear ha hin
  have L_95 : ∀ (x3 : Int32) (t0i : Int32) (md : MdS) (k59 : (Int32) → (Int32) → (MdS) → (TnS) → Option (Int32 × (MdS))) (H : Heap) (locs : List Loc) (ls : Array Slot), lv_has ls 4 [(0, .ref (a_md 0)), (3, .int x3)] → In g A s.heap s (wMd g a_md (some (a_tn 0)) q_md_read md ++ (wTn g a_tn tn ++ [])) H locs → f_X13_few_L95 x3 t0i md tn k59 = some (r_, o_md) → (∀ (x2 : Int32) (x3 : Int32) (md : MdS) (H : Heap) (locs : List Loc) (ls : Array Slot), lv_has ls 4 [(0, .ref (a_md 0)), (2, .int x2), (3, .int x3)] → In g A s.heap s (wMd g a_md (some (a_tn 0)) q_md_read md ++ (wTn g a_tn tn ++ [])) H locs → k59 x2 x3 md tn = some (r_, o_md) → W p l e rm_X13_few s m args below meth c H locs 0 0 Q (F0 m 59 ls [])) → W p l e rm_X13_few s m args below meth c H locs 0 0 Q (F0 m 95 ls [.int t0i]) := by
    intro x3 t0i md k59 H locs ls hl hI hf hk59
    unfold f_X13_few_L95 at hf
    refine lv_istore_n (lv' := [(2, .int t0i), (0, .ref (a_md 0)), (3, .int x3)]) hx hb dX13_few_95 rfl hl (by decide) rfl (fun ls hl => ?_)
    obtain ⟨v_14, e_⟩ : ∃ y : Int32, y = (x3 + (1 : Int32)) := ⟨_, rfl⟩
    replace hf := lt_to e_ hf
    refine lv_iinc (v := v_14) (lv' := [(3, .int v_14), (2, .int t0i), (0, .ref (a_md 0))]) hx hb dX13_few_96 hl (k := 2) rfl (by rw [e_]; rfl) (by decide) rfl (fun ls hl => ?_)
    clear e_
    refine lv_goto (tgt := 59) hx hb dX13_few_99 (by decide) ?_
    exact hk59 t0i v_14 md _ _ _ (lv_sub hl [2, 1, 0] rfl) hI hf
  have L_59 : ∀ (n_ : Nat) (x2 : Int32) (x3 : Int32) (md : MdS) (H : Heap) (locs : List Loc) (ls : Array Slot), lv_has ls 4 [(0, .ref (a_md 0)), (2, .int x2), (3, .int x3)] → In g A s.heap s (wMd g a_md (some (a_tn 0)) q_md_read md ++ (wTn g a_tn tn ++ [])) H locs → f_X13_few_L59 n_ x2 x3 md tn = some (r_, o_md) → W p l e rm_X13_few s m args below meth c H locs 0 0 Q (F0 m 59 ls []) := by
    intro n_
    induction n_ with
    | zero =>
      intro x2 x3 md H locs ls hl hI hf
      rw [f_X13_few_L59] at hf
      cases hf
    | succ n_ ih =>
      intro x2 x3 md H locs ls hl hI hf
      rw [f_X13_few_L59] at hf
      refine lv_iload_n hx hb dX13_few_59 rfl (lv_at hl 2 rfl) ?_
      refine lv_aload_n hx hb dX13_few_60 rfl (lv_at hl 0 rfl) ?_
      refine g_Md_many X hI has_Md.l (X.fl w_1606) dX13_few_61 ?_
      refine lv_icmp_ge (tgt := 102) hx hb dX13_few_64 (by decide) (fun h_ => ?_) (fun h_ => ?_)
      · replace hf := if_t h_ hf
        refine lv_aload_n hx hb dX13_few_102 rfl (lv_at hl 0 rfl) ?_
        refine lv_iload_n hx hb dX13_few_103 rfl (lv_at hl 1 rfl) ?_
        obtain ⟨r_10, md_11, hc_, hf⟩ := bd2_some hf
        refine call_Vi X hI (Cj.keep Cj.nil) (c_X13_good l g a_md (some (a_tn 0)) q_md_read md x2 r_10 md_11 hc_) ⟨rfl, rfl⟩ ⟨ht _ w_1998, w_2001, ht _ w_155, lk_X13_good⟩ w_2000 w_92 rfl rfl rfl hl rfl rfl dX13_few_104 rfl rfl rfl rfl (fun H locs hI => ?_)
        cases hf
        exact end_i hQ hA X hI dX13_few_107
      · replace hf := if_f h_ hf
        refine lv_aload_n hx hb dX13_few_67 rfl (lv_at hl 0 rfl) ?_
        refine lv_aload_n hx hb dX13_few_68 rfl (lv_at hl 0 rfl) ?_
        refine g_Md_come X hI has_Md.l (X.fl w_1604) dX13_few_69 ?_
        refine lv_iload_n hx hb dX13_few_72 rfl (lv_at hl 2 rfl) ?_
        obtain ⟨h_, hf⟩ := ck_someM hf
        refine ld_J X hI has_Md_come.l h_ dX13_few_73 ?_
        obtain ⟨r_12, hc_, hf⟩ := bd1_some hf
        refine call_Vi X hI (Cj.keep (Cj.keep Cj.id)) (c_X13_leftIn l g a_md a_tn q_md_read md tn (Md_come md (Int32.toNatClampNeg x3)) r_12 hc_) ⟨rfl, rfl⟩ ⟨ht _ w_2095, w_2098, ht _ w_155, lk_X13_leftIn⟩ w_2097 w_103 rfl rfl rfl hl rfl rfl dX13_few_74 rfl rfl rfl rfl (fun H locs hI => ?_)
        refine lv_iload_n hx hb dX13_few_77 rfl (lv_at hl 1 rfl) ?_
        refine lv_icmp_ge (tgt := 94) hx hb dX13_few_78 (by decide) (fun h_ => ?_) (fun h_ => ?_)
        · replace hf := if_t h_ hf
          refine lv_iload_n hx hb dX13_few_94 rfl (lv_at hl 1 rfl) ?_
          exact L_95 x3 x2 md _ _ _ _ (lv_sub hl [0, 2] rfl) hI hf (fun z_0 z_1 z_2 _ _ _ hl hI hf => ih z_0 z_1 z_2 _ _ _ hl hI hf)
        · replace hf := if_f h_ hf
          refine lv_aload_n hx hb dX13_few_81 rfl (lv_at hl 0 rfl) ?_
          refine lv_aload_n hx hb dX13_few_82 rfl (lv_at hl 0 rfl) ?_
          refine g_Md_come X hI has_Md.l (X.fl w_1604) dX13_few_83 ?_
          refine lv_iload_n hx hb dX13_few_86 rfl (lv_at hl 2 rfl) ?_
          obtain ⟨h_, hf⟩ := ck_someM hf
          refine ld_J X hI has_Md_come.l h_ dX13_few_87 ?_
          obtain ⟨r_13, hc_, hf⟩ := bd1_some hf
          refine call_Vi X hI (Cj.keep (Cj.keep Cj.id)) (c_X13_leftIn l g a_md a_tn q_md_read md tn (Md_come md (Int32.toNatClampNeg x3)) r_13 hc_) ⟨rfl, rfl⟩ ⟨ht _ w_2095, w_2098, ht _ w_155, lk_X13_leftIn⟩ w_2097 w_103 rfl rfl rfl hl rfl rfl dX13_few_88 rfl rfl rfl rfl (fun H locs hI => ?_)
          refine lv_goto (tgt := 95) hx hb dX13_few_91 (by decide) ?_
          exact L_95 x3 r_13 md _ _ _ _ (lv_sub hl [0, 2] rfl) hI hf (fun z_0 z_1 z_2 _ _ _ hl hI hf => ih z_0 z_1 z_2 _ _ _ hl hI hf)
  unfold f_X13_few at hf
  refine lv_aload_n hx hb dX13_few_0 rfl (lv_at hl 0 rfl) ?_
  refine lv_iconst (v := 0) hx hb dX13_few_1 (by decide) ?_
  refine p_Md_thrown X hI up_Md_thrown.l (X.fl w_1583) dX13_few_2 (fun H locs hI => ?_)
  generalize hz_ : (Md_thrown' md (0 : Int32)) = md_1 at hI hf
  clear hz_
  replace hf := lt_e hf
  refine lv_aload_n hx hb dX13_few_5 rfl (lv_at hl 0 rfl) ?_
  refine g_Md_tangle_S X hI has_Md.l (X.fl w_1586) dX13_few_6 ?_
  refine lv_ifnonnull (tgt := 18) hx hb dX13_few_9 (by decide) ?_
  refine lv_iload_n hx hb dX13_few_18 rfl (lv_at hl 1 rfl) ?_
  refine lv_iconst (v := 0) hx hb dX13_few_19 (by decide) ?_
  refine lv_bipush (v := 8) hx hb dX13_few_20 (by decide) ?_
  obtain ⟨r_2, hc_, hf⟩ := bd1_some hf
  refine call_Si X hI Cj.nil (c_X13_in l g p1 (0 : Int32) (8 : Int32) r_2 hc_) ⟨rfl, rfl⟩ ⟨ht _ w_1910, w_1912, ht _ w_155, lk_X13_in⟩ w_1911 rfl hl rfl rfl dX13_few_22 rfl rfl rfl rfl (fun H locs hI => ?_)
  refine lv_if_ne (tgt := 34) hx hb dX13_few_25 (by decide) (fun h_ => ?_) (fun h_ => ?_)
  · replace hf := if_f h_ hf
    refine lv_aload_n hx hb dX13_few_34 rfl (lv_at hl 0 rfl) ?_
    refine lv_iload_n hx hb dX13_few_35 rfl (lv_at hl 1 rfl) ?_
    obtain ⟨r_3, md_4, hc_, hf⟩ := bd2_some hf
    refine call_Vi X hI (Cj.keep (Cj.keep Cj.id)) (c_X13_comesAll l g a_md a_tn q_md_read md_1 tn p1 r_3 md_4 hc_) ⟨rfl, rfl⟩ ⟨ht _ w_2275, w_2278, ht _ w_155, lk_X13_comesAll⟩ w_2277 w_128 rfl rfl rfl hl rfl rfl dX13_few_36 rfl rfl rfl rfl (fun H locs hI => ?_)
    refine lv_if_ne (tgt := 48) hx hb dX13_few_39 (by decide) (fun h_ => ?_) (fun h_ => ?_)
    · replace hf := if_f h_ hf
      refine lv_aload_n hx hb dX13_few_48 rfl (lv_at hl 0 rfl) ?_
      refine lv_aload_n hx hb dX13_few_49 rfl (lv_at hl 0 rfl) ?_
      refine g_Md_now X hI has_Md.l (X.fl w_1598) dX13_few_50 ?_
      obtain ⟨r_5, hc_, hf⟩ := bd1_some hf
      refine call_Vi X hI (Cj.keep (Cj.keep Cj.id)) (c_X13_leftIn l g a_md a_tn q_md_read md_4 tn (Md_now md_4) r_5 hc_) ⟨rfl, rfl⟩ ⟨ht _ w_2095, w_2098, ht _ w_155, lk_X13_leftIn⟩ w_2097 w_103 rfl rfl rfl hl rfl rfl dX13_few_53 rfl rfl rfl rfl (fun H locs hI => ?_)
      refine lv_istore_n (lv' := [(2, .int r_5), (0, .ref (a_md 0)), (1, .int p1)]) hx hb dX13_few_56 rfl hl (by decide) rfl (fun ls hl => ?_)
      refine lv_iconst (v := 0) hx hb dX13_few_57 (by decide) ?_
      refine lv_istore_n (lv' := [(3, .int (0 : Int32)), (2, .int r_5), (0, .ref (a_md 0)), (1, .int p1)]) hx hb dX13_few_58 rfl hl (by decide) rfl (fun ls hl => ?_)
      exact L_59 FU r_5 (0 : Int32) md_4 _ _ _ (lv_sub hl [2, 1, 0] rfl) hI hf
    · replace hf := if_t h_ hf
      refine lv_aload_n hx hb dX13_few_42 rfl (lv_at hl 0 rfl) ?_
      refine lv_iconst (v := 3) hx hb dX13_few_43 (by decide) ?_
      obtain ⟨r_6, md_7, hc_, hf⟩ := bd2_some hf
      refine call_Vi X hI (Cj.keep Cj.nil) (c_X13_refused l g a_md (some (a_tn 0)) q_md_read md_4 (3 : Int32) r_6 md_7 hc_) ⟨rfl, rfl⟩ ⟨ht _ w_1719, w_1722, ht _ w_155, lk_X13_refused⟩ w_1721 w_65 rfl rfl rfl hl rfl rfl dX13_few_44 rfl rfl rfl rfl (fun H locs hI => ?_)
      cases hf
      exact end_i hQ hA X hI dX13_few_47
  · replace hf := if_t h_ hf
    refine lv_aload_n hx hb dX13_few_28 rfl (lv_at hl 0 rfl) ?_
    refine lv_iconst (v := 2) hx hb dX13_few_29 (by decide) ?_
    obtain ⟨r_8, md_9, hc_, hf⟩ := bd2_some hf
    refine call_Vi X hI (Cj.keep Cj.nil) (c_X13_refused l g a_md (some (a_tn 0)) q_md_read md_1 (2 : Int32) r_8 md_9 hc_) ⟨rfl, rfl⟩ ⟨ht _ w_1719, w_1722, ht _ w_155, lk_X13_refused⟩ w_1721 w_65 rfl rfl rfl hl rfl rfl dX13_few_30 rfl rfl rfl rfl (fun H locs hI => ?_)
    cases hf
    exact end_i hQ hA X hI dX13_few_33
abbrev rm_X13_seesIn : Room := { frames := 1, cells := 0, slots := 0, locals := 22 }
set_option maxRecDepth 20000 in
theorem c_X13_seesIn (l : Launch) (g : GT) (a_md : Nat → Nat) (a_tn : Nat → Nat) (q_md_read : Option Nat) (md : MdS) (tn : TnS) (p1 : Int64) (p3 : Int32) (r_ : Int32) (hf : f_X13_seesIn tn p1 p3 = some (r_)) : CI l yX13_seesIn cX13_seesIn 7 (some .int) rm_X13_seesIn g [.ref (a_md 0), .long p1, .int p3] (wMd g a_md (some (a_tn 0)) q_md_read md ++ (wTn g a_tn tn ++ [])) (wMd g a_md (some (a_tn 0)) q_md_read md ++ (wTn g a_tn tn ++ [])) r_ := by
  refine start2 (y := yX13_seesIn) (cc := cX13_seesIn) (n := 7) (av := [.ref (a_md 0), .long p1, .int p3]) (ws := (wMd g a_md (some (a_tn 0)) q_md_read md ++ (wTn g a_tn tn ++ []))) (Qc := fun sz => QI g (wMd g a_md (some (a_tn 0)) q_md_read md ++ (wTn g a_tn tn ++ [])) (wMd g a_md (some (a_tn 0)) q_md_read md ++ (wTn g a_tn tn ++ [])) r_ sz) (by decide) rfl ?_
  intro p e s m args below meth c ls Q A ha hQ hA X hl hI hin
  have X : Cx p s m args meth c cX13_seesIn 7 RX13 (some .int) := X
  have hl : lv_has ls 7 [(0, .ref (a_md 0)), (1, .long p1), (3, .int p3)] := hl
  obtain ⟨hx, hb, hml, hown, ht, hr, hlk⟩ := id X
  clear ha hin
  have L_90 : ∀ (x1 : Int64) (x3 : Int32) (x4 : Int32) (x5 : Int32) (k6 : (Int64) → (Int32) → (Int32) → (Int32) → (TnS) → Option (Int32)) (H : Heap) (locs : List Loc) (ls : Array Slot), lv_has ls 7 [(0, .ref (a_md 0)), (1, .long x1), (3, .int x3), (4, .int x4), (5, .int x5)] → In g A s.heap s (wMd g a_md (some (a_tn 0)) q_md_read md ++ (wTn g a_tn tn ++ [])) H locs → f_X13_seesIn_L90 x1 x3 x4 x5 tn k6 = some (r_) → (∀ (x1 : Int64) (x3 : Int32) (x4 : Int32) (x5 : Int32) (H : Heap) (locs : List Loc) (ls : Array Slot), lv_has ls 7 [(0, .ref (a_md 0)), (1, .long x1), (3, .int x3), (4, .int x4), (5, .int x5)] → In g A s.heap s (wMd g a_md (some (a_tn 0)) q_md_read md ++ (wTn g a_tn tn ++ [])) H locs → k6 x1 x3 x4 x5 tn = some (r_) → W p l e rm_X13_seesIn s m args below meth c H locs 0 0 Q (F0 m 6 ls [])) → W p l e rm_X13_seesIn s m args below meth c H locs 0 0 Q (F0 m 90 ls []) := by
    intro x1 x3 x4 x5 k6 H locs ls hl hI hf hk6
    unfold f_X13_seesIn_L90 at hf
    obtain ⟨v_3, e_⟩ : ∃ y : Int32, y = (x5 + (1 : Int32)) := ⟨_, rfl⟩
    replace hf := lt_to e_ hf
    refine lv_iinc (v := v_3) (lv' := [(5, .int v_3), (0, .ref (a_md 0)), (1, .long x1), (3, .int x3), (4, .int x4)]) hx hb dX13_seesIn_90 hl (k := 4) rfl (by rw [e_]; rfl) (by decide) rfl (fun ls hl => ?_)
    clear e_
    refine lv_goto (tgt := 6) hx hb dX13_seesIn_93 (by decide) ?_
    exact hk6 x1 x3 x4 v_3 _ _ _ (lv_sub hl [1, 2, 3, 4, 0] rfl) hI hf
  have L_75 : ∀ (x1 : Int64) (x3 : Int32) (x4 : Int32) (x5 : Int32) (k6 : (Int64) → (Int32) → (Int32) → (Int32) → (TnS) → Option (Int32)) (H : Heap) (locs : List Loc) (ls : Array Slot), lv_has ls 7 [(0, .ref (a_md 0)), (1, .long x1), (3, .int x3), (4, .int x4), (5, .int x5)] → In g A s.heap s (wMd g a_md (some (a_tn 0)) q_md_read md ++ (wTn g a_tn tn ++ [])) H locs → f_X13_seesIn_L75 x1 x3 x4 x5 tn k6 = some (r_) → (∀ (x1 : Int64) (x3 : Int32) (x4 : Int32) (x5 : Int32) (H : Heap) (locs : List Loc) (ls : Array Slot), lv_has ls 7 [(0, .ref (a_md 0)), (1, .long x1), (3, .int x3), (4, .int x4), (5, .int x5)] → In g A s.heap s (wMd g a_md (some (a_tn 0)) q_md_read md ++ (wTn g a_tn tn ++ [])) H locs → k6 x1 x3 x4 x5 tn = some (r_) → W p l e rm_X13_seesIn s m args below meth c H locs 0 0 Q (F0 m 6 ls [])) → W p l e rm_X13_seesIn s m args below meth c H locs 0 0 Q (F0 m 75 ls []) := by
    intro x1 x3 x4 x5 k6 H locs ls hl hI hf hk6
    unfold f_X13_seesIn_L75 at hf
    refine lv_iload hx hb dX13_seesIn_75 (lv_at hl 3 rfl) ?_
    refine lv_iconst (v := 1) hx hb dX13_seesIn_77 (by decide) ?_
    refine lv_lload_n hx hb dX13_seesIn_78 rfl (lv_at hl 1 rfl) ?_
    refine lv_iload hx hb dX13_seesIn_79 (lv_at hl 4 rfl) ?_
    obtain ⟨r_4, hc_, hf⟩ := bd1_some hf
    refine call_Si X hI Cj.nil (c_X13_at l g x1 x5 r_4 hc_) ⟨rfl, rfl⟩ ⟨ht _ w_2051, w_2053, ht _ w_155, lk_X13_at⟩ w_2052 rfl hl rfl rfl dX13_seesIn_81 rfl rfl rfl rfl (fun H locs hI => ?_)
    refine lv_iconst (v := 2) hx hb dX13_seesIn_84 (by decide) ?_
    refine lv_idiv hx hb dX13_seesIn_85 (by decide) ?_
    refine lv_ishl hx hb dX13_seesIn_86 ?_
    refine lv_ior hx hb dX13_seesIn_87 ?_
    refine lv_topi (fun v_5 e_ => ?_)
    replace hf := lt_to e_ hf
    clear e_
    refine lv_istore (lv' := [(4, .int v_5), (0, .ref (a_md 0)), (1, .long x1), (3, .int x3), (5, .int x5)]) hx hb dX13_seesIn_88 hl (by decide) rfl (fun ls hl => ?_)
    exact L_90 x1 x3 v_5 x5 _ _ _ _ (lv_sub hl [1, 2, 3, 0, 4] rfl) hI hf hk6
  have L_6 : ∀ (n_ : Nat) (x1 : Int64) (x3 : Int32) (x4 : Int32) (x5 : Int32) (H : Heap) (locs : List Loc) (ls : Array Slot), lv_has ls 7 [(0, .ref (a_md 0)), (1, .long x1), (3, .int x3), (4, .int x4), (5, .int x5)] → In g A s.heap s (wMd g a_md (some (a_tn 0)) q_md_read md ++ (wTn g a_tn tn ++ [])) H locs → f_X13_seesIn_L6 n_ x1 x3 x4 x5 tn = some (r_) → W p l e rm_X13_seesIn s m args below meth c H locs 0 0 Q (F0 m 6 ls []) := by
    intro n_
    induction n_ with
    | zero =>
      intro x1 x3 x4 x5 H locs ls hl hI hf
      rw [f_X13_seesIn_L6] at hf
      cases hf
    | succ n_ ih =>
      intro x1 x3 x4 x5 H locs ls hl hI hf
      rw [f_X13_seesIn_L6] at hf
      refine lv_iload hx hb dX13_seesIn_6 (lv_at hl 4 rfl) ?_
      refine lv_aload_n hx hb dX13_seesIn_8 rfl (lv_at hl 0 rfl) ?_
      refine g_Md_tangle_S X hI has_Md.l (X.fl w_1586) dX13_seesIn_9 ?_
      refine g_Tn_standings X hI has_Tn.l.r (hI.fn (List.mem_of_getElem? (i := 85) rfl)) dX13_seesIn_12 ?_
      refine lv_icmp_ge (tgt := 96) hx hb dX13_seesIn_15 (by decide) (fun h_ => ?_) (fun h_ => ?_)
      · replace hf := if_t h_ hf
        refine lv_iload hx hb dX13_seesIn_96 (lv_at hl 3 rfl) ?_
        cases hf
        exact end_i hQ hA X hI dX13_seesIn_98
      · replace hf := if_f h_ hf
        refine lv_aload_n hx hb dX13_seesIn_18 rfl (lv_at hl 0 rfl) ?_
        refine g_Md_tangle_S X hI has_Md.l (X.fl w_1586) dX13_seesIn_19 ?_
        refine g_Tn_standLink X hI has_Tn.l.r (hI.fn (List.mem_of_getElem? (i := 109) rfl)) dX13_seesIn_22 ?_
        refine lv_iload hx hb dX13_seesIn_25 (lv_at hl 4 rfl) ?_
        obtain ⟨h_, hf⟩ := ck_someM hf
        refine ld_I X hI has_Tn_standLink.l.r h_ dX13_seesIn_27 ?_
        refine lv_topi (fun v_1 e_ => ?_)
        replace hf := lt_to e_ hf
        clear e_
        refine lv_istore (lv' := [(6, .int v_1), (0, .ref (a_md 0)), (1, .long x1), (3, .int x3), (4, .int x4), (5, .int x5)]) hx hb dX13_seesIn_28 hl (by decide) rfl (fun ls hl => ?_)
        refine lv_lload_n hx hb dX13_seesIn_30 rfl (lv_at hl 2 rfl) ?_
        refine lv_iload hx hb dX13_seesIn_31 (lv_at hl 5 rfl) ?_
        obtain ⟨r_2, hc_, hf⟩ := bd1_some hf
        refine call_Si X hI Cj.nil (c_X13_at l g x1 x5 r_2 hc_) ⟨rfl, rfl⟩ ⟨ht _ w_2051, w_2053, ht _ w_155, lk_X13_at⟩ w_2052 rfl hl rfl rfl dX13_seesIn_33 rfl rfl rfl rfl (fun H locs hI => ?_)
        refine lv_bipush (v := 15) hx hb dX13_seesIn_36 (by decide) ?_
        refine lv_icmp_eq (tgt := 90) hx hb dX13_seesIn_38 (by decide) (fun h_ => ?_) (fun h_ => ?_)
        · replace hf := if_t h_ hf
          exact L_90 x1 x3 x4 x5 _ _ _ _ (lv_sub hl [1, 2, 3, 4, 5] rfl) hI hf (fun z_0 z_1 z_2 z_3 _ _ _ hl hI hf => ih z_0 z_1 z_2 z_3 _ _ _ hl hI hf)
        · replace hf := if_f h_ hf
          refine lv_aload_n hx hb dX13_seesIn_41 rfl (lv_at hl 1 rfl) ?_
          refine g_Md_tangle_S X hI has_Md.l (X.fl w_1586) dX13_seesIn_42 ?_
          refine g_Tn_linkOf X hI has_Tn.l.r (hI.fn (List.mem_of_getElem? (i := 92) rfl)) dX13_seesIn_45 ?_
          refine lv_iconst (v := 2) hx hb dX13_seesIn_48 (by decide) ?_
          refine lv_iload_n hx hb dX13_seesIn_49 rfl (lv_at hl 3 rfl) ?_
          refine lv_imul hx hb dX13_seesIn_50 ?_
          obtain ⟨h_, hf⟩ := ck_someM hf
          refine ld_I X hI has_Tn_linkOf.l.r h_ dX13_seesIn_51 ?_
          refine lv_iload hx hb dX13_seesIn_52 (lv_at hl 0 rfl) ?_
          refine lv_icmp_eq (tgt := 75) hx hb dX13_seesIn_54 (by decide) (fun h_ => ?_) (fun h_ => ?_)
          · replace hf := if_t h_ hf
            exact L_75 x1 x3 x4 x5 _ _ _ _ (lv_sub hl [1, 2, 3, 4, 5] rfl) hI hf (fun z_0 z_1 z_2 z_3 _ _ _ hl hI hf => ih z_0 z_1 z_2 z_3 _ _ _ hl hI hf)
          · replace hf := if_f h_ hf
            refine lv_aload_n hx hb dX13_seesIn_57 rfl (lv_at hl 1 rfl) ?_
            refine g_Md_tangle_S X hI has_Md.l (X.fl w_1586) dX13_seesIn_58 ?_
            refine g_Tn_linkOf X hI has_Tn.l.r (hI.fn (List.mem_of_getElem? (i := 92) rfl)) dX13_seesIn_61 ?_
            refine lv_iconst (v := 2) hx hb dX13_seesIn_64 (by decide) ?_
            refine lv_iload_n hx hb dX13_seesIn_65 rfl (lv_at hl 3 rfl) ?_
            refine lv_imul hx hb dX13_seesIn_66 ?_
            refine lv_iconst (v := 1) hx hb dX13_seesIn_67 (by decide) ?_
            refine lv_iadd hx hb dX13_seesIn_68 ?_
            obtain ⟨h_, hf⟩ := ck_someM hf
            refine ld_I X hI has_Tn_linkOf.l.r h_ dX13_seesIn_69 ?_
            refine lv_iload hx hb dX13_seesIn_70 (lv_at hl 0 rfl) ?_
            refine lv_icmp_ne (tgt := 90) hx hb dX13_seesIn_72 (by decide) (fun h_ => ?_) (fun h_ => ?_)
            · replace hf := if_f h_ hf
              exact L_90 x1 x3 x4 x5 _ _ _ _ (lv_sub hl [1, 2, 3, 4, 5] rfl) hI hf (fun z_0 z_1 z_2 z_3 _ _ _ hl hI hf => ih z_0 z_1 z_2 z_3 _ _ _ hl hI hf)
            · replace hf := if_t h_ hf
              exact L_75 x1 x3 x4 x5 _ _ _ _ (lv_sub hl [1, 2, 3, 4, 5] rfl) hI hf (fun z_0 z_1 z_2 z_3 _ _ _ hl hI hf => ih z_0 z_1 z_2 z_3 _ _ _ hl hI hf)
  unfold f_X13_seesIn at hf
  refine lv_iconst (v := 0) hx hb dX13_seesIn_0 (by decide) ?_
  refine lv_istore (lv' := [(4, .int (0 : Int32)), (0, .ref (a_md 0)), (1, .long p1), (3, .int p3)]) hx hb dX13_seesIn_1 hl (by decide) rfl (fun ls hl => ?_)
  refine lv_iconst (v := 0) hx hb dX13_seesIn_3 (by decide) ?_
  refine lv_istore (lv' := [(5, .int (0 : Int32)), (4, .int (0 : Int32)), (0, .ref (a_md 0)), (1, .long p1), (3, .int p3)]) hx hb dX13_seesIn_4 hl (by decide) rfl (fun ls hl => ?_)
  exact L_6 FU p1 p3 (0 : Int32) (0 : Int32) _ _ _ (lv_sub hl [2, 3, 4, 1, 0] rfl) hI hf
abbrev rm_X13_sees : Room := { frames := 2, cells := 0, slots := 0, locals := 48 }
set_option maxRecDepth 20000 in
theorem c_X13_sees (l : Launch) (g : GT) (a_md : Nat → Nat) (a_tn : Nat → Nat) (q_md_read : Option Nat) (md : MdS) (tn : TnS) (p1 : Int32) (r_ : Int32) (o_md : MdS) (hf : f_X13_sees md tn p1 = some (r_, o_md)) : CI l yX13_sees cX13_sees 2 (some .int) rm_X13_sees g [.ref (a_md 0), .int p1] (wMd g a_md (some (a_tn 0)) q_md_read md ++ (wTn g a_tn tn ++ [])) (wMd g a_md (some (a_tn 0)) q_md_read o_md ++ (wTn g a_tn tn ++ [])) r_ := by
  refine start2 (y := yX13_sees) (cc := cX13_sees) (n := 2) (av := [.ref (a_md 0), .int p1]) (ws := (wMd g a_md (some (a_tn 0)) q_md_read md ++ (wTn g a_tn tn ++ []))) (Qc := fun sz => QI g (wMd g a_md (some (a_tn 0)) q_md_read md ++ (wTn g a_tn tn ++ [])) (wMd g a_md (some (a_tn 0)) q_md_read o_md ++ (wTn g a_tn tn ++ [])) r_ sz) (by decide) rfl ?_
  intro p e s m args below meth c ls Q A ha hQ hA X hl hI hin
  have X : Cx p s m args meth c cX13_sees 2 RX13 (some .int) := X
  have hl : lv_has ls 2 [(0, .ref (a_md 0)), (1, .int p1)] := hl
  obtain ⟨hx, hb, hml, hown, ht, hr, hlk⟩ := id X
  clear ha hin
  unfold f_X13_sees at hf
  refine lv_aload_n hx hb dX13_sees_0 rfl (lv_at hl 0 rfl) ?_
  refine lv_iconst (v := 0) hx hb dX13_sees_1 (by decide) ?_
  refine p_Md_thrown X hI up_Md_thrown.l (X.fl w_1583) dX13_sees_2 (fun H locs hI => ?_)
  generalize hz_ : (Md_thrown' md (0 : Int32)) = md_1 at hI hf
  clear hz_
  replace hf := lt_e hf
  refine lv_aload_n hx hb dX13_sees_5 rfl (lv_at hl 0 rfl) ?_
  refine lv_iload_n hx hb dX13_sees_6 rfl (lv_at hl 1 rfl) ?_
  obtain ⟨r_2, hc_, hf⟩ := bd1_some hf
  refine call_Vi X hI (Cj.keep (Cj.keep Cj.id)) (c_X13_isPerson l g a_md a_tn q_md_read md_1 tn p1 r_2 hc_) ⟨rfl, rfl⟩ ⟨ht _ w_2014, w_2017, ht _ w_155, lk_X13_isPerson⟩ w_2016 w_93 rfl rfl rfl hl rfl rfl dX13_sees_7 rfl rfl rfl rfl (fun H locs hI => ?_)
  refine lv_if_eq (tgt := 29) hx hb dX13_sees_10 (by decide) (fun h_ => ?_) (fun h_ => ?_)
  · replace hf := if_t h_ hf
    refine lv_aload_n hx hb dX13_sees_29 rfl (lv_at hl 0 rfl) ?_
    refine lv_iconst (v := 1) hx hb dX13_sees_30 (by decide) ?_
    obtain ⟨r_3, md_4, hc_, hf⟩ := bd2_some hf
    refine call_Vi X hI (Cj.keep Cj.nil) (c_X13_refused l g a_md (some (a_tn 0)) q_md_read md_1 (1 : Int32) r_3 md_4 hc_) ⟨rfl, rfl⟩ ⟨ht _ w_1719, w_1722, ht _ w_155, lk_X13_refused⟩ w_1721 w_65 rfl rfl rfl hl rfl rfl dX13_sees_31 rfl rfl rfl rfl (fun H locs hI => ?_)
    cases hf
    exact end_i hQ hA X hI dX13_sees_34
  · replace hf := if_f h_ hf
    refine lv_aload_n hx hb dX13_sees_13 rfl (lv_at hl 0 rfl) ?_
    refine lv_aload_n hx hb dX13_sees_14 rfl (lv_at hl 0 rfl) ?_
    refine lv_aload_n hx hb dX13_sees_15 rfl (lv_at hl 0 rfl) ?_
    refine g_Md_now X hI has_Md.l (X.fl w_1598) dX13_sees_16 ?_
    refine lv_iload_n hx hb dX13_sees_19 rfl (lv_at hl 1 rfl) ?_
    obtain ⟨r_5, hc_, hf⟩ := bd1_some hf
    refine call_Vi X hI (Cj.keep (Cj.keep Cj.id)) (c_X13_seesIn l g a_md a_tn q_md_read md_1 tn (Md_now md_1) p1 r_5 hc_) ⟨rfl, rfl⟩ ⟨ht _ w_2287, w_2290, ht _ w_155, lk_X13_seesIn⟩ w_2289 w_129 rfl rfl rfl hl rfl rfl dX13_sees_20 rfl rfl rfl rfl (fun H locs hI => ?_)
    obtain ⟨r_6, md_7, hc_, hf⟩ := bd2_some hf
    refine call_Vi X hI (Cj.keep Cj.nil) (c_X13_good l g a_md (some (a_tn 0)) q_md_read md_1 r_5 r_6 md_7 hc_) ⟨rfl, rfl⟩ ⟨ht _ w_1998, w_2001, ht _ w_155, lk_X13_good⟩ w_2000 w_92 rfl rfl rfl hl rfl rfl dX13_sees_23 rfl rfl rfl rfl (fun H locs hI => ?_)
    refine lv_goto (tgt := 34) hx hb dX13_sees_26 (by decide) ?_
    cases hf
    exact end_i hQ hA X hI dX13_sees_34
abbrev rm_X13_crossingsOf : Room := { frames := 1, cells := 0, slots := 0, locals := 20 }
set_option maxRecDepth 20000 in
theorem c_X13_crossingsOf (l : Launch) (g : GT) (p0 : Int32) (r_ : Int32) (hf : f_X13_crossingsOf p0 = some (r_)) : CI l yX13_crossingsOf cX13_crossingsOf 1 (some .int) rm_X13_crossingsOf g [.int p0] ([]) ([]) r_ := by
  refine start2 (y := yX13_crossingsOf) (cc := cX13_crossingsOf) (n := 1) (av := [.int p0]) (ws := ([])) (Qc := fun sz => QI g ([]) ([]) r_ sz) (by decide) rfl ?_
  intro p e s m args below meth c ls Q A ha hQ hA X hl hI hin
  have X : Cx p s m args meth c cX13_crossingsOf 1 RX13 (some .int) := X
  have hl : lv_has ls 1 [(0, .int p0)] := hl
  obtain ⟨hx, hb, hml, hown, ht, hr, hlk⟩ := id X
  clear ha hin
  unfold f_X13_crossingsOf at hf
  refine lv_iload_n hx hb dX13_crossingsOf_0 rfl (lv_at hl 0 rfl) ?_
  obtain ⟨r_1, hc_, hf⟩ := bd1_some hf
  refine call_Si X hI Cj.nil (c_X13_kindOf l g p0 r_1 hc_) ⟨rfl, rfl⟩ ⟨ht _ w_2111, w_2113, ht _ w_155, lk_X13_kindOf⟩ w_2112 rfl hl rfl rfl dX13_crossingsOf_1 rfl rfl rfl rfl (fun H locs hI => ?_)
  by_cases h0_ : r_1 = (0 : Int32)
  · replace hf := if_t h0_ hf
    refine lv_lookup (tgt := 32) (off := 28) hx hb dX13_crossingsOf_4 (by decide) (by rw [h0_]; rfl) (by decide) ?_
    refine lv_iconst (v := 1) hx hb dX13_crossingsOf_32 (by decide) ?_
    refine lv_iload_n hx hb dX13_crossingsOf_33 rfl (lv_at hl 0 rfl) ?_
    refine lv_ishl hx hb dX13_crossingsOf_34 ?_
    cases hf
    exact end_i hQ hA X hI dX13_crossingsOf_35
  · replace hf := if_f h0_ hf
    by_cases h1_ : r_1 = (1 : Int32)
    · replace hf := if_t h1_ hf
      refine lv_lookup (tgt := 36) (off := 32) hx hb dX13_crossingsOf_4 (by decide) (by rw [h1_]; rfl) (by decide) ?_
      refine lv_iconst (v := 1) hx hb dX13_crossingsOf_36 (by decide) ?_
      refine lv_iload_n hx hb dX13_crossingsOf_37 rfl (lv_at hl 0 rfl) ?_
      refine lv_bipush (v := 10) hx hb dX13_crossingsOf_38 (by decide) ?_
      refine lv_idiv hx hb dX13_crossingsOf_40 (by decide) ?_
      refine lv_bipush (v := 10) hx hb dX13_crossingsOf_41 (by decide) ?_
      refine lv_irem hx hb dX13_crossingsOf_43 (by decide) ?_
      refine lv_ishl hx hb dX13_crossingsOf_44 ?_
      refine lv_iconst (v := 1) hx hb dX13_crossingsOf_45 (by decide) ?_
      refine lv_iload_n hx hb dX13_crossingsOf_46 rfl (lv_at hl 0 rfl) ?_
      refine lv_bipush (v := 10) hx hb dX13_crossingsOf_47 (by decide) ?_
      refine lv_irem hx hb dX13_crossingsOf_49 (by decide) ?_
      refine lv_ishl hx hb dX13_crossingsOf_50 ?_
      refine lv_ior hx hb dX13_crossingsOf_51 ?_
      cases hf
      exact end_i hQ hA X hI dX13_crossingsOf_52
    · replace hf := if_f h1_ hf
      refine lv_lookup (tgt := 53) (off := 49) hx hb dX13_crossingsOf_4 (by decide) (by have q0 := sw_ne h0_ (j := 0) (by decide); have q1 := sw_ne h1_ (j := 1) (by decide); simp only [lookupswitch.offset_cons, lookupswitch.offset_nil]; rw [if_neg (by omega)]; rw [if_neg (by omega)]) (by decide) ?_
      refine lv_iconst (v := 1) hx hb dX13_crossingsOf_53 (by decide) ?_
      refine lv_iload_n hx hb dX13_crossingsOf_54 rfl (lv_at hl 0 rfl) ?_
      refine lv_bipush (v := 100) hx hb dX13_crossingsOf_55 (by decide) ?_
      refine lv_idiv hx hb dX13_crossingsOf_57 (by decide) ?_
      refine lv_bipush (v := 10) hx hb dX13_crossingsOf_58 (by decide) ?_
      refine lv_irem hx hb dX13_crossingsOf_60 (by decide) ?_
      refine lv_ishl hx hb dX13_crossingsOf_61 ?_
      refine lv_iconst (v := 1) hx hb dX13_crossingsOf_62 (by decide) ?_
      refine lv_iload_n hx hb dX13_crossingsOf_63 rfl (lv_at hl 0 rfl) ?_
      refine lv_bipush (v := 10) hx hb dX13_crossingsOf_64 (by decide) ?_
      refine lv_idiv hx hb dX13_crossingsOf_66 (by decide) ?_
      refine lv_bipush (v := 10) hx hb dX13_crossingsOf_67 (by decide) ?_
      refine lv_irem hx hb dX13_crossingsOf_69 (by decide) ?_
      refine lv_ishl hx hb dX13_crossingsOf_70 ?_
      refine lv_ior hx hb dX13_crossingsOf_71 ?_
      refine lv_iconst (v := 1) hx hb dX13_crossingsOf_72 (by decide) ?_
      refine lv_iload_n hx hb dX13_crossingsOf_73 rfl (lv_at hl 0 rfl) ?_
      refine lv_bipush (v := 10) hx hb dX13_crossingsOf_74 (by decide) ?_
      refine lv_irem hx hb dX13_crossingsOf_76 (by decide) ?_
      refine lv_ishl hx hb dX13_crossingsOf_77 ?_
      refine lv_ior hx hb dX13_crossingsOf_78 ?_
      cases hf
      exact end_i hQ hA X hI dX13_crossingsOf_79
abbrev rm_X13_ownIn : Room := { frames := 5, cells := 0, slots := 0, locals := 111 }
set_option maxRecDepth 20000 in
theorem c_X13_ownIn (l : Launch) (g : GT) (a_md : Nat → Nat) (a_tn : Nat → Nat) (q_md_read : Option Nat) (md : MdS) (tn : TnS) (p1 : Int64) (p3 : Int32) (r_ : Int32) (o_md : MdS) (hf : f_X13_ownIn md tn p1 p3 = some (r_, o_md)) : CI l yX13_ownIn cX13_ownIn 9 (some .int) rm_X13_ownIn g [.ref (a_md 0), .long p1, .int p3] (wMd g a_md (some (a_tn 0)) q_md_read md ++ (wTn g a_tn tn ++ [])) (wMd g a_md (some (a_tn 0)) q_md_read o_md ++ (wTn g a_tn tn ++ [])) r_ := by
  refine start2 (y := yX13_ownIn) (cc := cX13_ownIn) (n := 9) (av := [.ref (a_md 0), .long p1, .int p3]) (ws := (wMd g a_md (some (a_tn 0)) q_md_read md ++ (wTn g a_tn tn ++ []))) (Qc := fun sz => QI g (wMd g a_md (some (a_tn 0)) q_md_read md ++ (wTn g a_tn tn ++ [])) (wMd g a_md (some (a_tn 0)) q_md_read o_md ++ (wTn g a_tn tn ++ [])) r_ sz) (by decide) rfl ?_
  intro p e s m args below meth c ls Q A ha hQ hA X hl hI hin
  have X : Cx p s m args meth c cX13_ownIn 9 RX13 (some .int) := X
  have hl : lv_has ls 9 [(0, .ref (a_md 0)), (1, .long p1), (3, .int p3)] := hl
  obtain ⟨hx, hb, hml, hown, ht, hr, hlk⟩ := id X
  clear ha hin
  have L_89 : ∀ (x1 : Int64) (x4 : Int32) (x5 : Int32) (x6 : Int32) (x7 : Int32) (md : MdS) (k27 : (Int64) → (Int32) → (Int32) → (Int32) → (Int32) → (MdS) → (TnS) → Option (Int32 × (MdS))) (H : Heap) (locs : List Loc) (ls : Array Slot), lv_has ls 9 [(0, .ref (a_md 0)), (1, .long x1), (4, .int x4), (5, .int x5), (6, .int x6), (7, .int x7)] → In g A s.heap s (wMd g a_md (some (a_tn 0)) q_md_read md ++ (wTn g a_tn tn ++ [])) H locs → f_X13_ownIn_L89 x1 x4 x5 x6 x7 md tn k27 = some (r_, o_md) → (∀ (x1 : Int64) (x4 : Int32) (x5 : Int32) (x6 : Int32) (x7 : Int32) (md : MdS) (H : Heap) (locs : List Loc) (ls : Array Slot), lv_has ls 9 [(0, .ref (a_md 0)), (1, .long x1), (4, .int x4), (5, .int x5), (6, .int x6), (7, .int x7)] → In g A s.heap s (wMd g a_md (some (a_tn 0)) q_md_read md ++ (wTn g a_tn tn ++ [])) H locs → k27 x1 x4 x5 x6 x7 md tn = some (r_, o_md) → W p l e rm_X13_ownIn s m args below meth c H locs 0 0 Q (F0 m 27 ls [])) → W p l e rm_X13_ownIn s m args below meth c H locs 0 0 Q (F0 m 89 ls []) := by
    intro x1 x4 x5 x6 x7 md k27 H locs ls hl hI hf hk27
    unfold f_X13_ownIn_L89 at hf
    refine lv_aload_n hx hb dX13_ownIn_89 rfl (lv_at hl 0 rfl) ?_
    refine lv_iload hx hb dX13_ownIn_90 (lv_at hl 5 rfl) ?_
    obtain ⟨r_7, hc_, hf⟩ := bd1_some hf
    refine call_Vi X hI (Cj.keep (Cj.keep Cj.id)) (c_X13_nextMay l g a_md a_tn q_md_read md tn x7 r_7 hc_) ⟨rfl, rfl⟩ ⟨ht _ w_2138, w_2141, ht _ w_155, lk_X13_nextMay⟩ w_2140 w_109 rfl rfl rfl hl rfl rfl dX13_ownIn_92 rfl rfl rfl rfl (fun H locs hI => ?_)
    refine lv_istore (lv' := [(7, .int r_7), (0, .ref (a_md 0)), (1, .long x1), (4, .int x4), (5, .int x5), (6, .int x6)]) hx hb dX13_ownIn_95 hl (by decide) rfl (fun ls hl => ?_)
    refine lv_goto (tgt := 27) hx hb dX13_ownIn_97 (by decide) ?_
    exact hk27 x1 x4 x5 x6 r_7 md _ _ _ (lv_sub hl [1, 2, 3, 4, 5, 0] rfl) hI hf
  have L_81 : ∀ (x1 : Int64) (x4 : Int32) (x7 : Int32) (x8 : Int32) (md : MdS) (k27 : (Int64) → (Int32) → (Int32) → (Int32) → (Int32) → (MdS) → (TnS) → Option (Int32 × (MdS))) (H : Heap) (locs : List Loc) (ls : Array Slot), lv_has ls 9 [(0, .ref (a_md 0)), (1, .long x1), (4, .int x4), (7, .int x7), (8, .int x8)] → In g A s.heap s (wMd g a_md (some (a_tn 0)) q_md_read md ++ (wTn g a_tn tn ++ [])) H locs → f_X13_ownIn_L81 x1 x4 x7 x8 md tn k27 = some (r_, o_md) → (∀ (x1 : Int64) (x4 : Int32) (x5 : Int32) (x6 : Int32) (x7 : Int32) (md : MdS) (H : Heap) (locs : List Loc) (ls : Array Slot), lv_has ls 9 [(0, .ref (a_md 0)), (1, .long x1), (4, .int x4), (5, .int x5), (6, .int x6), (7, .int x7)] → In g A s.heap s (wMd g a_md (some (a_tn 0)) q_md_read md ++ (wTn g a_tn tn ++ [])) H locs → k27 x1 x4 x5 x6 x7 md tn = some (r_, o_md) → W p l e rm_X13_ownIn s m args below meth c H locs 0 0 Q (F0 m 27 ls [])) → W p l e rm_X13_ownIn s m args below meth c H locs 0 0 Q (F0 m 81 ls []) := by
    intro x1 x4 x7 x8 md k27 H locs ls hl hI hf hk27
    unfold f_X13_ownIn_L81 at hf
    refine lv_iload hx hb dX13_ownIn_81 (lv_at hl 3 rfl) ?_
    refine lv_istore (lv' := [(5, .int x7), (0, .ref (a_md 0)), (1, .long x1), (4, .int x4), (7, .int x7), (8, .int x8)]) hx hb dX13_ownIn_83 hl (by decide) rfl (fun ls hl => ?_)
    refine lv_iload hx hb dX13_ownIn_85 (lv_at hl 5 rfl) ?_
    refine lv_istore (lv' := [(6, .int x8), (5, .int x7), (0, .ref (a_md 0)), (1, .long x1), (4, .int x4), (7, .int x7), (8, .int x8)]) hx hb dX13_ownIn_87 hl (by decide) rfl (fun ls hl => ?_)
    exact L_89 x1 x4 x7 x8 x7 md _ _ _ _ (lv_sub hl [2, 3, 4, 1, 0, 5] rfl) hI hf hk27
  have L_27 : ∀ (n_ : Nat) (x1 : Int64) (x4 : Int32) (x5 : Int32) (x6 : Int32) (x7 : Int32) (md : MdS) (H : Heap) (locs : List Loc) (ls : Array Slot), lv_has ls 9 [(0, .ref (a_md 0)), (1, .long x1), (4, .int x4), (5, .int x5), (6, .int x6), (7, .int x7)] → In g A s.heap s (wMd g a_md (some (a_tn 0)) q_md_read md ++ (wTn g a_tn tn ++ [])) H locs → f_X13_ownIn_L27 n_ x1 x4 x5 x6 x7 md tn = some (r_, o_md) → W p l e rm_X13_ownIn s m args below meth c H locs 0 0 Q (F0 m 27 ls []) := by
    intro n_
    induction n_ with
    | zero =>
      intro x1 x4 x5 x6 x7 md H locs ls hl hI hf
      rw [f_X13_ownIn_L27] at hf
      cases hf
    | succ n_ ih =>
      intro x1 x4 x5 x6 x7 md H locs ls hl hI hf
      rw [f_X13_ownIn_L27] at hf
      refine lv_iload hx hb dX13_ownIn_27 (lv_at hl 5 rfl) ?_
      refine lv_sipush (v := 2000) hx hb dX13_ownIn_29 (by decide) ?_
      refine lv_icmp_ge (tgt := 100) hx hb dX13_ownIn_32 (by decide) (fun h_ => ?_) (fun h_ => ?_)
      · replace hf := if_t h_ hf
        refine lv_iload hx hb dX13_ownIn_100 (lv_at hl 3 rfl) ?_
        cases hf
        exact end_i hQ hA X hI dX13_ownIn_102
      · replace hf := if_f h_ hf
        refine lv_iload hx hb dX13_ownIn_35 (lv_at hl 5 rfl) ?_
        obtain ⟨r_4, hc_, hf⟩ := bd1_some hf
        refine call_Si X hI Cj.nil (c_X13_crossingsOf l g x7 r_4 hc_) ⟨rfl, rfl⟩ ⟨ht _ w_2299, w_2301, ht _ w_155, lk_X13_crossingsOf⟩ w_2300 rfl hl rfl rfl dX13_ownIn_37 rfl rfl rfl rfl (fun H locs hI => ?_)
        refine lv_iload hx hb dX13_ownIn_40 (lv_at hl 2 rfl) ?_
        refine lv_iconst (v := (-1)) hx hb dX13_ownIn_42 (by decide) ?_
        refine lv_ixor hx hb dX13_ownIn_43 ?_
        refine lv_iand hx hb dX13_ownIn_44 ?_
        refine lv_if_eq (tgt := 51) hx hb dX13_ownIn_45 (by decide) (fun h_ => ?_) (fun h_ => ?_)
        · replace hf := if_t h_ hf
          refine lv_aload_n hx hb dX13_ownIn_51 rfl (lv_at hl 0 rfl) ?_
          refine lv_aload_n hx hb dX13_ownIn_52 rfl (lv_at hl 0 rfl) ?_
          refine lv_lload_n hx hb dX13_ownIn_53 rfl (lv_at hl 1 rfl) ?_
          refine lv_iload hx hb dX13_ownIn_54 (lv_at hl 5 rfl) ?_
          obtain ⟨r_5, hc_, hf⟩ := bd1_some hf
          refine call_Vl X hI (Cj.keep Cj.nil) (c_X13_behind l g a_md (some (a_tn 0)) q_md_read md x1 x7 r_5 hc_) ⟨rfl, rfl⟩ ⟨ht _ w_2168, w_2171, ht _ w_155, lk_X13_behind⟩ w_2170 w_114 rfl rfl rfl hl rfl rfl dX13_ownIn_56 rfl rfl rfl rfl (fun H locs hI => ?_)
          obtain ⟨r_6, hc_, hf⟩ := bd1_some hf
          refine call_Vi X hI (Cj.keep (Cj.keep Cj.id)) (c_X13_leftIn l g a_md a_tn q_md_read md tn r_5 r_6 hc_) ⟨rfl, rfl⟩ ⟨ht _ w_2095, w_2098, ht _ w_155, lk_X13_leftIn⟩ w_2097 w_103 rfl rfl rfl hl rfl rfl dX13_ownIn_59 rfl rfl rfl rfl (fun H locs hI => ?_)
          refine lv_istore (lv' := [(8, .int r_6), (0, .ref (a_md 0)), (1, .long x1), (4, .int x4), (5, .int x5), (6, .int x6), (7, .int x7)]) hx hb dX13_ownIn_62 hl (by decide) rfl (fun ls hl => ?_)
          refine lv_iload hx hb dX13_ownIn_64 (lv_at hl 4 rfl) ?_
          refine lv_bipush (v := (-2)) hx hb dX13_ownIn_66 (by decide) ?_
          refine lv_icmp_eq (tgt := 81) hx hb dX13_ownIn_68 (by decide) (fun h_ => ?_) (fun h_ => ?_)
          · replace hf := if_t h_ hf
            exact L_81 x1 x4 x7 r_6 md _ _ _ _ (lv_sub hl [1, 2, 3, 6, 0] rfl) hI hf (fun z_0 z_1 z_2 z_3 z_4 z_5 _ _ _ hl hI hf => ih z_0 z_1 z_2 z_3 z_4 z_5 _ _ _ hl hI hf)
          · replace hf := if_f h_ hf
            refine lv_iload hx hb dX13_ownIn_71 (lv_at hl 0 rfl) ?_
            refine lv_iload hx hb dX13_ownIn_73 (lv_at hl 5 rfl) ?_
            refine lv_icmp_lt (tgt := 81) hx hb dX13_ownIn_75 (by decide) (fun h_ => ?_) (fun h_ => ?_)
            · replace hf := if_t h_ hf
              exact L_81 x1 x4 x7 r_6 md _ _ _ _ (lv_sub hl [1, 2, 3, 6, 0] rfl) hI hf (fun z_0 z_1 z_2 z_3 z_4 z_5 _ _ _ hl hI hf => ih z_0 z_1 z_2 z_3 z_4 z_5 _ _ _ hl hI hf)
            · replace hf := if_f h_ hf
              refine lv_goto (tgt := 89) hx hb dX13_ownIn_78 (by decide) ?_
              exact L_89 x1 x4 x5 x6 x7 md _ _ _ _ (lv_sub hl [1, 2, 3, 4, 5, 6] rfl) hI hf (fun z_0 z_1 z_2 z_3 z_4 z_5 _ _ _ hl hI hf => ih z_0 z_1 z_2 z_3 z_4 z_5 _ _ _ hl hI hf)
        · replace hf := if_f h_ hf
          refine lv_goto (tgt := 89) hx hb dX13_ownIn_48 (by decide) ?_
          exact L_89 x1 x4 x5 x6 x7 md _ _ _ _ hl hI hf (fun z_0 z_1 z_2 z_3 z_4 z_5 _ _ _ hl hI hf => ih z_0 z_1 z_2 z_3 z_4 z_5 _ _ _ hl hI hf)
  unfold f_X13_ownIn at hf
  refine lv_aload_n hx hb dX13_ownIn_0 rfl (lv_at hl 0 rfl) ?_
  refine lv_lload_n hx hb dX13_ownIn_1 rfl (lv_at hl 1 rfl) ?_
  refine lv_iload_n hx hb dX13_ownIn_2 rfl (lv_at hl 2 rfl) ?_
  obtain ⟨r_1, hc_, hf⟩ := bd1_some hf
  refine call_Vi X hI (Cj.keep (Cj.keep Cj.id)) (c_X13_seesIn l g a_md a_tn q_md_read md tn p1 p3 r_1 hc_) ⟨rfl, rfl⟩ ⟨ht _ w_2287, w_2290, ht _ w_155, lk_X13_seesIn⟩ w_2289 w_129 rfl rfl rfl hl rfl rfl dX13_ownIn_3 rfl rfl rfl rfl (fun H locs hI => ?_)
  refine lv_istore (lv' := [(4, .int r_1), (0, .ref (a_md 0)), (1, .long p1), (3, .int p3)]) hx hb dX13_ownIn_6 hl (by decide) rfl (fun ls hl => ?_)
  refine lv_bipush (v := (-2)) hx hb dX13_ownIn_8 (by decide) ?_
  refine lv_istore (lv' := [(5, .int (-2 : Int32)), (4, .int r_1), (0, .ref (a_md 0)), (1, .long p1), (3, .int p3)]) hx hb dX13_ownIn_10 hl (by decide) rfl (fun ls hl => ?_)
  refine lv_iconst (v := 0) hx hb dX13_ownIn_12 (by decide) ?_
  refine lv_istore (lv' := [(6, .int (0 : Int32)), (5, .int (-2 : Int32)), (4, .int r_1), (0, .ref (a_md 0)), (1, .long p1), (3, .int p3)]) hx hb dX13_ownIn_13 hl (by decide) rfl (fun ls hl => ?_)
  refine lv_aload_n hx hb dX13_ownIn_15 rfl (lv_at hl 3 rfl) ?_
  refine lv_lload_n hx hb dX13_ownIn_16 rfl (lv_at hl 4 rfl) ?_
  obtain ⟨md_2, hc_, hf⟩ := bd1_some hf
  refine call_Vv X hI (Cj.keep (Cj.keep Cj.id)) (c_X13_looks l g a_md a_tn q_md_read md tn p1 md_2 hc_) ⟨rfl, rfl⟩ ⟨ht _ w_2071, w_2074, ht _ w_155, lk_X13_looks⟩ w_2073 w_99 rfl rfl rfl hl rfl rfl dX13_ownIn_17 rfl rfl rfl rfl (fun H locs hI => ?_)
  refine lv_aload_n hx hb dX13_ownIn_20 rfl (lv_at hl 3 rfl) ?_
  refine lv_iconst (v := (-1)) hx hb dX13_ownIn_21 (by decide) ?_
  obtain ⟨r_3, hc_, hf⟩ := bd1_some hf
  refine call_Vi X hI (Cj.keep (Cj.keep Cj.id)) (c_X13_nextMay l g a_md a_tn q_md_read md_2 tn (-1 : Int32) r_3 hc_) ⟨rfl, rfl⟩ ⟨ht _ w_2138, w_2141, ht _ w_155, lk_X13_nextMay⟩ w_2140 w_109 rfl rfl rfl hl rfl rfl dX13_ownIn_22 rfl rfl rfl rfl (fun H locs hI => ?_)
  refine lv_istore (lv' := [(7, .int r_3), (6, .int (0 : Int32)), (5, .int (-2 : Int32)), (4, .int r_1), (0, .ref (a_md 0)), (1, .long p1), (3, .int p3)]) hx hb dX13_ownIn_25 hl (by decide) rfl (fun ls hl => ?_)
  exact L_27 FU p1 r_1 (-2 : Int32) (0 : Int32) r_3 md_2 _ _ _ (lv_sub hl [4, 5, 3, 2, 1, 0] rfl) hI hf
abbrev rm_X13_own : Room := { frames := 6, cells := 0, slots := 0, locals := 139 }
set_option maxRecDepth 20000 in
theorem c_X13_own (l : Launch) (g : GT) (a_md : Nat → Nat) (a_tn : Nat → Nat) (q_md_read : Option Nat) (md : MdS) (tn : TnS) (p1 : Int32) (r_ : Int32) (o_md : MdS) (hf : f_X13_own md tn p1 = some (r_, o_md)) : CI l yX13_own cX13_own 2 (some .int) rm_X13_own g [.ref (a_md 0), .int p1] (wMd g a_md (some (a_tn 0)) q_md_read md ++ (wTn g a_tn tn ++ [])) (wMd g a_md (some (a_tn 0)) q_md_read o_md ++ (wTn g a_tn tn ++ [])) r_ := by
  refine start2 (y := yX13_own) (cc := cX13_own) (n := 2) (av := [.ref (a_md 0), .int p1]) (ws := (wMd g a_md (some (a_tn 0)) q_md_read md ++ (wTn g a_tn tn ++ []))) (Qc := fun sz => QI g (wMd g a_md (some (a_tn 0)) q_md_read md ++ (wTn g a_tn tn ++ [])) (wMd g a_md (some (a_tn 0)) q_md_read o_md ++ (wTn g a_tn tn ++ [])) r_ sz) (by decide) rfl ?_
  intro p e s m args below meth c ls Q A ha hQ hA X hl hI hin
  have X : Cx p s m args meth c cX13_own 2 RX13 (some .int) := X
  have hl : lv_has ls 2 [(0, .ref (a_md 0)), (1, .int p1)] := hl
  obtain ⟨hx, hb, hml, hown, ht, hr, hlk⟩ := id X
  clear ha hin
  unfold f_X13_own at hf
  refine lv_aload_n hx hb dX13_own_0 rfl (lv_at hl 0 rfl) ?_
  refine lv_iconst (v := 0) hx hb dX13_own_1 (by decide) ?_
  refine p_Md_thrown X hI up_Md_thrown.l (X.fl w_1583) dX13_own_2 (fun H locs hI => ?_)
  generalize hz_ : (Md_thrown' md (0 : Int32)) = md_1 at hI hf
  clear hz_
  replace hf := lt_e hf
  refine lv_aload_n hx hb dX13_own_5 rfl (lv_at hl 0 rfl) ?_
  refine lv_iload_n hx hb dX13_own_6 rfl (lv_at hl 1 rfl) ?_
  obtain ⟨r_2, hc_, hf⟩ := bd1_some hf
  refine call_Vi X hI (Cj.keep (Cj.keep Cj.id)) (c_X13_isPerson l g a_md a_tn q_md_read md_1 tn p1 r_2 hc_) ⟨rfl, rfl⟩ ⟨ht _ w_2014, w_2017, ht _ w_155, lk_X13_isPerson⟩ w_2016 w_93 rfl rfl rfl hl rfl rfl dX13_own_7 rfl rfl rfl rfl (fun H locs hI => ?_)
  refine lv_if_eq (tgt := 29) hx hb dX13_own_10 (by decide) (fun h_ => ?_) (fun h_ => ?_)
  · replace hf := if_t h_ hf
    refine lv_aload_n hx hb dX13_own_29 rfl (lv_at hl 0 rfl) ?_
    refine lv_iconst (v := 1) hx hb dX13_own_30 (by decide) ?_
    obtain ⟨r_3, md_4, hc_, hf⟩ := bd2_some hf
    refine call_Vi X hI (Cj.keep Cj.nil) (c_X13_refused l g a_md (some (a_tn 0)) q_md_read md_1 (1 : Int32) r_3 md_4 hc_) ⟨rfl, rfl⟩ ⟨ht _ w_1719, w_1722, ht _ w_155, lk_X13_refused⟩ w_1721 w_65 rfl rfl rfl hl rfl rfl dX13_own_31 rfl rfl rfl rfl (fun H locs hI => ?_)
    cases hf
    exact end_i hQ hA X hI dX13_own_34
  · replace hf := if_f h_ hf
    refine lv_aload_n hx hb dX13_own_13 rfl (lv_at hl 0 rfl) ?_
    refine lv_aload_n hx hb dX13_own_14 rfl (lv_at hl 0 rfl) ?_
    refine lv_aload_n hx hb dX13_own_15 rfl (lv_at hl 0 rfl) ?_
    refine g_Md_now X hI has_Md.l (X.fl w_1598) dX13_own_16 ?_
    refine lv_iload_n hx hb dX13_own_19 rfl (lv_at hl 1 rfl) ?_
    obtain ⟨r_5, md_6, hc_, hf⟩ := bd2_some hf
    refine call_Vi X hI (Cj.keep (Cj.keep Cj.id)) (c_X13_ownIn l g a_md a_tn q_md_read md_1 tn (Md_now md_1) p1 r_5 md_6 hc_) ⟨rfl, rfl⟩ ⟨ht _ w_2295, w_2298, ht _ w_155, lk_X13_ownIn⟩ w_2297 w_130 rfl rfl rfl hl rfl rfl dX13_own_20 rfl rfl rfl rfl (fun H locs hI => ?_)
    obtain ⟨r_7, md_8, hc_, hf⟩ := bd2_some hf
    refine call_Vi X hI (Cj.keep Cj.nil) (c_X13_good l g a_md (some (a_tn 0)) q_md_read md_6 r_5 r_7 md_8 hc_) ⟨rfl, rfl⟩ ⟨ht _ w_1998, w_2001, ht _ w_155, lk_X13_good⟩ w_2000 w_92 rfl rfl rfl hl rfl rfl dX13_own_23 rfl rfl rfl rfl (fun H locs hI => ?_)
    refine lv_goto (tgt := 34) hx hb dX13_own_26 (by decide) ?_
    cases hf
    exact end_i hQ hA X hI dX13_own_34
abbrev rm_X13_rounds : Room := { frames := 6, cells := 0, slots := 0, locals := 139 }
set_option maxRecDepth 20000 in
theorem c_X13_rounds (l : Launch) (g : GT) (a_md : Nat → Nat) (a_tn : Nat → Nat) (q_md_read : Option Nat) (md : MdS) (tn : TnS) (p1 : Int32) (r_ : Int32) (o_md : MdS) (hf : f_X13_rounds md tn p1 = some (r_, o_md)) : CI l yX13_rounds cX13_rounds 7 (some .int) rm_X13_rounds g [.ref (a_md 0), .int p1] (wMd g a_md (some (a_tn 0)) q_md_read md ++ (wTn g a_tn tn ++ [])) (wMd g a_md (some (a_tn 0)) q_md_read o_md ++ (wTn g a_tn tn ++ [])) r_ := by
  refine start2 (y := yX13_rounds) (cc := cX13_rounds) (n := 7) (av := [.ref (a_md 0), .int p1]) (ws := (wMd g a_md (some (a_tn 0)) q_md_read md ++ (wTn g a_tn tn ++ []))) (Qc := fun sz => QI g (wMd g a_md (some (a_tn 0)) q_md_read md ++ (wTn g a_tn tn ++ [])) (wMd g a_md (some (a_tn 0)) q_md_read o_md ++ (wTn g a_tn tn ++ [])) r_ sz) (by decide) rfl ?_
  intro p e s m args below meth c ls Q A ha hQ hA X hl hI hin
  have X : Cx p s m args meth c cX13_rounds 7 RX13 (some .int) := X
  have hl : lv_has ls 7 [(0, .ref (a_md 0)), (1, .int p1)] := hl
  obtain ⟨hx, hb, hml, hown, ht, hr, hlk⟩ := id X
  clear ha hin
  have L_111 : ∀ (x1 : Int32) (x2 : Int64) (x4 : Int32) (x5 : Int32) (md : MdS) (k51 : (Int32) → (Int64) → (Int32) → (Int32) → (MdS) → (TnS) → Option (Int32 × (MdS))) (H : Heap) (locs : List Loc) (ls : Array Slot), lv_has ls 7 [(0, .ref (a_md 0)), (1, .int x1), (2, .long x2), (4, .int x4), (5, .int x5)] → In g A s.heap s (wMd g a_md (some (a_tn 0)) q_md_read md ++ (wTn g a_tn tn ++ [])) H locs → f_X13_rounds_L111 x1 x2 x4 x5 md tn k51 = some (r_, o_md) → (∀ (x1 : Int32) (x2 : Int64) (x4 : Int32) (x5 : Int32) (md : MdS) (H : Heap) (locs : List Loc) (ls : Array Slot), lv_has ls 7 [(0, .ref (a_md 0)), (1, .int x1), (2, .long x2), (4, .int x4), (5, .int x5)] → In g A s.heap s (wMd g a_md (some (a_tn 0)) q_md_read md ++ (wTn g a_tn tn ++ [])) H locs → k51 x1 x2 x4 x5 md tn = some (r_, o_md) → W p l e rm_X13_rounds s m args below meth c H locs 0 0 Q (F0 m 51 ls [])) → W p l e rm_X13_rounds s m args below meth c H locs 0 0 Q (F0 m 111 ls []) := by
    intro x1 x2 x4 x5 md k51 H locs ls hl hI hf hk51
    unfold f_X13_rounds_L111 at hf
    obtain ⟨v_17, e_⟩ : ∃ y : Int32, y = (x5 + (1 : Int32)) := ⟨_, rfl⟩
    replace hf := lt_to e_ hf
    refine lv_iinc (v := v_17) (lv' := [(5, .int v_17), (0, .ref (a_md 0)), (1, .int x1), (2, .long x2), (4, .int x4)]) hx hb dX13_rounds_111 hl (k := 4) rfl (by rw [e_]; rfl) (by decide) rfl (fun ls hl => ?_)
    clear e_
    refine lv_goto (tgt := 51) hx hb dX13_rounds_114 (by decide) ?_
    exact hk51 x1 x2 x4 v_17 md _ _ _ (lv_sub hl [1, 2, 3, 4, 0] rfl) hI hf
  have L_51 : ∀ (n_ : Nat) (x1 : Int32) (x2 : Int64) (x4 : Int32) (x5 : Int32) (md : MdS) (k42 : (Int32) → (Int64) → (Int32) → (MdS) → (TnS) → Option (Int32 × (MdS))) (H : Heap) (locs : List Loc) (ls : Array Slot), lv_has ls 7 [(0, .ref (a_md 0)), (1, .int x1), (2, .long x2), (4, .int x4), (5, .int x5)] → In g A s.heap s (wMd g a_md (some (a_tn 0)) q_md_read md ++ (wTn g a_tn tn ++ [])) H locs → f_X13_rounds_L51 n_ x1 x2 x4 x5 md tn k42 = some (r_, o_md) → (∀ (x1 : Int32) (x2 : Int64) (x4 : Int32) (md : MdS) (H : Heap) (locs : List Loc) (ls : Array Slot), lv_has ls 7 [(0, .ref (a_md 0)), (1, .int x1), (2, .long x2), (4, .int x4)] → In g A s.heap s (wMd g a_md (some (a_tn 0)) q_md_read md ++ (wTn g a_tn tn ++ [])) H locs → k42 x1 x2 x4 md tn = some (r_, o_md) → W p l e rm_X13_rounds s m args below meth c H locs 0 0 Q (F0 m 42 ls [])) → W p l e rm_X13_rounds s m args below meth c H locs 0 0 Q (F0 m 51 ls []) := by
    intro n_
    induction n_ with
    | zero =>
      intro x1 x2 x4 x5 md k42 H locs ls hl hI hf hk42
      rw [f_X13_rounds_L51] at hf
      cases hf
    | succ n_ ih =>
      intro x1 x2 x4 x5 md k42 H locs ls hl hI hf hk42
      rw [f_X13_rounds_L51] at hf
      refine lv_iload hx hb dX13_rounds_51 (lv_at hl 4 rfl) ?_
      refine lv_aload_n hx hb dX13_rounds_53 rfl (lv_at hl 0 rfl) ?_
      refine g_Md_tangle_S X hI has_Md.l (X.fl w_1586) dX13_rounds_54 ?_
      refine g_Tn_people X hI has_Tn.l.r (hI.fn (List.mem_of_getElem? (i := 80) rfl)) dX13_rounds_57 ?_
      refine lv_icmp_ge (tgt := 117) hx hb dX13_rounds_60 (by decide) (fun h_ => ?_) (fun h_ => ?_)
      · replace hf := if_t h_ hf
        obtain ⟨v_9, e_⟩ : ∃ y : Int32, y = (x4 + (1 : Int32)) := ⟨_, rfl⟩
        replace hf := lt_to e_ hf
        refine lv_iinc (v := v_9) (lv' := [(4, .int v_9), (0, .ref (a_md 0)), (1, .int x1), (2, .long x2), (5, .int x5)]) hx hb dX13_rounds_117 hl (k := 3) rfl (by rw [e_]; rfl) (by decide) rfl (fun ls hl => ?_)
        clear e_
        refine lv_goto (tgt := 42) hx hb dX13_rounds_120 (by decide) ?_
        exact hk42 x1 x2 v_9 md _ _ _ (lv_sub hl [1, 2, 3, 0] rfl) hI hf
      · replace hf := if_f h_ hf
        refine lv_aload_n hx hb dX13_rounds_63 rfl (lv_at hl 0 rfl) ?_
        refine lv_lload_n hx hb dX13_rounds_64 rfl (lv_at hl 2 rfl) ?_
        refine lv_iload hx hb dX13_rounds_65 (lv_at hl 4 rfl) ?_
        obtain ⟨r_10, md_11, hc_, hf⟩ := bd2_some hf
        refine call_Vi X hI (Cj.keep (Cj.keep Cj.id)) (c_X13_ownIn l g a_md a_tn q_md_read md tn x2 x5 r_10 md_11 hc_) ⟨rfl, rfl⟩ ⟨ht _ w_2295, w_2298, ht _ w_155, lk_X13_ownIn⟩ w_2297 w_130 rfl rfl rfl hl rfl rfl dX13_rounds_67 rfl rfl rfl rfl (fun H locs hI => ?_)
        refine lv_istore (lv' := [(6, .int r_10), (0, .ref (a_md 0)), (1, .int x1), (2, .long x2), (4, .int x4), (5, .int x5)]) hx hb dX13_rounds_70 hl (by decide) rfl (fun ls hl => ?_)
        refine lv_aload_n hx hb dX13_rounds_72 rfl (lv_at hl 1 rfl) ?_
        refine lv_lload_n hx hb dX13_rounds_73 rfl (lv_at hl 3 rfl) ?_
        obtain ⟨md_12, hc_, hf⟩ := bd1_some hf
        refine call_Vv X hI (Cj.keep (Cj.keep Cj.id)) (c_X13_looks l g a_md a_tn q_md_read md_11 tn x2 md_12 hc_) ⟨rfl, rfl⟩ ⟨ht _ w_2071, w_2074, ht _ w_155, lk_X13_looks⟩ w_2073 w_99 rfl rfl rfl hl rfl rfl dX13_rounds_74 rfl rfl rfl rfl (fun H locs hI => ?_)
        refine lv_iload hx hb dX13_rounds_77 (lv_at hl 0 rfl) ?_
        refine lv_bipush (v := (-2)) hx hb dX13_rounds_79 (by decide) ?_
        refine lv_icmp_eq (tgt := 111) hx hb dX13_rounds_81 (by decide) (fun h_ => ?_) (fun h_ => ?_)
        · replace hf := if_t h_ hf
          exact L_111 x1 x2 x4 x5 md_12 _ _ _ _ (lv_sub hl [1, 2, 3, 4, 5] rfl) hI hf (fun z_0 z_1 z_2 z_3 z_4 _ _ _ hl hI hf => ih z_0 z_1 z_2 z_3 z_4 k42 _ _ _ hl hI hf hk42)
        · replace hf := if_f h_ hf
          refine lv_aload_n hx hb dX13_rounds_84 rfl (lv_at hl 1 rfl) ?_
          refine lv_aload_n hx hb dX13_rounds_85 rfl (lv_at hl 1 rfl) ?_
          refine lv_lload_n hx hb dX13_rounds_86 rfl (lv_at hl 3 rfl) ?_
          refine lv_iload hx hb dX13_rounds_87 (lv_at hl 0 rfl) ?_
          obtain ⟨r_13, hc_, hf⟩ := bd1_some hf
          refine call_Vl X hI (Cj.keep Cj.nil) (c_X13_behind l g a_md (some (a_tn 0)) q_md_read md_12 x2 r_10 r_13 hc_) ⟨rfl, rfl⟩ ⟨ht _ w_2168, w_2171, ht _ w_155, lk_X13_behind⟩ w_2170 w_114 rfl rfl rfl hl rfl rfl dX13_rounds_89 rfl rfl rfl rfl (fun H locs hI => ?_)
          obtain ⟨r_14, hc_, hf⟩ := bd1_some hf
          refine call_Vi X hI (Cj.keep (Cj.keep Cj.id)) (c_X13_leftIn l g a_md a_tn q_md_read md_12 tn r_13 r_14 hc_) ⟨rfl, rfl⟩ ⟨ht _ w_2095, w_2098, ht _ w_155, lk_X13_leftIn⟩ w_2097 w_103 rfl rfl rfl hl rfl rfl dX13_rounds_92 rfl rfl rfl rfl (fun H locs hI => ?_)
          refine lv_aload_n hx hb dX13_rounds_95 rfl (lv_at hl 1 rfl) ?_
          refine lv_lload_n hx hb dX13_rounds_96 rfl (lv_at hl 3 rfl) ?_
          obtain ⟨r_15, hc_, hf⟩ := bd1_some hf
          refine call_Vi X hI (Cj.keep (Cj.keep Cj.id)) (c_X13_leftIn l g a_md a_tn q_md_read md_12 tn x2 r_15 hc_) ⟨rfl, rfl⟩ ⟨ht _ w_2095, w_2098, ht _ w_155, lk_X13_leftIn⟩ w_2097 w_103 rfl rfl rfl hl rfl rfl dX13_rounds_97 rfl rfl rfl rfl (fun H locs hI => ?_)
          refine lv_icmp_ge (tgt := 111) hx hb dX13_rounds_100 (by decide) (fun h_ => ?_) (fun h_ => ?_)
          · replace hf := if_t h_ hf
            exact L_111 x1 x2 x4 x5 md_12 _ _ _ _ (lv_sub hl [1, 2, 3, 4, 5] rfl) hI hf (fun z_0 z_1 z_2 z_3 z_4 _ _ _ hl hI hf => ih z_0 z_1 z_2 z_3 z_4 k42 _ _ _ hl hI hf hk42)
          · replace hf := if_f h_ hf
            refine lv_aload_n hx hb dX13_rounds_103 rfl (lv_at hl 1 rfl) ?_
            refine lv_lload_n hx hb dX13_rounds_104 rfl (lv_at hl 3 rfl) ?_
            refine lv_iload hx hb dX13_rounds_105 (lv_at hl 0 rfl) ?_
            obtain ⟨r_16, hc_, hf⟩ := bd1_some hf
            refine call_Vl X hI (Cj.keep Cj.nil) (c_X13_behind l g a_md (some (a_tn 0)) q_md_read md_12 x2 r_10 r_16 hc_) ⟨rfl, rfl⟩ ⟨ht _ w_2168, w_2171, ht _ w_155, lk_X13_behind⟩ w_2170 w_114 rfl rfl rfl hl rfl rfl dX13_rounds_107 rfl rfl rfl rfl (fun H locs hI => ?_)
            refine lv_lstore_n (lv' := [(2, .long r_16), (6, .int r_10), (0, .ref (a_md 0)), (1, .int x1), (4, .int x4), (5, .int x5)]) hx hb dX13_rounds_110 rfl hl (by decide) rfl (fun ls hl => ?_)
            exact L_111 x1 r_16 x4 x5 md_12 _ _ _ _ (lv_sub hl [2, 3, 0, 4, 5] rfl) hI hf (fun z_0 z_1 z_2 z_3 z_4 _ _ _ hl hI hf => ih z_0 z_1 z_2 z_3 z_4 k42 _ _ _ hl hI hf hk42)
  have L_42 : ∀ (n_ : Nat) (x1 : Int32) (x2 : Int64) (x4 : Int32) (md : MdS) (H : Heap) (locs : List Loc) (ls : Array Slot), lv_has ls 7 [(0, .ref (a_md 0)), (1, .int x1), (2, .long x2), (4, .int x4)] → In g A s.heap s (wMd g a_md (some (a_tn 0)) q_md_read md ++ (wTn g a_tn tn ++ [])) H locs → f_X13_rounds_L42 n_ x1 x2 x4 md tn = some (r_, o_md) → W p l e rm_X13_rounds s m args below meth c H locs 0 0 Q (F0 m 42 ls []) := by
    intro n_
    induction n_ with
    | zero =>
      intro x1 x2 x4 md H locs ls hl hI hf
      rw [f_X13_rounds_L42] at hf
      cases hf
    | succ n_ ih =>
      intro x1 x2 x4 md H locs ls hl hI hf
      rw [f_X13_rounds_L42] at hf
      refine lv_iload hx hb dX13_rounds_42 (lv_at hl 3 rfl) ?_
      refine lv_iload_n hx hb dX13_rounds_44 rfl (lv_at hl 1 rfl) ?_
      refine lv_icmp_ge (tgt := 123) hx hb dX13_rounds_45 (by decide) (fun h_ => ?_) (fun h_ => ?_)
      · replace hf := if_t h_ hf
        refine lv_aload_n hx hb dX13_rounds_123 rfl (lv_at hl 0 rfl) ?_
        refine lv_aload_n hx hb dX13_rounds_124 rfl (lv_at hl 0 rfl) ?_
        refine lv_lload_n hx hb dX13_rounds_125 rfl (lv_at hl 2 rfl) ?_
        obtain ⟨r_6, hc_, hf⟩ := bd1_some hf
        refine call_Vi X hI (Cj.keep (Cj.keep Cj.id)) (c_X13_leftIn l g a_md a_tn q_md_read md tn x2 r_6 hc_) ⟨rfl, rfl⟩ ⟨ht _ w_2095, w_2098, ht _ w_155, lk_X13_leftIn⟩ w_2097 w_103 rfl rfl rfl hl rfl rfl dX13_rounds_126 rfl rfl rfl rfl (fun H locs hI => ?_)
        obtain ⟨r_7, md_8, hc_, hf⟩ := bd2_some hf
        refine call_Vi X hI (Cj.keep Cj.nil) (c_X13_good l g a_md (some (a_tn 0)) q_md_read md r_6 r_7 md_8 hc_) ⟨rfl, rfl⟩ ⟨ht _ w_1998, w_2001, ht _ w_155, lk_X13_good⟩ w_2000 w_92 rfl rfl rfl hl rfl rfl dX13_rounds_129 rfl rfl rfl rfl (fun H locs hI => ?_)
        cases hf
        exact end_i hQ hA X hI dX13_rounds_132
      · replace hf := if_f h_ hf
        refine lv_iconst (v := 0) hx hb dX13_rounds_48 (by decide) ?_
        refine lv_istore (lv' := [(5, .int (0 : Int32)), (0, .ref (a_md 0)), (1, .int x1), (2, .long x2), (4, .int x4)]) hx hb dX13_rounds_49 hl (by decide) rfl (fun ls hl => ?_)
        exact L_51 FU x1 x2 x4 (0 : Int32) md _ _ _ _ (lv_sub hl [1, 2, 3, 4, 0] rfl) hI hf (fun z_0 z_1 z_2 z_3 _ _ _ hl hI hf => ih z_0 z_1 z_2 z_3 _ _ _ hl hI hf)
  unfold f_X13_rounds at hf
  refine lv_aload_n hx hb dX13_rounds_0 rfl (lv_at hl 0 rfl) ?_
  refine lv_iconst (v := 0) hx hb dX13_rounds_1 (by decide) ?_
  refine p_Md_thrown X hI up_Md_thrown.l (X.fl w_1583) dX13_rounds_2 (fun H locs hI => ?_)
  generalize hz_ : (Md_thrown' md (0 : Int32)) = md_1 at hI hf
  clear hz_
  replace hf := lt_e hf
  refine lv_aload_n hx hb dX13_rounds_5 rfl (lv_at hl 0 rfl) ?_
  refine g_Md_tangle_S X hI has_Md.l (X.fl w_1586) dX13_rounds_6 ?_
  refine lv_ifnonnull (tgt := 18) hx hb dX13_rounds_9 (by decide) ?_
  refine lv_iload_n hx hb dX13_rounds_18 rfl (lv_at hl 1 rfl) ?_
  refine lv_iconst (v := 0) hx hb dX13_rounds_19 (by decide) ?_
  refine lv_bipush (v := 9) hx hb dX13_rounds_20 (by decide) ?_
  obtain ⟨r_2, hc_, hf⟩ := bd1_some hf
  refine call_Si X hI Cj.nil (c_X13_in l g p1 (0 : Int32) (9 : Int32) r_2 hc_) ⟨rfl, rfl⟩ ⟨ht _ w_1910, w_1912, ht _ w_155, lk_X13_in⟩ w_1911 rfl hl rfl rfl dX13_rounds_22 rfl rfl rfl rfl (fun H locs hI => ?_)
  refine lv_if_ne (tgt := 34) hx hb dX13_rounds_25 (by decide) (fun h_ => ?_) (fun h_ => ?_)
  · replace hf := if_f h_ hf
    refine lv_aload_n hx hb dX13_rounds_34 rfl (lv_at hl 0 rfl) ?_
    refine g_Md_now X hI has_Md.l (X.fl w_1598) dX13_rounds_35 ?_
    refine lv_topl (fun v_3 e_ => ?_)
    replace hf := lt_to e_ hf
    clear e_
    refine lv_lstore_n (lv' := [(2, .long v_3), (0, .ref (a_md 0)), (1, .int p1)]) hx hb dX13_rounds_38 rfl hl (by decide) rfl (fun ls hl => ?_)
    refine lv_iconst (v := 0) hx hb dX13_rounds_39 (by decide) ?_
    refine lv_istore (lv' := [(4, .int (0 : Int32)), (2, .long v_3), (0, .ref (a_md 0)), (1, .int p1)]) hx hb dX13_rounds_40 hl (by decide) rfl (fun ls hl => ?_)
    exact L_42 FU p1 v_3 (0 : Int32) md_1 _ _ _ (lv_sub hl [2, 3, 1, 0] rfl) hI hf
  · replace hf := if_t h_ hf
    refine lv_aload_n hx hb dX13_rounds_28 rfl (lv_at hl 0 rfl) ?_
    refine lv_iconst (v := 2) hx hb dX13_rounds_29 (by decide) ?_
    obtain ⟨r_4, md_5, hc_, hf⟩ := bd2_some hf
    refine call_Vi X hI (Cj.keep Cj.nil) (c_X13_refused l g a_md (some (a_tn 0)) q_md_read md_1 (2 : Int32) r_4 md_5 hc_) ⟨rfl, rfl⟩ ⟨ht _ w_1719, w_1722, ht _ w_155, lk_X13_refused⟩ w_1721 w_65 rfl rfl rfl hl rfl rfl dX13_rounds_30 rfl rfl rfl rfl (fun H locs hI => ?_)
    cases hf
    exact end_i hQ hA X hI dX13_rounds_33
abbrev rm_X13_lotFrom : Room := { frames := 5, cells := 0, slots := 0, locals := 111 }
set_option maxRecDepth 20000 in
theorem c_X13_lotFrom (l : Launch) (g : GT) (a_md : Nat → Nat) (a_tn : Nat → Nat) (q_md_read : Option Nat) (md : MdS) (tn : TnS) (p1 : Int64) (r_ : Int64) (o_md : MdS) (hf : f_X13_lotFrom md tn p1 = some (r_, o_md)) : CL l yX13_lotFrom cX13_lotFrom 6 (some .long) rm_X13_lotFrom g [.ref (a_md 0), .long p1] (wMd g a_md (some (a_tn 0)) q_md_read md ++ (wTn g a_tn tn ++ [])) (wMd g a_md (some (a_tn 0)) q_md_read o_md ++ (wTn g a_tn tn ++ [])) r_ := by
  refine start2 (y := yX13_lotFrom) (cc := cX13_lotFrom) (n := 6) (av := [.ref (a_md 0), .long p1]) (ws := (wMd g a_md (some (a_tn 0)) q_md_read md ++ (wTn g a_tn tn ++ []))) (Qc := fun sz => QL g (wMd g a_md (some (a_tn 0)) q_md_read md ++ (wTn g a_tn tn ++ [])) (wMd g a_md (some (a_tn 0)) q_md_read o_md ++ (wTn g a_tn tn ++ [])) r_ sz) (by decide) rfl ?_
  intro p e s m args below meth c ls Q A ha hQ hA X hl hI hin
  have X : Cx p s m args meth c cX13_lotFrom 6 RX13 (some .long) := X
  have hl : lv_has ls 6 [(0, .ref (a_md 0)), (1, .long p1)] := hl
  obtain ⟨hx, hb, hml, hown, ht, hr, hlk⟩ := id X
  clear ha hin
  have L_79 : ∀ (n_ : Nat) (x1 : Int64) (x4 : Int32) (x5 : Int32) (md : MdS) (H : Heap) (locs : List Loc) (ls : Array Slot), lv_has ls 6 [(0, .ref (a_md 0)), (1, .long x1), (4, .int x4), (5, .int x5)] → In g A s.heap s (wMd g a_md (some (a_tn 0)) q_md_read md ++ (wTn g a_tn tn ++ [])) H locs → f_X13_lotFrom_L79 n_ x1 x4 x5 md tn = some (r_, o_md) → W p l e rm_X13_lotFrom s m args below meth c H locs 0 0 Q (F0 m 79 ls []) := by
    intro n_
    induction n_ with
    | zero =>
      intro x1 x4 x5 md H locs ls hl hI hf
      rw [f_X13_lotFrom_L79] at hf
      cases hf
    | succ n_ ih =>
      intro x1 x4 x5 md H locs ls hl hI hf
      rw [f_X13_lotFrom_L79] at hf
      refine lv_iload hx hb dX13_lotFrom_79 (lv_at hl 3 rfl) ?_
      refine lv_if_le (tgt := 98) hx hb dX13_lotFrom_81 (by decide) (fun h_ => ?_) (fun h_ => ?_)
      · replace hf := if_t h_ hf
        refine lv_aload_n hx hb dX13_lotFrom_98 rfl (lv_at hl 0 rfl) ?_
        refine lv_lload_n hx hb dX13_lotFrom_99 rfl (lv_at hl 1 rfl) ?_
        refine lv_iload hx hb dX13_lotFrom_100 (lv_at hl 2 rfl) ?_
        obtain ⟨r_8, hc_, hf⟩ := bd1_some hf
        refine call_Vl X hI (Cj.keep Cj.nil) (c_X13_behind l g a_md (some (a_tn 0)) q_md_read md x1 x4 r_8 hc_) ⟨rfl, rfl⟩ ⟨ht _ w_2168, w_2171, ht _ w_155, lk_X13_behind⟩ w_2170 w_114 rfl rfl rfl hl rfl rfl dX13_lotFrom_102 rfl rfl rfl rfl (fun H locs hI => ?_)
        cases hf
        exact end_l hQ hA X hI dX13_lotFrom_105
      · replace hf := if_f h_ hf
        refine lv_aload_n hx hb dX13_lotFrom_84 rfl (lv_at hl 0 rfl) ?_
        refine lv_iload hx hb dX13_lotFrom_85 (lv_at hl 2 rfl) ?_
        obtain ⟨r_9, hc_, hf⟩ := bd1_some hf
        refine call_Vi X hI (Cj.keep (Cj.keep Cj.id)) (c_X13_nextMay l g a_md a_tn q_md_read md tn x4 r_9 hc_) ⟨rfl, rfl⟩ ⟨ht _ w_2138, w_2141, ht _ w_155, lk_X13_nextMay⟩ w_2140 w_109 rfl rfl rfl hl rfl rfl dX13_lotFrom_87 rfl rfl rfl rfl (fun H locs hI => ?_)
        refine lv_istore (lv' := [(4, .int r_9), (0, .ref (a_md 0)), (1, .long x1), (5, .int x5)]) hx hb dX13_lotFrom_90 hl (by decide) rfl (fun ls hl => ?_)
        obtain ⟨v_10, e_⟩ : ∃ y : Int32, y = (x5 + (-1 : Int32)) := ⟨_, rfl⟩
        replace hf := lt_to e_ hf
        refine lv_iinc (v := v_10) (lv' := [(5, .int v_10), (4, .int r_9), (0, .ref (a_md 0)), (1, .long x1)]) hx hb dX13_lotFrom_92 hl (k := 3) rfl (by rw [e_]; rfl) (by decide) rfl (fun ls hl => ?_)
        clear e_
        refine lv_goto (tgt := 79) hx hb dX13_lotFrom_95 (by decide) ?_
        exact ih x1 r_9 v_10 md _ _ _ (lv_sub hl [2, 3, 1, 0] rfl) hI hf
  have L_14 : ∀ (n_ : Nat) (x1 : Int64) (x3 : Int32) (x4 : Int32) (md : MdS) (H : Heap) (locs : List Loc) (ls : Array Slot), lv_has ls 6 [(0, .ref (a_md 0)), (1, .long x1), (3, .int x3), (4, .int x4)] → In g A s.heap s (wMd g a_md (some (a_tn 0)) q_md_read md ++ (wTn g a_tn tn ++ [])) H locs → f_X13_lotFrom_L14 n_ x1 x3 x4 md tn = some (r_, o_md) → W p l e rm_X13_lotFrom s m args below meth c H locs 0 0 Q (F0 m 14 ls []) := by
    intro n_
    induction n_ with
    | zero =>
      intro x1 x3 x4 md H locs ls hl hI hf
      rw [f_X13_lotFrom_L14] at hf
      cases hf
    | succ n_ ih =>
      intro x1 x3 x4 md H locs ls hl hI hf
      rw [f_X13_lotFrom_L14] at hf
      refine lv_iload hx hb dX13_lotFrom_14 (lv_at hl 3 rfl) ?_
      refine lv_sipush (v := 2000) hx hb dX13_lotFrom_16 (by decide) ?_
      refine lv_icmp_ge (tgt := 36) hx hb dX13_lotFrom_19 (by decide) (fun h_ => ?_) (fun h_ => ?_)
      · replace hf := if_t h_ hf
        refine lv_iload_n hx hb dX13_lotFrom_36 rfl (lv_at hl 2 rfl) ?_
        refine lv_if_ne (tgt := 42) hx hb dX13_lotFrom_37 (by decide) (fun h_ => ?_) (fun h_ => ?_)
        · replace hf := if_f h_ hf
          refine lv_aload_n hx hb dX13_lotFrom_42 rfl (lv_at hl 0 rfl) ?_
          refine lv_ldc2 (v := 75) hx hb hown (ht _ w_2315) dX13_lotFrom_43 ?_
          refine lv_aload_n hx hb dX13_lotFrom_46 rfl (lv_at hl 0 rfl) ?_
          refine g_Md_drawn X hI has_Md.l (X.fl w_1612) dX13_lotFrom_47 ?_
          refine lv_i2l hx hb dX13_lotFrom_50 rfl ?_
          refine lv_lmul hx hb dX13_lotFrom_51 ?_
          refine lv_ldc2 (v := 74) hx hb hown (ht _ w_2316) dX13_lotFrom_52 ?_
          refine lv_ladd hx hb dX13_lotFrom_55 ?_
          refine lv_ldc2 (v := 65537) hx hb hown (ht _ w_2317) dX13_lotFrom_56 ?_
          refine lv_lrem hx hb dX13_lotFrom_59 (by decide) ?_
          refine lv_l2i hx hb dX13_lotFrom_60 rfl ?_
          refine p_Md_drawn X hI up_Md_drawn.l (X.fl w_1612) dX13_lotFrom_61 (fun H locs hI => ?_)
          generalize hz_ : (Md_drawn' md (Int64.toInt32 ((((75 : Int64) * (Int32.toInt64 (Md_drawn md))) + (74 : Int64)) - (((75 : Int64) * (Int32.toInt64 (Md_drawn md))) + (74 : Int64)) / (65537 : Int64) * (65537 : Int64)))) = md_3 at hI hf
          clear hz_
          replace hf := lt_e hf
          refine lv_aload_n hx hb dX13_lotFrom_64 rfl (lv_at hl 0 rfl) ?_
          refine lv_iconst (v := (-1)) hx hb dX13_lotFrom_65 (by decide) ?_
          obtain ⟨r_4, hc_, hf⟩ := bd1_some hf
          refine call_Vi X hI (Cj.keep (Cj.keep Cj.id)) (c_X13_nextMay l g a_md a_tn q_md_read md_3 tn (-1 : Int32) r_4 hc_) ⟨rfl, rfl⟩ ⟨ht _ w_2138, w_2141, ht _ w_155, lk_X13_nextMay⟩ w_2140 w_109 rfl rfl rfl hl rfl rfl dX13_lotFrom_66 rfl rfl rfl rfl (fun H locs hI => ?_)
          refine lv_istore (lv' := [(4, .int r_4), (0, .ref (a_md 0)), (1, .long x1), (3, .int x3)]) hx hb dX13_lotFrom_69 hl (by decide) rfl (fun ls hl => ?_)
          refine lv_aload_n hx hb dX13_lotFrom_71 rfl (lv_at hl 1 rfl) ?_
          refine g_Md_drawn X hI has_Md.l (X.fl w_1612) dX13_lotFrom_72 ?_
          refine lv_iload_n hx hb dX13_lotFrom_75 rfl (lv_at hl 3 rfl) ?_
          obtain ⟨h_, hf⟩ := nz_some hf
          refine lv_irem hx hb dX13_lotFrom_76 h_ ?_
          refine lv_topi (fun v_5 e_ => ?_)
          replace hf := lt_to e_ hf
          clear e_
          refine lv_istore (lv' := [(5, .int v_5), (4, .int r_4), (0, .ref (a_md 0)), (1, .long x1), (3, .int x3)]) hx hb dX13_lotFrom_77 hl (by decide) rfl (fun ls hl => ?_)
          exact L_79 FU x1 r_4 v_5 md_3 _ _ _ (lv_sub hl [2, 3, 1, 0] rfl) hI hf
        · replace hf := if_t h_ hf
          refine lv_lload_n hx hb dX13_lotFrom_40 rfl (lv_at hl 1 rfl) ?_
          cases hf
          exact end_l hQ hA X hI dX13_lotFrom_41
      · replace hf := if_f h_ hf
        obtain ⟨v_6, e_⟩ : ∃ y : Int32, y = (x3 + (1 : Int32)) := ⟨_, rfl⟩
        replace hf := lt_to e_ hf
        refine lv_iinc (v := v_6) (lv' := [(3, .int v_6), (0, .ref (a_md 0)), (1, .long x1), (4, .int x4)]) hx hb dX13_lotFrom_22 hl (k := 2) rfl (by rw [e_]; rfl) (by decide) rfl (fun ls hl => ?_)
        clear e_
        refine lv_aload_n hx hb dX13_lotFrom_25 rfl (lv_at hl 1 rfl) ?_
        refine lv_iload hx hb dX13_lotFrom_26 (lv_at hl 3 rfl) ?_
        obtain ⟨r_7, hc_, hf⟩ := bd1_some hf
        refine call_Vi X hI (Cj.keep (Cj.keep Cj.id)) (c_X13_nextMay l g a_md a_tn q_md_read md tn x4 r_7 hc_) ⟨rfl, rfl⟩ ⟨ht _ w_2138, w_2141, ht _ w_155, lk_X13_nextMay⟩ w_2140 w_109 rfl rfl rfl hl rfl rfl dX13_lotFrom_28 rfl rfl rfl rfl (fun H locs hI => ?_)
        refine lv_istore (lv' := [(4, .int r_7), (3, .int v_6), (0, .ref (a_md 0)), (1, .long x1)]) hx hb dX13_lotFrom_31 hl (by decide) rfl (fun ls hl => ?_)
        refine lv_goto (tgt := 14) hx hb dX13_lotFrom_33 (by decide) ?_
        exact ih x1 v_6 r_7 md _ _ _ (lv_sub hl [2, 3, 1, 0] rfl) hI hf
  unfold f_X13_lotFrom at hf
  refine lv_aload_n hx hb dX13_lotFrom_0 rfl (lv_at hl 0 rfl) ?_
  refine lv_lload_n hx hb dX13_lotFrom_1 rfl (lv_at hl 1 rfl) ?_
  obtain ⟨md_1, hc_, hf⟩ := bd1_some hf
  refine call_Vv X hI (Cj.keep (Cj.keep Cj.id)) (c_X13_looks l g a_md a_tn q_md_read md tn p1 md_1 hc_) ⟨rfl, rfl⟩ ⟨ht _ w_2071, w_2074, ht _ w_155, lk_X13_looks⟩ w_2073 w_99 rfl rfl rfl hl rfl rfl dX13_lotFrom_2 rfl rfl rfl rfl (fun H locs hI => ?_)
  refine lv_iconst (v := 0) hx hb dX13_lotFrom_5 (by decide) ?_
  refine lv_istore_n (lv' := [(3, .int (0 : Int32)), (0, .ref (a_md 0)), (1, .long p1)]) hx hb dX13_lotFrom_6 rfl hl (by decide) rfl (fun ls hl => ?_)
  refine lv_aload_n hx hb dX13_lotFrom_7 rfl (lv_at hl 1 rfl) ?_
  refine lv_iconst (v := (-1)) hx hb dX13_lotFrom_8 (by decide) ?_
  obtain ⟨r_2, hc_, hf⟩ := bd1_some hf
  refine call_Vi X hI (Cj.keep (Cj.keep Cj.id)) (c_X13_nextMay l g a_md a_tn q_md_read md_1 tn (-1 : Int32) r_2 hc_) ⟨rfl, rfl⟩ ⟨ht _ w_2138, w_2141, ht _ w_155, lk_X13_nextMay⟩ w_2140 w_109 rfl rfl rfl hl rfl rfl dX13_lotFrom_9 rfl rfl rfl rfl (fun H locs hI => ?_)
  refine lv_istore (lv' := [(4, .int r_2), (3, .int (0 : Int32)), (0, .ref (a_md 0)), (1, .long p1)]) hx hb dX13_lotFrom_12 hl (by decide) rfl (fun ls hl => ?_)
  exact L_14 FU p1 (0 : Int32) r_2 md_1 _ _ _ (lv_sub hl [2, 3, 1, 0] rfl) hI hf
abbrev rm_X13_tries : Room := { frames := 6, cells := 0, slots := 0, locals := 136 }
set_option maxRecDepth 20000 in
theorem c_X13_tries (l : Launch) (g : GT) (a_md : Nat → Nat) (a_tn : Nat → Nat) (q_md_read : Option Nat) (md : MdS) (tn : TnS) (p1 : Int32) (p2 : Int32) (p3 : Int32) (r_ : Int32) (o_md : MdS) (hf : f_X13_tries md tn p1 p2 p3 = some (r_, o_md)) : CI l yX13_tries cX13_tries 9 (some .int) rm_X13_tries g [.ref (a_md 0), .int p1, .int p2, .int p3] (wMd g a_md (some (a_tn 0)) q_md_read md ++ (wTn g a_tn tn ++ [])) (wMd g a_md (some (a_tn 0)) q_md_read o_md ++ (wTn g a_tn tn ++ [])) r_ := by
  refine start2 (y := yX13_tries) (cc := cX13_tries) (n := 9) (av := [.ref (a_md 0), .int p1, .int p2, .int p3]) (ws := (wMd g a_md (some (a_tn 0)) q_md_read md ++ (wTn g a_tn tn ++ []))) (Qc := fun sz => QI g (wMd g a_md (some (a_tn 0)) q_md_read md ++ (wTn g a_tn tn ++ [])) (wMd g a_md (some (a_tn 0)) q_md_read o_md ++ (wTn g a_tn tn ++ [])) r_ sz) (by decide) rfl ?_
  intro p e s m args below meth c ls Q A ha hQ hA X hl hI hin
  have X : Cx p s m args meth c cX13_tries 9 RX13 (some .int) := X
  have hl : lv_has ls 9 [(0, .ref (a_md 0)), (1, .int p1), (2, .int p2), (3, .int p3)] := hl
  obtain ⟨hx, hb, hml, hown, ht, hr, hlk⟩ := id X
  clear ha hin
  have L_49 : ∀ (md : MdS) (H : Heap) (locs : List Loc) (ls : Array Slot), lv_has ls 9 [(0, .ref (a_md 0))] → In g A s.heap s (wMd g a_md (some (a_tn 0)) q_md_read md ++ (wTn g a_tn tn ++ [])) H locs → f_X13_tries_L49 md = some (r_, o_md) → W p l e rm_X13_tries s m args below meth c H locs 0 0 Q (F0 m 49 ls []) := by
    intro md H locs ls hl hI hf
    unfold f_X13_tries_L49 at hf
    refine lv_aload_n hx hb dX13_tries_49 rfl (lv_at hl 0 rfl) ?_
    refine lv_iconst (v := 2) hx hb dX13_tries_50 (by decide) ?_
    obtain ⟨r_6, md_7, hc_, hf⟩ := bd2_some hf
    refine call_Vi X hI (Cj.keep Cj.nil) (c_X13_refused l g a_md (some (a_tn 0)) q_md_read md (2 : Int32) r_6 md_7 hc_) ⟨rfl, rfl⟩ ⟨ht _ w_1719, w_1722, ht _ w_155, lk_X13_refused⟩ w_1721 w_65 rfl rfl rfl hl rfl rfl dX13_tries_51 rfl rfl rfl rfl (fun H locs hI => ?_)
    cases hf
    exact end_i hQ hA X hI dX13_tries_54
  have L_126 : ∀ (x2 : Int32) (x3 : Int32) (x5 : Int32) (t0i : Int32) (t1i : Int32) (md : MdS) (k66 : (Int32) → (Int32) → (Int32) → (Int32) → (MdS) → (TnS) → Option (Int32 × (MdS))) (H : Heap) (locs : List Loc) (ls : Array Slot), lv_has ls 9 [(0, .ref (a_md 0)), (2, .int x2), (3, .int x3), (5, .int x5)] → In g A s.heap s (wMd g a_md (some (a_tn 0)) q_md_read md ++ (wTn g a_tn tn ++ [])) H locs → f_X13_tries_L126 x2 x3 x5 t0i t1i md tn k66 = some (r_, o_md) → (∀ (x2 : Int32) (x3 : Int32) (x4 : Int32) (x5 : Int32) (md : MdS) (H : Heap) (locs : List Loc) (ls : Array Slot), lv_has ls 9 [(0, .ref (a_md 0)), (2, .int x2), (3, .int x3), (4, .int x4), (5, .int x5)] → In g A s.heap s (wMd g a_md (some (a_tn 0)) q_md_read md ++ (wTn g a_tn tn ++ [])) H locs → k66 x2 x3 x4 x5 md tn = some (r_, o_md) → W p l e rm_X13_tries s m args below meth c H locs 0 0 Q (F0 m 66 ls [])) → W p l e rm_X13_tries s m args below meth c H locs 0 0 Q (F0 m 126 ls [.int t1i, .int t0i]) := by
    intro x2 x3 x5 t0i t1i md k66 H locs ls hl hI hf hk66
    unfold f_X13_tries_L126 at hf
    refine lv_iadd hx hb dX13_tries_126 ?_
    refine lv_topi (fun v_16 e_ => ?_)
    replace hf := lt_to e_ hf
    clear e_
    refine lv_istore (lv' := [(4, .int v_16), (0, .ref (a_md 0)), (2, .int x2), (3, .int x3), (5, .int x5)]) hx hb dX13_tries_127 hl (by decide) rfl (fun ls hl => ?_)
    obtain ⟨v_17, e_⟩ : ∃ y : Int32, y = (x5 + (1 : Int32)) := ⟨_, rfl⟩
    replace hf := lt_to e_ hf
    refine lv_iinc (v := v_17) (lv' := [(5, .int v_17), (4, .int v_16), (0, .ref (a_md 0)), (2, .int x2), (3, .int x3)]) hx hb dX13_tries_129 hl (k := 4) rfl (by rw [e_]; rfl) (by decide) rfl (fun ls hl => ?_)
    clear e_
    refine lv_goto (tgt := 66) hx hb dX13_tries_132 (by decide) ?_
    exact hk66 x2 x3 v_16 v_17 md _ _ _ (lv_sub hl [2, 3, 4, 1, 0] rfl) hI hf
  have L_110 : ∀ (x2 : Int32) (x3 : Int32) (x4 : Int32) (x5 : Int32) (x6 : Int64) (md : MdS) (k66 : (Int32) → (Int32) → (Int32) → (Int32) → (MdS) → (TnS) → Option (Int32 × (MdS))) (H : Heap) (locs : List Loc) (ls : Array Slot), lv_has ls 9 [(0, .ref (a_md 0)), (2, .int x2), (3, .int x3), (4, .int x4), (5, .int x5), (6, .long x6)] → In g A s.heap s (wMd g a_md (some (a_tn 0)) q_md_read md ++ (wTn g a_tn tn ++ [])) H locs → f_X13_tries_L110 x2 x3 x4 x5 x6 md tn k66 = some (r_, o_md) → (∀ (x2 : Int32) (x3 : Int32) (x4 : Int32) (x5 : Int32) (md : MdS) (H : Heap) (locs : List Loc) (ls : Array Slot), lv_has ls 9 [(0, .ref (a_md 0)), (2, .int x2), (3, .int x3), (4, .int x4), (5, .int x5)] → In g A s.heap s (wMd g a_md (some (a_tn 0)) q_md_read md ++ (wTn g a_tn tn ++ [])) H locs → k66 x2 x3 x4 x5 md tn = some (r_, o_md) → W p l e rm_X13_tries s m args below meth c H locs 0 0 Q (F0 m 66 ls [])) → W p l e rm_X13_tries s m args below meth c H locs 0 0 Q (F0 m 110 ls []) := by
    intro x2 x3 x4 x5 x6 md k66 H locs ls hl hI hf hk66
    unfold f_X13_tries_L110 at hf
    refine lv_iload hx hb dX13_tries_110 (lv_at hl 3 rfl) ?_
    refine lv_aload_n hx hb dX13_tries_112 rfl (lv_at hl 0 rfl) ?_
    refine lv_lload hx hb dX13_tries_113 (lv_at hl 5 rfl) ?_
    obtain ⟨r_15, hc_, hf⟩ := bd1_some hf
    refine call_Vi X hI (Cj.keep (Cj.keep Cj.id)) (c_X13_leftIn l g a_md a_tn q_md_read md tn x6 r_15 hc_) ⟨rfl, rfl⟩ ⟨ht _ w_2095, w_2098, ht _ w_155, lk_X13_leftIn⟩ w_2097 w_103 rfl rfl rfl hl rfl rfl dX13_tries_115 rfl rfl rfl rfl (fun H locs hI => ?_)
    refine lv_if_ne (tgt := 125) hx hb dX13_tries_118 (by decide) (fun h_ => ?_) (fun h_ => ?_)
    · replace hf := if_f h_ hf
      refine lv_iconst (v := 0) hx hb dX13_tries_125 (by decide) ?_
      exact L_126 x2 x3 x5 x4 (0 : Int32) md _ _ _ _ (lv_sub hl [0, 1, 2, 4] rfl) hI hf hk66
    · replace hf := if_t h_ hf
      refine lv_iconst (v := 1) hx hb dX13_tries_121 (by decide) ?_
      refine lv_goto (tgt := 126) hx hb dX13_tries_122 (by decide) ?_
      exact L_126 x2 x3 x5 x4 (1 : Int32) md _ _ _ _ (lv_sub hl [0, 1, 2, 4] rfl) hI hf hk66
  have L_81 : ∀ (n_ : Nat) (x2 : Int32) (x3 : Int32) (x4 : Int32) (x5 : Int32) (x6 : Int64) (x8 : Int32) (md : MdS) (k66 : (Int32) → (Int32) → (Int32) → (Int32) → (MdS) → (TnS) → Option (Int32 × (MdS))) (H : Heap) (locs : List Loc) (ls : Array Slot), lv_has ls 9 [(0, .ref (a_md 0)), (2, .int x2), (3, .int x3), (4, .int x4), (5, .int x5), (6, .long x6), (8, .int x8)] → In g A s.heap s (wMd g a_md (some (a_tn 0)) q_md_read md ++ (wTn g a_tn tn ++ [])) H locs → f_X13_tries_L81 n_ x2 x3 x4 x5 x6 x8 md tn k66 = some (r_, o_md) → (∀ (x2 : Int32) (x3 : Int32) (x4 : Int32) (x5 : Int32) (md : MdS) (H : Heap) (locs : List Loc) (ls : Array Slot), lv_has ls 9 [(0, .ref (a_md 0)), (2, .int x2), (3, .int x3), (4, .int x4), (5, .int x5)] → In g A s.heap s (wMd g a_md (some (a_tn 0)) q_md_read md ++ (wTn g a_tn tn ++ [])) H locs → k66 x2 x3 x4 x5 md tn = some (r_, o_md) → W p l e rm_X13_tries s m args below meth c H locs 0 0 Q (F0 m 66 ls [])) → W p l e rm_X13_tries s m args below meth c H locs 0 0 Q (F0 m 81 ls []) := by
    intro n_
    induction n_ with
    | zero =>
      intro x2 x3 x4 x5 x6 x8 md k66 H locs ls hl hI hf hk66
      rw [f_X13_tries_L81] at hf
      cases hf
    | succ n_ ih =>
      intro x2 x3 x4 x5 x6 x8 md k66 H locs ls hl hI hf hk66
      rw [f_X13_tries_L81] at hf
      refine lv_iload hx hb dX13_tries_81 (lv_at hl 6 rfl) ?_
      refine lv_iload_n hx hb dX13_tries_83 rfl (lv_at hl 2 rfl) ?_
      refine lv_icmp_ge (tgt := 110) hx hb dX13_tries_84 (by decide) (fun h_ => ?_) (fun h_ => ?_)
      · replace hf := if_t h_ hf
        exact L_110 x2 x3 x4 x5 x6 md _ _ _ _ (lv_sub hl [0, 1, 2, 3, 4, 5] rfl) hI hf hk66
      · replace hf := if_f h_ hf
        refine lv_aload_n hx hb dX13_tries_87 rfl (lv_at hl 0 rfl) ?_
        refine lv_lload hx hb dX13_tries_88 (lv_at hl 5 rfl) ?_
        obtain ⟨r_11, hc_, hf⟩ := bd1_some hf
        refine call_Vi X hI (Cj.keep (Cj.keep Cj.id)) (c_X13_leftIn l g a_md a_tn q_md_read md tn x6 r_11 hc_) ⟨rfl, rfl⟩ ⟨ht _ w_2095, w_2098, ht _ w_155, lk_X13_leftIn⟩ w_2097 w_103 rfl rfl rfl hl rfl rfl dX13_tries_90 rfl rfl rfl rfl (fun H locs hI => ?_)
        refine lv_if_le (tgt := 110) hx hb dX13_tries_93 (by decide) (fun h_ => ?_) (fun h_ => ?_)
        · replace hf := if_t h_ hf
          exact L_110 x2 x3 x4 x5 x6 md _ _ _ _ (lv_sub hl [0, 1, 2, 3, 4, 5] rfl) hI hf hk66
        · replace hf := if_f h_ hf
          refine lv_aload_n hx hb dX13_tries_96 rfl (lv_at hl 0 rfl) ?_
          refine lv_lload hx hb dX13_tries_97 (lv_at hl 5 rfl) ?_
          obtain ⟨r_12, md_13, hc_, hf⟩ := bd2_some hf
          refine call_Vl X hI (Cj.keep (Cj.keep Cj.id)) (c_X13_lotFrom l g a_md a_tn q_md_read md tn x6 r_12 md_13 hc_) ⟨rfl, rfl⟩ ⟨ht _ w_2311, w_2314, ht _ w_155, lk_X13_lotFrom⟩ w_2313 w_131 rfl rfl rfl hl rfl rfl dX13_tries_99 rfl rfl rfl rfl (fun H locs hI => ?_)
          refine lv_lstore (lv' := [(6, .long r_12), (0, .ref (a_md 0)), (2, .int x2), (3, .int x3), (4, .int x4), (5, .int x5), (8, .int x8)]) hx hb dX13_tries_102 hl (by decide) rfl (fun ls hl => ?_)
          obtain ⟨v_14, e_⟩ : ∃ y : Int32, y = (x8 + (1 : Int32)) := ⟨_, rfl⟩
          replace hf := lt_to e_ hf
          refine lv_iinc (v := v_14) (lv' := [(8, .int v_14), (6, .long r_12), (0, .ref (a_md 0)), (2, .int x2), (3, .int x3), (4, .int x4), (5, .int x5)]) hx hb dX13_tries_104 hl (k := 6) rfl (by rw [e_]; rfl) (by decide) rfl (fun ls hl => ?_)
          clear e_
          refine lv_goto (tgt := 81) hx hb dX13_tries_107 (by decide) ?_
          exact ih x2 x3 x4 x5 r_12 v_14 md_13 k66 _ _ _ (lv_sub hl [2, 3, 4, 5, 6, 1, 0] rfl) hI hf hk66
  have L_66 : ∀ (n_ : Nat) (x2 : Int32) (x3 : Int32) (x4 : Int32) (x5 : Int32) (md : MdS) (H : Heap) (locs : List Loc) (ls : Array Slot), lv_has ls 9 [(0, .ref (a_md 0)), (2, .int x2), (3, .int x3), (4, .int x4), (5, .int x5)] → In g A s.heap s (wMd g a_md (some (a_tn 0)) q_md_read md ++ (wTn g a_tn tn ++ [])) H locs → f_X13_tries_L66 n_ x2 x3 x4 x5 md tn = some (r_, o_md) → W p l e rm_X13_tries s m args below meth c H locs 0 0 Q (F0 m 66 ls []) := by
    intro n_
    induction n_ with
    | zero =>
      intro x2 x3 x4 x5 md H locs ls hl hI hf
      rw [f_X13_tries_L66] at hf
      cases hf
    | succ n_ ih =>
      intro x2 x3 x4 x5 md H locs ls hl hI hf
      rw [f_X13_tries_L66] at hf
      refine lv_iload hx hb dX13_tries_66 (lv_at hl 4 rfl) ?_
      refine lv_iload_n hx hb dX13_tries_68 rfl (lv_at hl 1 rfl) ?_
      refine lv_icmp_ge (tgt := 135) hx hb dX13_tries_69 (by decide) (fun h_ => ?_) (fun h_ => ?_)
      · replace hf := if_t h_ hf
        refine lv_aload_n hx hb dX13_tries_135 rfl (lv_at hl 0 rfl) ?_
        refine lv_iload hx hb dX13_tries_136 (lv_at hl 3 rfl) ?_
        obtain ⟨r_8, md_9, hc_, hf⟩ := bd2_some hf
        refine call_Vi X hI (Cj.keep Cj.nil) (c_X13_good l g a_md (some (a_tn 0)) q_md_read md x4 r_8 md_9 hc_) ⟨rfl, rfl⟩ ⟨ht _ w_1998, w_2001, ht _ w_155, lk_X13_good⟩ w_2000 w_92 rfl rfl rfl hl rfl rfl dX13_tries_138 rfl rfl rfl rfl (fun H locs hI => ?_)
        cases hf
        exact end_i hQ hA X hI dX13_tries_141
      · replace hf := if_f h_ hf
        refine lv_aload_n hx hb dX13_tries_72 rfl (lv_at hl 0 rfl) ?_
        refine g_Md_now X hI has_Md.l (X.fl w_1598) dX13_tries_73 ?_
        refine lv_topl (fun v_10 e_ => ?_)
        replace hf := lt_to e_ hf
        clear e_
        refine lv_lstore (lv' := [(6, .long v_10), (0, .ref (a_md 0)), (2, .int x2), (3, .int x3), (4, .int x4), (5, .int x5)]) hx hb dX13_tries_76 hl (by decide) rfl (fun ls hl => ?_)
        refine lv_iconst (v := 0) hx hb dX13_tries_78 (by decide) ?_
        refine lv_istore (lv' := [(8, .int (0 : Int32)), (6, .long v_10), (0, .ref (a_md 0)), (2, .int x2), (3, .int x3), (4, .int x4), (5, .int x5)]) hx hb dX13_tries_79 hl (by decide) rfl (fun ls hl => ?_)
        exact L_81 FU x2 x3 x4 x5 v_10 (0 : Int32) md _ _ _ _ (lv_sub hl [2, 3, 4, 5, 6, 1, 0] rfl) hI hf (fun z_0 z_1 z_2 z_3 z_4 _ _ _ hl hI hf => ih z_0 z_1 z_2 z_3 z_4 _ _ _ hl hI hf)
  unfold f_X13_tries at hf
  refine lv_aload_n hx hb dX13_tries_0 rfl (lv_at hl 0 rfl) ?_
  refine lv_iconst (v := 0) hx hb dX13_tries_1 (by decide) ?_
  refine p_Md_thrown X hI up_Md_thrown.l (X.fl w_1583) dX13_tries_2 (fun H locs hI => ?_)
  generalize hz_ : (Md_thrown' md (0 : Int32)) = md_1 at hI hf
  clear hz_
  replace hf := lt_e hf
  refine lv_aload_n hx hb dX13_tries_5 rfl (lv_at hl 0 rfl) ?_
  refine g_Md_tangle_S X hI has_Md.l (X.fl w_1586) dX13_tries_6 ?_
  refine lv_ifnonnull (tgt := 18) hx hb dX13_tries_9 (by decide) ?_
  refine lv_iload_n hx hb dX13_tries_18 rfl (lv_at hl 1 rfl) ?_
  refine lv_iconst (v := 0) hx hb dX13_tries_19 (by decide) ?_
  refine lv_ldcw (v := 65536) hx hb hown (ht _ w_2310) dX13_tries_20 ?_
  obtain ⟨r_2, hc_, hf⟩ := bd1_some hf
  refine call_Si X hI Cj.nil (c_X13_in l g p1 (0 : Int32) (65536 : Int32) r_2 hc_) ⟨rfl, rfl⟩ ⟨ht _ w_1910, w_1912, ht _ w_155, lk_X13_in⟩ w_1911 rfl hl rfl rfl dX13_tries_23 rfl rfl rfl rfl (fun H locs hI => ?_)
  refine lv_if_eq (tgt := 49) hx hb dX13_tries_26 (by decide) (fun h_ => ?_) (fun h_ => ?_)
  · replace hf := if_t h_ hf
    exact L_49 md_1 _ _ _ (lv_sub hl [0] rfl) hI hf
  · replace hf := if_f h_ hf
    refine lv_iload_n hx hb dX13_tries_29 rfl (lv_at hl 2 rfl) ?_
    refine lv_iconst (v := 1) hx hb dX13_tries_30 (by decide) ?_
    refine lv_bipush (v := 20) hx hb dX13_tries_31 (by decide) ?_
    obtain ⟨r_3, hc_, hf⟩ := bd1_some hf
    refine call_Si X hI Cj.nil (c_X13_in l g p2 (1 : Int32) (20 : Int32) r_3 hc_) ⟨rfl, rfl⟩ ⟨ht _ w_1910, w_1912, ht _ w_155, lk_X13_in⟩ w_1911 rfl hl rfl rfl dX13_tries_33 rfl rfl rfl rfl (fun H locs hI => ?_)
    refine lv_if_eq (tgt := 49) hx hb dX13_tries_36 (by decide) (fun h_ => ?_) (fun h_ => ?_)
    · replace hf := if_t h_ hf
      exact L_49 md_1 _ _ _ (lv_sub hl [0] rfl) hI hf
    · replace hf := if_f h_ hf
      refine lv_iload_n hx hb dX13_tries_39 rfl (lv_at hl 3 rfl) ?_
      refine lv_iconst (v := 0) hx hb dX13_tries_40 (by decide) ?_
      refine lv_bipush (v := 20) hx hb dX13_tries_41 (by decide) ?_
      obtain ⟨r_4, hc_, hf⟩ := bd1_some hf
      refine call_Si X hI Cj.nil (c_X13_in l g p3 (0 : Int32) (20 : Int32) r_4 hc_) ⟨rfl, rfl⟩ ⟨ht _ w_1910, w_1912, ht _ w_155, lk_X13_in⟩ w_1911 rfl hl rfl rfl dX13_tries_43 rfl rfl rfl rfl (fun H locs hI => ?_)
      refine lv_if_ne (tgt := 55) hx hb dX13_tries_46 (by decide) (fun h_ => ?_) (fun h_ => ?_)
      · replace hf := if_f h_ hf
        refine lv_aload_n hx hb dX13_tries_55 rfl (lv_at hl 0 rfl) ?_
        refine lv_iload_n hx hb dX13_tries_56 rfl (lv_at hl 1 rfl) ?_
        refine p_Md_drawn X hI up_Md_drawn.l (X.fl w_1612) dX13_tries_57 (fun H locs hI => ?_)
        generalize hz_ : (Md_drawn' md_1 p1) = md_5 at hI hf
        clear hz_
        replace hf := lt_e hf
        refine lv_iconst (v := 0) hx hb dX13_tries_60 (by decide) ?_
        refine lv_istore (lv' := [(4, .int (0 : Int32)), (0, .ref (a_md 0)), (1, .int p1), (2, .int p2), (3, .int p3)]) hx hb dX13_tries_61 hl (by decide) rfl (fun ls hl => ?_)
        refine lv_iconst (v := 0) hx hb dX13_tries_63 (by decide) ?_
        refine lv_istore (lv' := [(5, .int (0 : Int32)), (4, .int (0 : Int32)), (0, .ref (a_md 0)), (1, .int p1), (2, .int p2), (3, .int p3)]) hx hb dX13_tries_64 hl (by decide) rfl (fun ls hl => ?_)
        exact L_66 FU p2 p3 (0 : Int32) (0 : Int32) md_5 _ _ _ (lv_sub hl [2, 4, 5, 1, 0] rfl) hI hf
      · replace hf := if_t h_ hf
        exact L_49 md_1 _ _ _ (lv_sub hl [0] rfl) hI hf
abbrev rm_X13_chosen : Room := { frames := 0, cells := 0, slots := 0, locals := 0 }
set_option maxRecDepth 20000 in
theorem c_X13_chosen (l : Launch) (g : GT) (p0 : Int32) (p1 : Int32) (r_ : Int64) (hf : f_X13_chosen p0 p1 = some (r_)) : CL l yX13_chosen cX13_chosen 5 (some .long) rm_X13_chosen g [.int p0, .int p1] ([]) ([]) r_ := by
  refine start2 (y := yX13_chosen) (cc := cX13_chosen) (n := 5) (av := [.int p0, .int p1]) (ws := ([])) (Qc := fun sz => QL g ([]) ([]) r_ sz) (by decide) rfl ?_
  intro p e s m args below meth c ls Q A ha hQ hA X hl hI hin
  have X : Cx p s m args meth c cX13_chosen 5 RX13 (some .long) := X
  have hl : lv_has ls 5 [(0, .int p0), (1, .int p1)] := hl
  obtain ⟨hx, hb, hml, hown, ht, hr, hlk⟩ := id X
  clear ha hin
  have L_5 : ∀ (n_ : Nat) (x0 : Int32) (x1 : Int32) (x2 : Int64) (x4 : Int32) (H : Heap) (locs : List Loc) (ls : Array Slot), lv_has ls 5 [(0, .int x0), (1, .int x1), (2, .long x2), (4, .int x4)] → In g A s.heap s ([]) H locs → f_X13_chosen_L5 n_ x0 x1 x2 x4 = some (r_) → W p l e rm_X13_chosen s m args below meth c H locs 0 0 Q (F0 m 5 ls []) := by
    intro n_
    induction n_ with
    | zero =>
      intro x0 x1 x2 x4 H locs ls hl hI hf
      rw [f_X13_chosen_L5] at hf
      cases hf
    | succ n_ ih =>
      intro x0 x1 x2 x4 H locs ls hl hI hf
      rw [f_X13_chosen_L5] at hf
      refine lv_iload hx hb dX13_chosen_5 (lv_at hl 3 rfl) ?_
      refine lv_iload_n hx hb dX13_chosen_7 rfl (lv_at hl 1 rfl) ?_
      refine lv_icmp_ge (tgt := 31) hx hb dX13_chosen_8 (by decide) (fun h_ => ?_) (fun h_ => ?_)
      · replace hf := if_t h_ hf
        refine lv_lload_n hx hb dX13_chosen_31 rfl (lv_at hl 2 rfl) ?_
        cases hf
        exact end_l hQ hA X hI dX13_chosen_32
      · replace hf := if_f h_ hf
        refine lv_lload_n hx hb dX13_chosen_11 rfl (lv_at hl 2 rfl) ?_
        refine lv_iload_n hx hb dX13_chosen_12 rfl (lv_at hl 0 rfl) ?_
        refine lv_iload hx hb dX13_chosen_13 (lv_at hl 3 rfl) ?_
        refine lv_isub hx hb dX13_chosen_15 ?_
        refine lv_i2l hx hb dX13_chosen_16 rfl ?_
        refine lv_lmul hx hb dX13_chosen_17 ?_
        refine lv_iload hx hb dX13_chosen_18 (lv_at hl 3 rfl) ?_
        refine lv_iconst (v := 1) hx hb dX13_chosen_20 (by decide) ?_
        refine lv_iadd hx hb dX13_chosen_21 ?_
        refine lv_i2l hx hb dX13_chosen_22 rfl ?_
        obtain ⟨h_, hf⟩ := nzl_some hf
        refine lv_ldiv hx hb dX13_chosen_23 h_ ?_
        refine lv_topl (fun v_1 e_ => ?_)
        replace hf := lt_to e_ hf
        clear e_
        refine lv_lstore_n (lv' := [(2, .long v_1), (0, .int x0), (1, .int x1), (4, .int x4)]) hx hb dX13_chosen_24 rfl hl (by decide) rfl (fun ls hl => ?_)
        obtain ⟨v_2, e_⟩ : ∃ y : Int32, y = (x4 + (1 : Int32)) := ⟨_, rfl⟩
        replace hf := lt_to e_ hf
        refine lv_iinc (v := v_2) (lv' := [(4, .int v_2), (2, .long v_1), (0, .int x0), (1, .int x1)]) hx hb dX13_chosen_25 hl (k := 3) rfl (by rw [e_]; rfl) (by decide) rfl (fun ls hl => ?_)
        clear e_
        refine lv_goto (tgt := 5) hx hb dX13_chosen_28 (by decide) ?_
        exact ih x0 x1 v_1 v_2 _ _ _ (lv_sub hl [2, 3, 1, 0] rfl) hI hf
  unfold f_X13_chosen at hf
  refine lv_lconst (v := 1) hx hb dX13_chosen_0 (by decide) ?_
  refine lv_lstore_n (lv' := [(2, .long (1 : Int64)), (0, .int p0), (1, .int p1)]) hx hb dX13_chosen_1 rfl hl (by decide) rfl (fun ls hl => ?_)
  refine lv_iconst (v := 0) hx hb dX13_chosen_2 (by decide) ?_
  refine lv_istore (lv' := [(4, .int (0 : Int32)), (2, .long (1 : Int64)), (0, .int p0), (1, .int p1)]) hx hb dX13_chosen_3 hl (by decide) rfl (fun ls hl => ?_)
  exact L_5 FU p0 p1 (1 : Int64) (0 : Int32) _ _ _ (lv_sub hl [2, 3, 1, 0] rfl) hI hf
abbrev rm_X13_laysWays : Room := { frames := 1, cells := 0, slots := 0, locals := 24 }
set_option maxRecDepth 20000 in
theorem c_X13_laysWays (l : Launch) (g : GT) (a_md : Nat → Nat) (q_md_tangle : Option Nat) (q_md_read : Option Nat) (md : MdS) (p1 : Int32) (p2 : Int32) (o_md : MdS) (hf : f_X13_laysWays md p1 p2 = some (o_md)) : CV l yX13_laysWays cX13_laysWays 9 none rm_X13_laysWays g [.ref (a_md 0), .int p1, .int p2] (wMd g a_md q_md_tangle q_md_read md ++ []) (wMd g a_md q_md_tangle q_md_read o_md ++ []) := by
  refine start2 (y := yX13_laysWays) (cc := cX13_laysWays) (n := 9) (av := [.ref (a_md 0), .int p1, .int p2]) (ws := (wMd g a_md q_md_tangle q_md_read md ++ [])) (Qc := fun sz => QV g (wMd g a_md q_md_tangle q_md_read md ++ []) (wMd g a_md q_md_tangle q_md_read o_md ++ []) sz) (by decide) rfl ?_
  intro p e s m args below meth c ls Q A ha hQ hA X hl hI hin
  have X : Cx p s m args meth c cX13_laysWays 9 RX13 none := X
  have hl : lv_has ls 9 [(0, .ref (a_md 0)), (1, .int p1), (2, .int p2)] := hl
  obtain ⟨hx, hb, hml, hown, ht, hr, hlk⟩ := id X
  clear ha hin
  have L_147 : ∀ (x1 : Int32) (x2 : Int32) (x3 : Int32) (x4 : Int32) (x5 : Int64) (x7 : Int32) (md : MdS) (k50 : (Int32) → (Int32) → (Int32) → (Int32) → (Int64) → (Int32) → (MdS) → Option ((MdS))) (H : Heap) (locs : List Loc) (ls : Array Slot), lv_has ls 9 [(0, .ref (a_md 0)), (1, .int x1), (2, .int x2), (3, .int x3), (4, .int x4), (5, .long x5), (7, .int x7)] → In g A s.heap s (wMd g a_md q_md_tangle q_md_read md ++ []) H locs → f_X13_laysWays_L147 x1 x2 x3 x4 x5 x7 md k50 = some (o_md) → (∀ (x1 : Int32) (x2 : Int32) (x3 : Int32) (x4 : Int32) (x5 : Int64) (x7 : Int32) (md : MdS) (H : Heap) (locs : List Loc) (ls : Array Slot), lv_has ls 9 [(0, .ref (a_md 0)), (1, .int x1), (2, .int x2), (3, .int x3), (4, .int x4), (5, .long x5), (7, .int x7)] → In g A s.heap s (wMd g a_md q_md_tangle q_md_read md ++ []) H locs → k50 x1 x2 x3 x4 x5 x7 md = some (o_md) → W p l e rm_X13_laysWays s m args below meth c H locs 0 0 Q (F0 m 50 ls [])) → W p l e rm_X13_laysWays s m args below meth c H locs 0 0 Q (F0 m 147 ls []) := by
    intro x1 x2 x3 x4 x5 x7 md k50 H locs ls hl hI hf hk50
    unfold f_X13_laysWays_L147 at hf
    obtain ⟨v_6, e_⟩ : ∃ y : Int32, y = (x7 + (1 : Int32)) := ⟨_, rfl⟩
    replace hf := lt_to e_ hf
    refine lv_iinc (v := v_6) (lv' := [(7, .int v_6), (0, .ref (a_md 0)), (1, .int x1), (2, .int x2), (3, .int x3), (4, .int x4), (5, .long x5)]) hx hb dX13_laysWays_147 hl (k := 6) rfl (by rw [e_]; rfl) (by decide) rfl (fun ls hl => ?_)
    clear e_
    refine lv_goto (tgt := 50) hx hb dX13_laysWays_150 (by decide) ?_
    exact hk50 x1 x2 x3 x4 x5 v_6 md _ _ _ (lv_sub hl [1, 2, 3, 4, 5, 6, 0] rfl) hI hf
  have L_87 : ∀ (n_ : Nat) (x1 : Int32) (x2 : Int32) (x3 : Int32) (x4 : Int32) (x5 : Int64) (x7 : Int32) (x8 : Int32) (md : MdS) (k50 : (Int32) → (Int32) → (Int32) → (Int32) → (Int64) → (Int32) → (MdS) → Option ((MdS))) (H : Heap) (locs : List Loc) (ls : Array Slot), lv_has ls 9 [(0, .ref (a_md 0)), (1, .int x1), (2, .int x2), (3, .int x3), (4, .int x4), (5, .long x5), (7, .int x7), (8, .int x8)] → In g A s.heap s (wMd g a_md q_md_tangle q_md_read md ++ []) H locs → f_X13_laysWays_L87 n_ x1 x2 x3 x4 x5 x7 x8 md k50 = some (o_md) → (∀ (x1 : Int32) (x2 : Int32) (x3 : Int32) (x4 : Int32) (x5 : Int64) (x7 : Int32) (md : MdS) (H : Heap) (locs : List Loc) (ls : Array Slot), lv_has ls 9 [(0, .ref (a_md 0)), (1, .int x1), (2, .int x2), (3, .int x3), (4, .int x4), (5, .long x5), (7, .int x7)] → In g A s.heap s (wMd g a_md q_md_tangle q_md_read md ++ []) H locs → k50 x1 x2 x3 x4 x5 x7 md = some (o_md) → W p l e rm_X13_laysWays s m args below meth c H locs 0 0 Q (F0 m 50 ls [])) → W p l e rm_X13_laysWays s m args below meth c H locs 0 0 Q (F0 m 87 ls []) := by
    intro n_
    induction n_ with
    | zero =>
      intro x1 x2 x3 x4 x5 x7 x8 md k50 H locs ls hl hI hf hk50
      rw [f_X13_laysWays_L87] at hf
      cases hf
    | succ n_ ih =>
      intro x1 x2 x3 x4 x5 x7 x8 md k50 H locs ls hl hI hf hk50
      rw [f_X13_laysWays_L87] at hf
      refine lv_iload hx hb dX13_laysWays_87 (lv_at hl 7 rfl) ?_
      refine lv_iload hx hb dX13_laysWays_89 (lv_at hl 4 rfl) ?_
      refine lv_icmp_gt (tgt := 147) hx hb dX13_laysWays_91 (by decide) (fun h_ => ?_) (fun h_ => ?_)
      · replace hf := if_t h_ hf
        exact L_147 x1 x2 x3 x4 x5 x7 md _ _ _ _ (lv_sub hl [0, 1, 2, 3, 4, 5, 6] rfl) hI hf hk50
      · replace hf := if_f h_ hf
        refine lv_aload_n hx hb dX13_laysWays_94 rfl (lv_at hl 0 rfl) ?_
        refine g_Md_ways X hI has_Md.l (X.fl w_1613) dX13_laysWays_95 ?_
        refine lv_iload_n hx hb dX13_laysWays_98 rfl (lv_at hl 3 rfl) ?_
        refine lv_iload hx hb dX13_laysWays_99 (lv_at hl 4 rfl) ?_
        refine lv_imul hx hb dX13_laysWays_101 ?_
        refine lv_iload hx hb dX13_laysWays_102 (lv_at hl 7 rfl) ?_
        refine lv_iadd hx hb dX13_laysWays_104 ?_
        refine lv_dup2_11 hx hb dX13_laysWays_105 rfl rfl ?_
        obtain ⟨h_, hf⟩ := ck_someM hf
        refine ld_J X hI has_Md_ways.l h_ dX13_laysWays_106 ?_
        refine lv_iload hx hb dX13_laysWays_107 (lv_at hl 4 rfl) ?_
        refine lv_iconst (v := 1) hx hb dX13_laysWays_109 (by decide) ?_
        refine lv_isub hx hb dX13_laysWays_110 ?_
        refine lv_iload hx hb dX13_laysWays_111 (lv_at hl 6 rfl) ?_
        refine lv_iconst (v := 1) hx hb dX13_laysWays_113 (by decide) ?_
        refine lv_isub hx hb dX13_laysWays_114 ?_
        obtain ⟨r_7, hc_, hf⟩ := bd1_some hf
        refine call_Sl X hI Cj.nil (c_X13_chosen l g (x4 - (1 : Int32)) (x7 - (1 : Int32)) r_7 hc_) ⟨rfl, rfl⟩ ⟨ht _ w_2327, w_2329, ht _ w_155, lk_X13_chosen⟩ w_2328 rfl hl rfl rfl dX13_laysWays_115 rfl rfl rfl rfl (fun H locs hI => ?_)
        refine lv_lload hx hb dX13_laysWays_118 (lv_at hl 5 rfl) ?_
        refine lv_lmul hx hb dX13_laysWays_120 ?_
        refine lv_aload_n hx hb dX13_laysWays_121 rfl (lv_at hl 0 rfl) ?_
        refine g_Md_ways X hI has_Md.l (X.fl w_1613) dX13_laysWays_122 ?_
        refine lv_iload_n hx hb dX13_laysWays_125 rfl (lv_at hl 3 rfl) ?_
        refine lv_iload hx hb dX13_laysWays_126 (lv_at hl 4 rfl) ?_
        refine lv_iload hx hb dX13_laysWays_128 (lv_at hl 6 rfl) ?_
        refine lv_isub hx hb dX13_laysWays_130 ?_
        refine lv_imul hx hb dX13_laysWays_131 ?_
        refine lv_iload hx hb dX13_laysWays_132 (lv_at hl 7 rfl) ?_
        refine lv_iadd hx hb dX13_laysWays_134 ?_
        refine lv_iconst (v := 1) hx hb dX13_laysWays_135 (by decide) ?_
        refine lv_isub hx hb dX13_laysWays_136 ?_
        obtain ⟨h_, hf⟩ := ck_someM hf
        refine ld_J X hI has_Md_ways.l h_ dX13_laysWays_137 ?_
        refine lv_lmul hx hb dX13_laysWays_138 ?_
        refine lv_ladd hx hb dX13_laysWays_139 ?_
        obtain ⟨h_, hf⟩ := ck_someM hf
        refine st_J X hI up_Md_ways.l h_ dX13_laysWays_140 (fun H locs hI => ?_)
        generalize hz_ : (Md_ways' md (vp_updL (Md_ways md) (Int32.toNatClampNeg ((x3 * x4) + x8)) ((Md_ways md (Int32.toNatClampNeg ((x3 * x4) + x8))) + ((r_7 * x5) * (Md_ways md (Int32.toNatClampNeg (((x3 * (x4 - x7)) + x8) - (1 : Int32)))))))) = md_8 at hI hf
        clear hz_
        replace hf := lt_e hf
        obtain ⟨v_9, e_⟩ : ∃ y : Int32, y = (x8 + (1 : Int32)) := ⟨_, rfl⟩
        replace hf := lt_to e_ hf
        refine lv_iinc (v := v_9) (lv' := [(8, .int v_9), (0, .ref (a_md 0)), (1, .int x1), (2, .int x2), (3, .int x3), (4, .int x4), (5, .long x5), (7, .int x7)]) hx hb dX13_laysWays_141 hl (k := 7) rfl (by rw [e_]; rfl) (by decide) rfl (fun ls hl => ?_)
        clear e_
        refine lv_goto (tgt := 87) hx hb dX13_laysWays_144 (by decide) ?_
        exact ih x1 x2 x3 x4 x5 x7 v_9 md_8 k50 _ _ _ (lv_sub hl [1, 2, 3, 4, 5, 6, 7, 0] rfl) hI hf hk50
  have L_84 : ∀ (x1 : Int32) (x2 : Int32) (x3 : Int32) (x4 : Int32) (x5 : Int64) (x7 : Int32) (md : MdS) (k50 : (Int32) → (Int32) → (Int32) → (Int32) → (Int64) → (Int32) → (MdS) → Option ((MdS))) (H : Heap) (locs : List Loc) (ls : Array Slot), lv_has ls 9 [(0, .ref (a_md 0)), (1, .int x1), (2, .int x2), (3, .int x3), (4, .int x4), (5, .long x5), (7, .int x7)] → In g A s.heap s (wMd g a_md q_md_tangle q_md_read md ++ []) H locs → f_X13_laysWays_L84 x1 x2 x3 x4 x5 x7 md k50 = some (o_md) → (∀ (x1 : Int32) (x2 : Int32) (x3 : Int32) (x4 : Int32) (x5 : Int64) (x7 : Int32) (md : MdS) (H : Heap) (locs : List Loc) (ls : Array Slot), lv_has ls 9 [(0, .ref (a_md 0)), (1, .int x1), (2, .int x2), (3, .int x3), (4, .int x4), (5, .long x5), (7, .int x7)] → In g A s.heap s (wMd g a_md q_md_tangle q_md_read md ++ []) H locs → k50 x1 x2 x3 x4 x5 x7 md = some (o_md) → W p l e rm_X13_laysWays s m args below meth c H locs 0 0 Q (F0 m 50 ls [])) → W p l e rm_X13_laysWays s m args below meth c H locs 0 0 Q (F0 m 84 ls []) := by
    intro x1 x2 x3 x4 x5 x7 md k50 H locs ls hl hI hf hk50
    unfold f_X13_laysWays_L84 at hf
    refine lv_iconst (v := 1) hx hb dX13_laysWays_84 (by decide) ?_
    refine lv_istore (lv' := [(8, .int (1 : Int32)), (0, .ref (a_md 0)), (1, .int x1), (2, .int x2), (3, .int x3), (4, .int x4), (5, .long x5), (7, .int x7)]) hx hb dX13_laysWays_85 hl (by decide) rfl (fun ls hl => ?_)
    exact L_87 FU x1 x2 x3 x4 x5 x7 (1 : Int32) md _ _ _ _ (lv_sub hl [1, 2, 3, 4, 5, 6, 7, 0] rfl) hI hf hk50
  have L_50 : ∀ (n_ : Nat) (x1 : Int32) (x2 : Int32) (x3 : Int32) (x4 : Int32) (x5 : Int64) (x7 : Int32) (md : MdS) (k38 : (Int32) → (Int32) → (Int32) → (Int32) → (MdS) → Option ((MdS))) (H : Heap) (locs : List Loc) (ls : Array Slot), lv_has ls 9 [(0, .ref (a_md 0)), (1, .int x1), (2, .int x2), (3, .int x3), (4, .int x4), (5, .long x5), (7, .int x7)] → In g A s.heap s (wMd g a_md q_md_tangle q_md_read md ++ []) H locs → f_X13_laysWays_L50 n_ x1 x2 x3 x4 x5 x7 md k38 = some (o_md) → (∀ (x1 : Int32) (x2 : Int32) (x3 : Int32) (x4 : Int32) (md : MdS) (H : Heap) (locs : List Loc) (ls : Array Slot), lv_has ls 9 [(0, .ref (a_md 0)), (1, .int x1), (2, .int x2), (3, .int x3), (4, .int x4)] → In g A s.heap s (wMd g a_md q_md_tangle q_md_read md ++ []) H locs → k38 x1 x2 x3 x4 md = some (o_md) → W p l e rm_X13_laysWays s m args below meth c H locs 0 0 Q (F0 m 38 ls [])) → W p l e rm_X13_laysWays s m args below meth c H locs 0 0 Q (F0 m 50 ls []) := by
    intro n_
    induction n_ with
    | zero =>
      intro x1 x2 x3 x4 x5 x7 md k38 H locs ls hl hI hf hk38
      rw [f_X13_laysWays_L50] at hf
      cases hf
    | succ n_ ih =>
      intro x1 x2 x3 x4 x5 x7 md k38 H locs ls hl hI hf hk38
      rw [f_X13_laysWays_L50] at hf
      refine lv_iload hx hb dX13_laysWays_50 (lv_at hl 6 rfl) ?_
      refine lv_iload hx hb dX13_laysWays_52 (lv_at hl 4 rfl) ?_
      refine lv_icmp_gt (tgt := 153) hx hb dX13_laysWays_54 (by decide) (fun h_ => ?_) (fun h_ => ?_)
      · replace hf := if_t h_ hf
        obtain ⟨v_4, e_⟩ : ∃ y : Int32, y = (x4 + (1 : Int32)) := ⟨_, rfl⟩
        replace hf := lt_to e_ hf
        refine lv_iinc (v := v_4) (lv' := [(4, .int v_4), (0, .ref (a_md 0)), (1, .int x1), (2, .int x2), (3, .int x3), (5, .long x5), (7, .int x7)]) hx hb dX13_laysWays_153 hl (k := 4) rfl (by rw [e_]; rfl) (by decide) rfl (fun ls hl => ?_)
        clear e_
        refine lv_goto (tgt := 38) hx hb dX13_laysWays_156 (by decide) ?_
        exact hk38 x1 x2 x3 v_4 md _ _ _ (lv_sub hl [1, 2, 3, 4, 0] rfl) hI hf
      · replace hf := if_f h_ hf
        refine lv_lload hx hb dX13_laysWays_57 (lv_at hl 5 rfl) ?_
        refine lv_ldc2 (v := 2) hx hb hown (ht _ w_2326) dX13_laysWays_59 ?_
        refine lv_iload hx hb dX13_laysWays_62 (lv_at hl 6 rfl) ?_
        refine lv_iconst (v := 1) hx hb dX13_laysWays_64 (by decide) ?_
        refine lv_isub hx hb dX13_laysWays_65 ?_
        refine lv_i2l hx hb dX13_laysWays_66 rfl ?_
        refine lv_lmul hx hb dX13_laysWays_67 ?_
        refine lv_lmul hx hb dX13_laysWays_68 ?_
        refine lv_topl (fun v_5 e_ => ?_)
        replace hf := lt_to e_ hf
        clear e_
        refine lv_lstore (lv' := [(5, .long v_5), (0, .ref (a_md 0)), (1, .int x1), (2, .int x2), (3, .int x3), (4, .int x4), (7, .int x7)]) hx hb dX13_laysWays_69 hl (by decide) rfl (fun ls hl => ?_)
        refine lv_iload_n hx hb dX13_laysWays_71 rfl (lv_at hl 3 rfl) ?_
        refine lv_if_eq (tgt := 84) hx hb dX13_laysWays_72 (by decide) (fun h_ => ?_) (fun h_ => ?_)
        · replace hf := if_t h_ hf
          exact L_84 x1 x2 x3 x4 v_5 x7 md _ _ _ _ (lv_sub hl [1, 2, 3, 4, 5, 0, 6] rfl) hI hf (fun z_0 z_1 z_2 z_3 z_4 z_5 z_6 _ _ _ hl hI hf => ih z_0 z_1 z_2 z_3 z_4 z_5 z_6 k38 _ _ _ hl hI hf hk38)
        · replace hf := if_f h_ hf
          refine lv_iload hx hb dX13_laysWays_75 (lv_at hl 6 rfl) ?_
          refine lv_iconst (v := 2) hx hb dX13_laysWays_77 (by decide) ?_
          refine lv_icmp_ne (tgt := 84) hx hb dX13_laysWays_78 (by decide) (fun h_ => ?_) (fun h_ => ?_)
          · replace hf := if_f h_ hf
            exact L_84 x1 x2 x3 x4 v_5 x7 md _ _ _ _ (lv_sub hl [1, 2, 3, 4, 5, 0, 6] rfl) hI hf (fun z_0 z_1 z_2 z_3 z_4 z_5 z_6 _ _ _ hl hI hf => ih z_0 z_1 z_2 z_3 z_4 z_5 z_6 k38 _ _ _ hl hI hf hk38)
          · replace hf := if_t h_ hf
            refine lv_goto (tgt := 147) hx hb dX13_laysWays_81 (by decide) ?_
            exact L_147 x1 x2 x3 x4 v_5 x7 md _ _ _ _ (lv_sub hl [1, 2, 3, 4, 5, 0, 6] rfl) hI hf (fun z_0 z_1 z_2 z_3 z_4 z_5 z_6 _ _ _ hl hI hf => ih z_0 z_1 z_2 z_3 z_4 z_5 z_6 k38 _ _ _ hl hI hf hk38)
  have L_38 : ∀ (n_ : Nat) (x1 : Int32) (x2 : Int32) (x3 : Int32) (x4 : Int32) (md : MdS) (H : Heap) (locs : List Loc) (ls : Array Slot), lv_has ls 9 [(0, .ref (a_md 0)), (1, .int x1), (2, .int x2), (3, .int x3), (4, .int x4)] → In g A s.heap s (wMd g a_md q_md_tangle q_md_read md ++ []) H locs → f_X13_laysWays_L38 n_ x1 x2 x3 x4 md = some (o_md) → W p l e rm_X13_laysWays s m args below meth c H locs 0 0 Q (F0 m 38 ls []) := by
    intro n_
    induction n_ with
    | zero =>
      intro x1 x2 x3 x4 md H locs ls hl hI hf
      rw [f_X13_laysWays_L38] at hf
      cases hf
    | succ n_ ih =>
      intro x1 x2 x3 x4 md H locs ls hl hI hf
      rw [f_X13_laysWays_L38] at hf
      refine lv_iload hx hb dX13_laysWays_38 (lv_at hl 4 rfl) ?_
      refine lv_iload_n hx hb dX13_laysWays_40 rfl (lv_at hl 1 rfl) ?_
      refine lv_icmp_gt (tgt := 159) hx hb dX13_laysWays_41 (by decide) (fun h_ => ?_) (fun h_ => ?_)
      · replace hf := if_t h_ hf
        cases hf
        exact end_v hQ hA X hI dX13_laysWays_159
      · replace hf := if_f h_ hf
        refine lv_lconst (v := 1) hx hb dX13_laysWays_44 (by decide) ?_
        refine lv_lstore (lv' := [(5, .long (1 : Int64)), (0, .ref (a_md 0)), (1, .int x1), (2, .int x2), (3, .int x3), (4, .int x4)]) hx hb dX13_laysWays_45 hl (by decide) rfl (fun ls hl => ?_)
        refine lv_iconst (v := 2) hx hb dX13_laysWays_47 (by decide) ?_
        refine lv_istore (lv' := [(7, .int (2 : Int32)), (5, .long (1 : Int64)), (0, .ref (a_md 0)), (1, .int x1), (2, .int x2), (3, .int x3), (4, .int x4)]) hx hb dX13_laysWays_48 hl (by decide) rfl (fun ls hl => ?_)
        exact L_50 FU x1 x2 x3 x4 (1 : Int64) (2 : Int32) md _ _ _ _ (lv_sub hl [2, 3, 4, 5, 6, 1, 0] rfl) hI hf (fun z_0 z_1 z_2 z_3 z_4 _ _ _ hl hI hf => ih z_0 z_1 z_2 z_3 z_4 _ _ _ hl hI hf)
  have L_6 : ∀ (n_ : Nat) (x1 : Int32) (x2 : Int32) (x3 : Int32) (x4 : Int32) (md : MdS) (H : Heap) (locs : List Loc) (ls : Array Slot), lv_has ls 9 [(0, .ref (a_md 0)), (1, .int x1), (2, .int x2), (3, .int x3), (4, .int x4)] → In g A s.heap s (wMd g a_md q_md_tangle q_md_read md ++ []) H locs → f_X13_laysWays_L6 n_ x1 x2 x3 x4 md = some (o_md) → W p l e rm_X13_laysWays s m args below meth c H locs 0 0 Q (F0 m 6 ls []) := by
    intro n_
    induction n_ with
    | zero =>
      intro x1 x2 x3 x4 md H locs ls hl hI hf
      rw [f_X13_laysWays_L6] at hf
      cases hf
    | succ n_ ih =>
      intro x1 x2 x3 x4 md H locs ls hl hI hf
      rw [f_X13_laysWays_L6] at hf
      refine lv_iload hx hb dX13_laysWays_6 (lv_at hl 4 rfl) ?_
      refine lv_iload_n hx hb dX13_laysWays_8 rfl (lv_at hl 3 rfl) ?_
      refine lv_iload_n hx hb dX13_laysWays_9 rfl (lv_at hl 3 rfl) ?_
      refine lv_imul hx hb dX13_laysWays_10 ?_
      refine lv_icmp_ge (tgt := 28) hx hb dX13_laysWays_11 (by decide) (fun h_ => ?_) (fun h_ => ?_)
      · replace hf := if_t h_ hf
        refine lv_aload_n hx hb dX13_laysWays_28 rfl (lv_at hl 0 rfl) ?_
        refine g_Md_ways X hI has_Md.l (X.fl w_1613) dX13_laysWays_29 ?_
        refine lv_iconst (v := 0) hx hb dX13_laysWays_32 (by decide) ?_
        refine lv_lconst (v := 1) hx hb dX13_laysWays_33 (by decide) ?_
        obtain ⟨h_, hf⟩ := ck_someM hf
        refine st_J X hI up_Md_ways.l h_ dX13_laysWays_34 (fun H locs hI => ?_)
        generalize hz_ : (Md_ways' md (vp_updL (Md_ways md) (Int32.toNatClampNeg (0 : Int32)) (1 : Int64))) = md_1 at hI hf
        clear hz_
        replace hf := lt_e hf
        refine lv_iconst (v := 1) hx hb dX13_laysWays_35 (by decide) ?_
        refine lv_istore (lv' := [(4, .int (1 : Int32)), (0, .ref (a_md 0)), (1, .int x1), (2, .int x2), (3, .int x3)]) hx hb dX13_laysWays_36 hl (by decide) rfl (fun ls hl => ?_)
        exact L_38 FU x1 x2 x3 (1 : Int32) md_1 _ _ _ (lv_sub hl [1, 2, 3, 4, 0] rfl) hI hf
      · replace hf := if_f h_ hf
        refine lv_aload_n hx hb dX13_laysWays_14 rfl (lv_at hl 0 rfl) ?_
        refine g_Md_ways X hI has_Md.l (X.fl w_1613) dX13_laysWays_15 ?_
        refine lv_iload hx hb dX13_laysWays_18 (lv_at hl 4 rfl) ?_
        refine lv_lconst (v := 0) hx hb dX13_laysWays_20 (by decide) ?_
        obtain ⟨h_, hf⟩ := ck_someM hf
        refine st_J X hI up_Md_ways.l h_ dX13_laysWays_21 (fun H locs hI => ?_)
        generalize hz_ : (Md_ways' md (vp_updL (Md_ways md) (Int32.toNatClampNeg x4) (0 : Int64))) = md_2 at hI hf
        clear hz_
        replace hf := lt_e hf
        obtain ⟨v_3, e_⟩ : ∃ y : Int32, y = (x4 + (1 : Int32)) := ⟨_, rfl⟩
        replace hf := lt_to e_ hf
        refine lv_iinc (v := v_3) (lv' := [(4, .int v_3), (0, .ref (a_md 0)), (1, .int x1), (2, .int x2), (3, .int x3)]) hx hb dX13_laysWays_22 hl (k := 4) rfl (by rw [e_]; rfl) (by decide) rfl (fun ls hl => ?_)
        clear e_
        refine lv_goto (tgt := 6) hx hb dX13_laysWays_25 (by decide) ?_
        exact ih x1 x2 x3 v_3 md_2 _ _ _ (lv_sub hl [1, 2, 3, 4, 0] rfl) hI hf
  unfold f_X13_laysWays at hf
  refine lv_bipush (v := 14) hx hb dX13_laysWays_0 (by decide) ?_
  refine lv_istore_n (lv' := [(3, .int (14 : Int32)), (0, .ref (a_md 0)), (1, .int p1), (2, .int p2)]) hx hb dX13_laysWays_2 rfl hl (by decide) rfl (fun ls hl => ?_)
  refine lv_iconst (v := 0) hx hb dX13_laysWays_3 (by decide) ?_
  refine lv_istore (lv' := [(4, .int (0 : Int32)), (3, .int (14 : Int32)), (0, .ref (a_md 0)), (1, .int p1), (2, .int p2)]) hx hb dX13_laysWays_4 hl (by decide) rfl (fun ls hl => ?_)
  exact L_6 FU p1 p2 (14 : Int32) (0 : Int32) md _ _ _ (lv_sub hl [2, 3, 4, 1, 0] rfl) hI hf
abbrev rm_X13_waysNow : Room := { frames := 0, cells := 0, slots := 0, locals := 0 }
set_option maxRecDepth 20000 in
theorem c_X13_waysNow (l : Launch) (g : GT) (a_md : Nat → Nat) (q_md_tangle : Option Nat) (q_md_read : Option Nat) (md : MdS) (p1 : Int32) (p2 : Int32) (r_ : Int64) (hf : f_X13_waysNow md p1 p2 = some (r_)) : CL l yX13_waysNow cX13_waysNow 3 (some .long) rm_X13_waysNow g [.ref (a_md 0), .int p1, .int p2] (wMd g a_md q_md_tangle q_md_read md ++ []) (wMd g a_md q_md_tangle q_md_read md ++ []) r_ := by
  refine start2 (y := yX13_waysNow) (cc := cX13_waysNow) (n := 3) (av := [.ref (a_md 0), .int p1, .int p2]) (ws := (wMd g a_md q_md_tangle q_md_read md ++ [])) (Qc := fun sz => QL g (wMd g a_md q_md_tangle q_md_read md ++ []) (wMd g a_md q_md_tangle q_md_read md ++ []) r_ sz) (by decide) rfl ?_
  intro p e s m args below meth c ls Q A ha hQ hA X hl hI hin
  have X : Cx p s m args meth c cX13_waysNow 3 RX13 (some .long) := X
  have hl : lv_has ls 3 [(0, .ref (a_md 0)), (1, .int p1), (2, .int p2)] := hl
  obtain ⟨hx, hb, hml, hown, ht, hr, hlk⟩ := id X
  clear ha hin
  unfold f_X13_waysNow at hf
  refine lv_aload_n hx hb dX13_waysNow_0 rfl (lv_at hl 0 rfl) ?_
  refine g_Md_ways X hI has_Md.l (X.fl w_1613) dX13_waysNow_1 ?_
  refine lv_bipush (v := 14) hx hb dX13_waysNow_4 (by decide) ?_
  refine lv_iload_n hx hb dX13_waysNow_6 rfl (lv_at hl 1 rfl) ?_
  refine lv_imul hx hb dX13_waysNow_7 ?_
  refine lv_iload_n hx hb dX13_waysNow_8 rfl (lv_at hl 2 rfl) ?_
  refine lv_iadd hx hb dX13_waysNow_9 ?_
  obtain ⟨h_, hf⟩ := ck_someM hf
  refine ld_J X hI has_Md_ways.l h_ dX13_waysNow_10 ?_
  cases hf
  exact end_l hQ hA X hI dX13_waysNow_11
