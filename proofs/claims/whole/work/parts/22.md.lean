abbrev rm_X13_isMove : Room := { frames := 1, cells := 0, slots := 0, locals := 20 }
set_option maxRecDepth 20000 in
theorem c_X13_isMove (l : Launch) (g : GT) (a_md : Nat → Nat) (a_tn : Nat → Nat) (q_md_read : Option Nat) (md : MdS) (tn : TnS) (p1 : Int32) (r_ : Int32) (hf : f_X13_isMove tn p1 = some (r_)) : CI l yX13_isMove cX13_isMove 5 (some .boolean) rm_X13_isMove g [.ref (a_md 0), .int p1] (wMd g a_md (some (a_tn 0)) q_md_read md ++ (wTn g a_tn tn ++ [])) (wMd g a_md (some (a_tn 0)) q_md_read md ++ (wTn g a_tn tn ++ [])) r_ := by
  refine start2 (y := yX13_isMove) (cc := cX13_isMove) (n := 5) (av := [.ref (a_md 0), .int p1]) (ws := (wMd g a_md (some (a_tn 0)) q_md_read md ++ (wTn g a_tn tn ++ []))) (Qc := fun sz => QI g (wMd g a_md (some (a_tn 0)) q_md_read md ++ (wTn g a_tn tn ++ [])) (wMd g a_md (some (a_tn 0)) q_md_read md ++ (wTn g a_tn tn ++ [])) r_ sz) (by decide) rfl ?_
  intro p e s m args below meth c ls Q A ha hQ hA X hl hI hin
  have X : Cx p s m args meth c cX13_isMove 5 RX13 (some .boolean) := X
  have hl : lv_has ls 5 [(0, .ref (a_md 0)), (1, .int p1)] := hl
  obtain ⟨hx, hb, hml, hown, ht, hr, hlk⟩ := id X
  clear ha hin
  unfold f_X13_isMove at hf
  refine lv_aload_n hx hb dX13_isMove_0 rfl (lv_at hl 0 rfl) ?_
  refine g_Md_tangle_S X hI has_Md.l (X.fl w_1586) dX13_isMove_1 ?_
  refine lv_ifnull hx hb dX13_isMove_4 ?_
  refine lv_iload_n hx hb dX13_isMove_7 rfl (lv_at hl 1 rfl) ?_
  refine lv_if_lt (tgt := 18) hx hb dX13_isMove_8 (by decide) (fun h_ => ?_) (fun h_ => ?_)
  · replace hf := if_t h_ hf
    refine lv_iconst (v := 0) hx hb dX13_isMove_18 (by decide) ?_
    cases hf
    exact end_z hQ hA X hI rfl dX13_isMove_19
  · replace hf := if_f h_ hf
    refine lv_iload_n hx hb dX13_isMove_11 rfl (lv_at hl 1 rfl) ?_
    refine lv_sipush (v := 1999) hx hb dX13_isMove_12 (by decide) ?_
    refine lv_icmp_le (tgt := 20) hx hb dX13_isMove_15 (by decide) (fun h_ => ?_) (fun h_ => ?_)
    · replace hf := if_t h_ hf
      refine lv_aload_n hx hb dX13_isMove_20 rfl (lv_at hl 0 rfl) ?_
      refine g_Md_tangle_S X hI has_Md.l (X.fl w_1586) dX13_isMove_21 ?_
      refine g_Tn_crossings X hI has_Tn.l.r (hI.fn (List.mem_of_getElem? (i := 82) rfl)) dX13_isMove_24 ?_
      refine lv_topi (fun v_1 e_ => ?_)
      replace hf := lt_to e_ hf
      clear e_
      refine lv_istore_n (lv' := [(2, .int v_1), (0, .ref (a_md 0)), (1, .int p1)]) hx hb dX13_isMove_27 rfl hl (by decide) rfl (fun ls hl => ?_)
      refine lv_iload_n hx hb dX13_isMove_28 rfl (lv_at hl 2 rfl) ?_
      refine lv_bipush (v := 10) hx hb dX13_isMove_29 (by decide) ?_
      refine lv_idiv hx hb dX13_isMove_31 (by decide) ?_
      refine lv_bipush (v := 10) hx hb dX13_isMove_32 (by decide) ?_
      refine lv_irem hx hb dX13_isMove_34 (by decide) ?_
      refine lv_topi (fun v_2 e_ => ?_)
      replace hf := lt_to e_ hf
      clear e_
      refine lv_istore_n (lv' := [(3, .int v_2), (2, .int v_1), (0, .ref (a_md 0)), (1, .int p1)]) hx hb dX13_isMove_35 rfl hl (by decide) rfl (fun ls hl => ?_)
      refine lv_iload_n hx hb dX13_isMove_36 rfl (lv_at hl 3 rfl) ?_
      refine lv_bipush (v := 10) hx hb dX13_isMove_37 (by decide) ?_
      refine lv_irem hx hb dX13_isMove_39 (by decide) ?_
      refine lv_topi (fun v_3 e_ => ?_)
      replace hf := lt_to e_ hf
      clear e_
      refine lv_istore (lv' := [(4, .int v_3), (3, .int v_2), (2, .int v_1), (0, .ref (a_md 0)), (1, .int p1)]) hx hb dX13_isMove_40 hl (by decide) rfl (fun ls hl => ?_)
      refine lv_iload_n hx hb dX13_isMove_42 rfl (lv_at hl 4 rfl) ?_
      obtain ⟨r_4, hc_, hf⟩ := bd1_some hf
      refine call_Si X hI Cj.nil (c_X13_kindOf l g p1 r_4 hc_) ⟨rfl, rfl⟩ ⟨ht _ w_2111, w_2113, ht _ w_155, lk_X13_kindOf⟩ w_2112 rfl hl rfl rfl dX13_isMove_43 rfl rfl rfl rfl (fun H locs hI => ?_)
      by_cases h0_ : r_4 = (0 : Int32)
      · replace hf := if_t h0_ hf
        refine lv_lookup (tgt := 72) (off := 26) hx hb dX13_isMove_46 (by decide) (by rw [h0_]; rfl) (by decide) ?_
        refine lv_iload_n hx hb dX13_isMove_72 rfl (lv_at hl 4 rfl) ?_
        refine lv_iload_n hx hb dX13_isMove_73 rfl (lv_at hl 2 rfl) ?_
        refine lv_icmp_ge (tgt := 81) hx hb dX13_isMove_74 (by decide) (fun h_ => ?_) (fun h_ => ?_)
        · replace hf := if_t h_ hf
          refine lv_iconst (v := 0) hx hb dX13_isMove_81 (by decide) ?_
          cases hf
          exact end_z hQ hA X hI rfl dX13_isMove_82
        · replace hf := if_f h_ hf
          refine lv_iconst (v := 1) hx hb dX13_isMove_77 (by decide) ?_
          refine lv_goto (tgt := 82) hx hb dX13_isMove_78 (by decide) ?_
          cases hf
          exact end_z hQ hA X hI rfl dX13_isMove_82
      · replace hf := if_f h0_ hf
        by_cases h1_ : r_4 = (1 : Int32)
        · replace hf := if_t h1_ hf
          refine lv_lookup (tgt := 83) (off := 37) hx hb dX13_isMove_46 (by decide) (by rw [h1_]; rfl) (by decide) ?_
          refine lv_iload_n hx hb dX13_isMove_83 rfl (lv_at hl 4 rfl) ?_
          refine lv_sipush (v := 200) hx hb dX13_isMove_84 (by decide) ?_
          refine lv_icmp_ge (tgt := 106) hx hb dX13_isMove_87 (by decide) (fun h_ => ?_) (fun h_ => ?_)
          · replace hf := if_t h_ hf
            refine lv_iconst (v := 0) hx hb dX13_isMove_106 (by decide) ?_
            cases hf
            exact end_z hQ hA X hI rfl dX13_isMove_107
          · replace hf := if_f h_ hf
            refine lv_iload_n hx hb dX13_isMove_90 rfl (lv_at hl 1 rfl) ?_
            refine lv_iload hx hb dX13_isMove_91 (lv_at hl 0 rfl) ?_
            refine lv_icmp_ge (tgt := 106) hx hb dX13_isMove_93 (by decide) (fun h_ => ?_) (fun h_ => ?_)
            · replace hf := if_t h_ hf
              refine lv_iconst (v := 0) hx hb dX13_isMove_106 (by decide) ?_
              cases hf
              exact end_z hQ hA X hI rfl dX13_isMove_107
            · replace hf := if_f h_ hf
              refine lv_iload hx hb dX13_isMove_96 (lv_at hl 0 rfl) ?_
              refine lv_iload_n hx hb dX13_isMove_98 rfl (lv_at hl 2 rfl) ?_
              refine lv_icmp_ge (tgt := 106) hx hb dX13_isMove_99 (by decide) (fun h_ => ?_) (fun h_ => ?_)
              · replace hf := if_t h_ hf
                refine lv_iconst (v := 0) hx hb dX13_isMove_106 (by decide) ?_
                cases hf
                exact end_z hQ hA X hI rfl dX13_isMove_107
              · replace hf := if_f h_ hf
                refine lv_iconst (v := 1) hx hb dX13_isMove_102 (by decide) ?_
                refine lv_goto (tgt := 107) hx hb dX13_isMove_103 (by decide) ?_
                cases hf
                exact end_z hQ hA X hI rfl dX13_isMove_107
        · replace hf := if_f h1_ hf
          refine lv_lookup (tgt := 108) (off := 62) hx hb dX13_isMove_46 (by decide) (by have q0 := sw_ne h0_ (j := 0) (by decide); have q1 := sw_ne h1_ (j := 1) (by decide); simp only [lookupswitch.offset_cons, lookupswitch.offset_nil]; rw [if_neg (by omega)]; rw [if_neg (by omega)]) (by decide) ?_
          refine lv_iload_n hx hb dX13_isMove_108 rfl (lv_at hl 4 rfl) ?_
          refine lv_bipush (v := 100) hx hb dX13_isMove_109 (by decide) ?_
          refine lv_idiv hx hb dX13_isMove_111 (by decide) ?_
          refine lv_bipush (v := 10) hx hb dX13_isMove_112 (by decide) ?_
          refine lv_irem hx hb dX13_isMove_114 (by decide) ?_
          refine lv_iload_n hx hb dX13_isMove_115 rfl (lv_at hl 2 rfl) ?_
          refine lv_icmp_ge (tgt := 163) hx hb dX13_isMove_116 (by decide) (fun h_ => ?_) (fun h_ => ?_)
          · replace hf := if_t h_ hf
            refine lv_iconst (v := 0) hx hb dX13_isMove_163 (by decide) ?_
            cases hf
            exact end_z hQ hA X hI rfl dX13_isMove_164
          · replace hf := if_f h_ hf
            refine lv_iload_n hx hb dX13_isMove_119 rfl (lv_at hl 1 rfl) ?_
            refine lv_iload_n hx hb dX13_isMove_120 rfl (lv_at hl 2 rfl) ?_
            refine lv_icmp_ge (tgt := 163) hx hb dX13_isMove_121 (by decide) (fun h_ => ?_) (fun h_ => ?_)
            · replace hf := if_t h_ hf
              refine lv_iconst (v := 0) hx hb dX13_isMove_163 (by decide) ?_
              cases hf
              exact end_z hQ hA X hI rfl dX13_isMove_164
            · replace hf := if_f h_ hf
              refine lv_iload hx hb dX13_isMove_124 (lv_at hl 0 rfl) ?_
              refine lv_iload_n hx hb dX13_isMove_126 rfl (lv_at hl 2 rfl) ?_
              refine lv_icmp_ge (tgt := 163) hx hb dX13_isMove_127 (by decide) (fun h_ => ?_) (fun h_ => ?_)
              · replace hf := if_t h_ hf
                refine lv_iconst (v := 0) hx hb dX13_isMove_163 (by decide) ?_
                cases hf
                exact end_z hQ hA X hI rfl dX13_isMove_164
              · replace hf := if_f h_ hf
                refine lv_iload_n hx hb dX13_isMove_130 rfl (lv_at hl 1 rfl) ?_
                refine lv_iload hx hb dX13_isMove_131 (lv_at hl 0 rfl) ?_
                refine lv_icmp_eq (tgt := 163) hx hb dX13_isMove_133 (by decide) (fun h_ => ?_) (fun h_ => ?_)
                · replace hf := if_t h_ hf
                  refine lv_iconst (v := 0) hx hb dX13_isMove_163 (by decide) ?_
                  cases hf
                  exact end_z hQ hA X hI rfl dX13_isMove_164
                · replace hf := if_f h_ hf
                  refine lv_iload_n hx hb dX13_isMove_136 rfl (lv_at hl 4 rfl) ?_
                  refine lv_bipush (v := 100) hx hb dX13_isMove_137 (by decide) ?_
                  refine lv_idiv hx hb dX13_isMove_139 (by decide) ?_
                  refine lv_bipush (v := 10) hx hb dX13_isMove_140 (by decide) ?_
                  refine lv_irem hx hb dX13_isMove_142 (by decide) ?_
                  refine lv_iload_n hx hb dX13_isMove_143 rfl (lv_at hl 1 rfl) ?_
                  refine lv_icmp_eq (tgt := 163) hx hb dX13_isMove_144 (by decide) (fun h_ => ?_) (fun h_ => ?_)
                  · replace hf := if_t h_ hf
                    refine lv_iconst (v := 0) hx hb dX13_isMove_163 (by decide) ?_
                    cases hf
                    exact end_z hQ hA X hI rfl dX13_isMove_164
                  · replace hf := if_f h_ hf
                    refine lv_iload_n hx hb dX13_isMove_147 rfl (lv_at hl 4 rfl) ?_
                    refine lv_bipush (v := 100) hx hb dX13_isMove_148 (by decide) ?_
                    refine lv_idiv hx hb dX13_isMove_150 (by decide) ?_
                    refine lv_bipush (v := 10) hx hb dX13_isMove_151 (by decide) ?_
                    refine lv_irem hx hb dX13_isMove_153 (by decide) ?_
                    refine lv_iload hx hb dX13_isMove_154 (lv_at hl 0 rfl) ?_
                    refine lv_icmp_eq (tgt := 163) hx hb dX13_isMove_156 (by decide) (fun h_ => ?_) (fun h_ => ?_)
                    · replace hf := if_t h_ hf
                      refine lv_iconst (v := 0) hx hb dX13_isMove_163 (by decide) ?_
                      cases hf
                      exact end_z hQ hA X hI rfl dX13_isMove_164
                    · replace hf := if_f h_ hf
                      refine lv_iconst (v := 1) hx hb dX13_isMove_159 (by decide) ?_
                      refine lv_goto (tgt := 164) hx hb dX13_isMove_160 (by decide) ?_
                      cases hf
                      exact end_z hQ hA X hI rfl dX13_isMove_164
    · replace hf := if_f h_ hf
      refine lv_iconst (v := 0) hx hb dX13_isMove_18 (by decide) ?_
      cases hf
      exact end_z hQ hA X hI rfl dX13_isMove_19
abbrev rm_X13_can : Room := { frames := 2, cells := 0, slots := 0, locals := 43 }
set_option maxRecDepth 20000 in
theorem c_X13_can (l : Launch) (g : GT) (a_md : Nat → Nat) (a_tn : Nat → Nat) (q_md_read : Option Nat) (md : MdS) (tn : TnS) (p1 : Int32) (r_ : Int32) (hf : f_X13_can md tn p1 = some (r_)) : CI l yX13_can cX13_can 5 (some .boolean) rm_X13_can g [.ref (a_md 0), .int p1] (wMd g a_md (some (a_tn 0)) q_md_read md ++ (wTn g a_tn tn ++ [])) (wMd g a_md (some (a_tn 0)) q_md_read md ++ (wTn g a_tn tn ++ [])) r_ := by
  refine start2 (y := yX13_can) (cc := cX13_can) (n := 5) (av := [.ref (a_md 0), .int p1]) (ws := (wMd g a_md (some (a_tn 0)) q_md_read md ++ (wTn g a_tn tn ++ []))) (Qc := fun sz => QI g (wMd g a_md (some (a_tn 0)) q_md_read md ++ (wTn g a_tn tn ++ [])) (wMd g a_md (some (a_tn 0)) q_md_read md ++ (wTn g a_tn tn ++ [])) r_ sz) (by decide) rfl ?_
  intro p e s m args below meth c ls Q A ha hQ hA X hl hI hin
  have X : Cx p s m args meth c cX13_can 5 RX13 (some .boolean) := X
  have hl : lv_has ls 5 [(0, .ref (a_md 0)), (1, .int p1)] := hl
  obtain ⟨hx, hb, hml, hown, ht, hr, hlk⟩ := id X
  clear ha hin
  unfold f_X13_can at hf
  refine lv_iload_n hx hb dX13_can_0 rfl (lv_at hl 1 rfl) ?_
  refine lv_bipush (v := 10) hx hb dX13_can_1 (by decide) ?_
  refine lv_idiv hx hb dX13_can_3 (by decide) ?_
  refine lv_bipush (v := 10) hx hb dX13_can_4 (by decide) ?_
  refine lv_irem hx hb dX13_can_6 (by decide) ?_
  refine lv_topi (fun v_1 e_ => ?_)
  replace hf := lt_to e_ hf
  clear e_
  refine lv_istore_n (lv' := [(2, .int v_1), (0, .ref (a_md 0)), (1, .int p1)]) hx hb dX13_can_7 rfl hl (by decide) rfl (fun ls hl => ?_)
  refine lv_iload_n hx hb dX13_can_8 rfl (lv_at hl 2 rfl) ?_
  refine lv_bipush (v := 10) hx hb dX13_can_9 (by decide) ?_
  refine lv_irem hx hb dX13_can_11 (by decide) ?_
  refine lv_topi (fun v_2 e_ => ?_)
  replace hf := lt_to e_ hf
  clear e_
  refine lv_istore_n (lv' := [(3, .int v_2), (2, .int v_1), (0, .ref (a_md 0)), (1, .int p1)]) hx hb dX13_can_12 rfl hl (by decide) rfl (fun ls hl => ?_)
  refine lv_iload_n hx hb dX13_can_13 rfl (lv_at hl 3 rfl) ?_
  refine lv_bipush (v := 100) hx hb dX13_can_14 (by decide) ?_
  refine lv_idiv hx hb dX13_can_16 (by decide) ?_
  refine lv_bipush (v := 10) hx hb dX13_can_17 (by decide) ?_
  refine lv_irem hx hb dX13_can_19 (by decide) ?_
  refine lv_topi (fun v_3 e_ => ?_)
  replace hf := lt_to e_ hf
  clear e_
  refine lv_istore (lv' := [(4, .int v_3), (3, .int v_2), (2, .int v_1), (0, .ref (a_md 0)), (1, .int p1)]) hx hb dX13_can_20 hl (by decide) rfl (fun ls hl => ?_)
  refine lv_iload_n hx hb dX13_can_22 rfl (lv_at hl 4 rfl) ?_
  obtain ⟨r_4, hc_, hf⟩ := bd1_some hf
  refine call_Si X hI Cj.nil (c_X13_kindOf l g p1 r_4 hc_) ⟨rfl, rfl⟩ ⟨ht _ w_2111, w_2113, ht _ w_155, lk_X13_kindOf⟩ w_2112 rfl hl rfl rfl dX13_can_23 rfl rfl rfl rfl (fun H locs hI => ?_)
  by_cases h0_ : r_4 = (0 : Int32)
  · replace hf := if_t h0_ hf
    refine lv_lookup (tgt := 52) (off := 26) hx hb dX13_can_26 (by decide) (by rw [h0_]; rfl) (by decide) ?_
    refine lv_aload_n hx hb dX13_can_52 rfl (lv_at hl 3 rfl) ?_
    refine lv_iconst (v := 2) hx hb dX13_can_53 (by decide) ?_
    refine lv_iload_n hx hb dX13_can_54 rfl (lv_at hl 4 rfl) ?_
    refine lv_imul hx hb dX13_can_55 ?_
    refine lv_iconst (v := 2) hx hb dX13_can_56 (by decide) ?_
    refine lv_iload_n hx hb dX13_can_57 rfl (lv_at hl 4 rfl) ?_
    refine lv_imul hx hb dX13_can_58 ?_
    refine lv_iconst (v := 1) hx hb dX13_can_59 (by decide) ?_
    refine lv_iadd hx hb dX13_can_60 ?_
    obtain ⟨r_12, hc_, hf⟩ := bd1_some hf
    refine call_Vi X hI (Cj.keep Cj.nil) (c_X13_areBeside l g a_md (some (a_tn 0)) q_md_read md ((2 : Int32) * p1) (((2 : Int32) * p1) + (1 : Int32)) r_12 hc_) ⟨rfl, rfl⟩ ⟨ht _ w_2122, w_2125, ht _ w_155, lk_X13_areBeside⟩ w_2124 w_107 rfl rfl rfl hl rfl rfl dX13_can_61 rfl rfl rfl rfl (fun H locs hI => ?_)
    obtain ⟨hzb_, hf⟩ := zb_some hf
    cases hf
    exact end_z hQ hA X hI (zb_n hzb_) dX13_can_64
  · replace hf := if_f h0_ hf
    by_cases h1_ : r_4 = (1 : Int32)
    · replace hf := if_t h1_ hf
      refine lv_lookup (tgt := 65) (off := 39) hx hb dX13_can_26 (by decide) (by rw [h1_]; rfl) (by decide) ?_
      refine lv_aload_n hx hb dX13_can_65 rfl (lv_at hl 3 rfl) ?_
      refine lv_iconst (v := 2) hx hb dX13_can_66 (by decide) ?_
      refine lv_iload_n hx hb dX13_can_67 rfl (lv_at hl 2 rfl) ?_
      refine lv_imul hx hb dX13_can_68 ?_
      refine lv_iconst (v := 1) hx hb dX13_can_69 (by decide) ?_
      refine lv_iadd hx hb dX13_can_70 ?_
      refine lv_iconst (v := 2) hx hb dX13_can_71 (by decide) ?_
      refine lv_iload_n hx hb dX13_can_72 rfl (lv_at hl 1 rfl) ?_
      refine lv_imul hx hb dX13_can_73 ?_
      refine lv_iconst (v := 1) hx hb dX13_can_74 (by decide) ?_
      refine lv_iadd hx hb dX13_can_75 ?_
      obtain ⟨r_8, hc_, hf⟩ := bd1_some hf
      refine call_Vi X hI (Cj.keep Cj.nil) (c_X13_areBeside l g a_md (some (a_tn 0)) q_md_read md (((2 : Int32) * v_1) + (1 : Int32)) (((2 : Int32) * v_2) + (1 : Int32)) r_8 hc_) ⟨rfl, rfl⟩ ⟨ht _ w_2122, w_2125, ht _ w_155, lk_X13_areBeside⟩ w_2124 w_107 rfl rfl rfl hl rfl rfl dX13_can_76 rfl rfl rfl rfl (fun H locs hI => ?_)
      refine lv_if_eq (tgt := 112) hx hb dX13_can_79 (by decide) (fun h_ => ?_) (fun h_ => ?_)
      · replace hf := if_t h_ hf
        refine lv_iconst (v := 0) hx hb dX13_can_112 (by decide) ?_
        cases hf
        exact end_z hQ hA X hI rfl dX13_can_113
      · replace hf := if_f h_ hf
        refine lv_aload_n hx hb dX13_can_82 rfl (lv_at hl 3 rfl) ?_
        refine lv_iconst (v := 2) hx hb dX13_can_83 (by decide) ?_
        refine lv_iload_n hx hb dX13_can_84 rfl (lv_at hl 2 rfl) ?_
        refine lv_imul hx hb dX13_can_85 ?_
        refine lv_iconst (v := 2) hx hb dX13_can_86 (by decide) ?_
        refine lv_iload_n hx hb dX13_can_87 rfl (lv_at hl 1 rfl) ?_
        refine lv_imul hx hb dX13_can_88 ?_
        obtain ⟨r_9, hc_, hf⟩ := bd1_some hf
        refine call_Vi X hI (Cj.keep Cj.nil) (c_X13_areBeside l g a_md (some (a_tn 0)) q_md_read md ((2 : Int32) * v_1) ((2 : Int32) * v_2) r_9 hc_) ⟨rfl, rfl⟩ ⟨ht _ w_2122, w_2125, ht _ w_155, lk_X13_areBeside⟩ w_2124 w_107 rfl rfl rfl hl rfl rfl dX13_can_89 rfl rfl rfl rfl (fun H locs hI => ?_)
        refine lv_if_eq (tgt := 112) hx hb dX13_can_92 (by decide) (fun h_ => ?_) (fun h_ => ?_)
        · replace hf := if_t h_ hf
          refine lv_iconst (v := 0) hx hb dX13_can_112 (by decide) ?_
          cases hf
          exact end_z hQ hA X hI rfl dX13_can_113
        · replace hf := if_f h_ hf
          refine lv_aload_n hx hb dX13_can_95 rfl (lv_at hl 3 rfl) ?_
          refine lv_iload_n hx hb dX13_can_96 rfl (lv_at hl 2 rfl) ?_
          obtain ⟨r_10, hc_, hf⟩ := bd1_some hf
          refine call_Vi X hI (Cj.keep (Cj.keep Cj.id)) (c_X13_signNow l g a_md a_tn q_md_read md tn v_1 r_10 hc_) ⟨rfl, rfl⟩ ⟨ht _ w_2083, w_2086, ht _ w_155, lk_X13_signNow⟩ w_2085 w_102 rfl rfl rfl hl rfl rfl dX13_can_97 rfl rfl rfl rfl (fun H locs hI => ?_)
          refine lv_aload_n hx hb dX13_can_100 rfl (lv_at hl 3 rfl) ?_
          refine lv_iload_n hx hb dX13_can_101 rfl (lv_at hl 1 rfl) ?_
          obtain ⟨r_11, hc_, hf⟩ := bd1_some hf
          refine call_Vi X hI (Cj.keep (Cj.keep Cj.id)) (c_X13_signNow l g a_md a_tn q_md_read md tn v_2 r_11 hc_) ⟨rfl, rfl⟩ ⟨ht _ w_2083, w_2086, ht _ w_155, lk_X13_signNow⟩ w_2085 w_102 rfl rfl rfl hl rfl rfl dX13_can_102 rfl rfl rfl rfl (fun H locs hI => ?_)
          refine lv_icmp_eq (tgt := 112) hx hb dX13_can_105 (by decide) (fun h_ => ?_) (fun h_ => ?_)
          · replace hf := if_t h_ hf
            refine lv_iconst (v := 0) hx hb dX13_can_112 (by decide) ?_
            cases hf
            exact end_z hQ hA X hI rfl dX13_can_113
          · replace hf := if_f h_ hf
            refine lv_iconst (v := 1) hx hb dX13_can_108 (by decide) ?_
            refine lv_goto (tgt := 113) hx hb dX13_can_109 (by decide) ?_
            cases hf
            exact end_z hQ hA X hI rfl dX13_can_113
    · replace hf := if_f h1_ hf
      refine lv_lookup (tgt := 114) (off := 88) hx hb dX13_can_26 (by decide) (by have q0 := sw_ne h0_ (j := 0) (by decide); have q1 := sw_ne h1_ (j := 1) (by decide); simp only [lookupswitch.offset_cons, lookupswitch.offset_nil]; rw [if_neg (by omega)]; rw [if_neg (by omega)]) (by decide) ?_
      refine lv_aload_n hx hb dX13_can_114 rfl (lv_at hl 3 rfl) ?_
      refine lv_iconst (v := 2) hx hb dX13_can_115 (by decide) ?_
      refine lv_iload hx hb dX13_can_116 (lv_at hl 0 rfl) ?_
      refine lv_imul hx hb dX13_can_118 ?_
      refine lv_iconst (v := 1) hx hb dX13_can_119 (by decide) ?_
      refine lv_iadd hx hb dX13_can_120 ?_
      refine lv_iconst (v := 2) hx hb dX13_can_121 (by decide) ?_
      refine lv_iload_n hx hb dX13_can_122 rfl (lv_at hl 2 rfl) ?_
      refine lv_imul hx hb dX13_can_123 ?_
      refine lv_iconst (v := 1) hx hb dX13_can_124 (by decide) ?_
      refine lv_iadd hx hb dX13_can_125 ?_
      obtain ⟨r_5, hc_, hf⟩ := bd1_some hf
      refine call_Vi X hI (Cj.keep Cj.nil) (c_X13_areBeside l g a_md (some (a_tn 0)) q_md_read md (((2 : Int32) * v_3) + (1 : Int32)) (((2 : Int32) * v_1) + (1 : Int32)) r_5 hc_) ⟨rfl, rfl⟩ ⟨ht _ w_2122, w_2125, ht _ w_155, lk_X13_areBeside⟩ w_2124 w_107 rfl rfl rfl hl rfl rfl dX13_can_126 rfl rfl rfl rfl (fun H locs hI => ?_)
      refine lv_if_eq (tgt := 165) hx hb dX13_can_129 (by decide) (fun h_ => ?_) (fun h_ => ?_)
      · replace hf := if_t h_ hf
        refine lv_iconst (v := 0) hx hb dX13_can_165 (by decide) ?_
        cases hf
        exact end_z hQ hA X hI rfl dX13_can_166
      · replace hf := if_f h_ hf
        refine lv_aload_n hx hb dX13_can_132 rfl (lv_at hl 3 rfl) ?_
        refine lv_iconst (v := 2) hx hb dX13_can_133 (by decide) ?_
        refine lv_iload hx hb dX13_can_134 (lv_at hl 0 rfl) ?_
        refine lv_imul hx hb dX13_can_136 ?_
        refine lv_iconst (v := 2) hx hb dX13_can_137 (by decide) ?_
        refine lv_iload_n hx hb dX13_can_138 rfl (lv_at hl 1 rfl) ?_
        refine lv_imul hx hb dX13_can_139 ?_
        refine lv_iconst (v := 1) hx hb dX13_can_140 (by decide) ?_
        refine lv_iadd hx hb dX13_can_141 ?_
        obtain ⟨r_6, hc_, hf⟩ := bd1_some hf
        refine call_Vi X hI (Cj.keep Cj.nil) (c_X13_areBeside l g a_md (some (a_tn 0)) q_md_read md ((2 : Int32) * v_3) (((2 : Int32) * v_2) + (1 : Int32)) r_6 hc_) ⟨rfl, rfl⟩ ⟨ht _ w_2122, w_2125, ht _ w_155, lk_X13_areBeside⟩ w_2124 w_107 rfl rfl rfl hl rfl rfl dX13_can_142 rfl rfl rfl rfl (fun H locs hI => ?_)
        refine lv_if_eq (tgt := 165) hx hb dX13_can_145 (by decide) (fun h_ => ?_) (fun h_ => ?_)
        · replace hf := if_t h_ hf
          refine lv_iconst (v := 0) hx hb dX13_can_165 (by decide) ?_
          cases hf
          exact end_z hQ hA X hI rfl dX13_can_166
        · replace hf := if_f h_ hf
          refine lv_aload_n hx hb dX13_can_148 rfl (lv_at hl 3 rfl) ?_
          refine lv_iconst (v := 2) hx hb dX13_can_149 (by decide) ?_
          refine lv_iload_n hx hb dX13_can_150 rfl (lv_at hl 2 rfl) ?_
          refine lv_imul hx hb dX13_can_151 ?_
          refine lv_iconst (v := 2) hx hb dX13_can_152 (by decide) ?_
          refine lv_iload_n hx hb dX13_can_153 rfl (lv_at hl 1 rfl) ?_
          refine lv_imul hx hb dX13_can_154 ?_
          obtain ⟨r_7, hc_, hf⟩ := bd1_some hf
          refine call_Vi X hI (Cj.keep Cj.nil) (c_X13_areBeside l g a_md (some (a_tn 0)) q_md_read md ((2 : Int32) * v_1) ((2 : Int32) * v_2) r_7 hc_) ⟨rfl, rfl⟩ ⟨ht _ w_2122, w_2125, ht _ w_155, lk_X13_areBeside⟩ w_2124 w_107 rfl rfl rfl hl rfl rfl dX13_can_155 rfl rfl rfl rfl (fun H locs hI => ?_)
          refine lv_if_eq (tgt := 165) hx hb dX13_can_158 (by decide) (fun h_ => ?_) (fun h_ => ?_)
          · replace hf := if_t h_ hf
            refine lv_iconst (v := 0) hx hb dX13_can_165 (by decide) ?_
            cases hf
            exact end_z hQ hA X hI rfl dX13_can_166
          · replace hf := if_f h_ hf
            refine lv_iconst (v := 1) hx hb dX13_can_161 (by decide) ?_
            refine lv_goto (tgt := 166) hx hb dX13_can_162 (by decide) ?_
            cases hf
            exact end_z hQ hA X hI rfl dX13_can_166
abbrev rm_X13_goerOf : Room := { frames := 1, cells := 0, slots := 0, locals := 20 }
set_option maxRecDepth 20000 in
theorem c_X13_goerOf (l : Launch) (g : GT) (a_md : Nat → Nat) (a_tn : Nat → Nat) (q_md_read : Option Nat) (md : MdS) (tn : TnS) (p1 : Int32) (r_ : Int32) (hf : f_X13_goerOf md tn p1 = some (r_)) : CI l yX13_goerOf cX13_goerOf 7 (some .int) rm_X13_goerOf g [.ref (a_md 0), .int p1] (wMd g a_md (some (a_tn 0)) q_md_read md ++ (wTn g a_tn tn ++ [])) (wMd g a_md (some (a_tn 0)) q_md_read md ++ (wTn g a_tn tn ++ [])) r_ := by
  refine start2 (y := yX13_goerOf) (cc := cX13_goerOf) (n := 7) (av := [.ref (a_md 0), .int p1]) (ws := (wMd g a_md (some (a_tn 0)) q_md_read md ++ (wTn g a_tn tn ++ []))) (Qc := fun sz => QI g (wMd g a_md (some (a_tn 0)) q_md_read md ++ (wTn g a_tn tn ++ [])) (wMd g a_md (some (a_tn 0)) q_md_read md ++ (wTn g a_tn tn ++ [])) r_ sz) (by decide) rfl ?_
  intro p e s m args below meth c ls Q A ha hQ hA X hl hI hin
  have X : Cx p s m args meth c cX13_goerOf 7 RX13 (some .int) := X
  have hl : lv_has ls 7 [(0, .ref (a_md 0)), (1, .int p1)] := hl
  obtain ⟨hx, hb, hml, hown, ht, hr, hlk⟩ := id X
  clear ha hin
  have L_54 : ∀ (t1i : Int32) (H : Heap) (locs : List Loc) (ls : Array Slot), lv_has ls 7 [(0, .ref (a_md 0))] → In g A s.heap s (wMd g a_md (some (a_tn 0)) q_md_read md ++ (wTn g a_tn tn ++ [])) H locs → f_X13_goerOf_L54 t1i tn = some (r_) → W p l e rm_X13_goerOf s m args below meth c H locs 0 0 Q (F0 m 54 ls [.int t1i, .ref (a_tn 23)]) := by
    intro t1i H locs ls hl hI hf
    unfold f_X13_goerOf_L54 at hf
    obtain ⟨h_, hf⟩ := ck_someM hf
    refine ld_I X hI has_Tn_standLink.l.r h_ dX13_goerOf_54 ?_
    refine lv_topi (fun v_4 e_ => ?_)
    replace hf := lt_to e_ hf
    clear e_
    refine lv_istore (lv' := [(4, .int v_4), (0, .ref (a_md 0))]) hx hb dX13_goerOf_55 hl (by decide) rfl (fun ls hl => ?_)
    refine lv_aload_n hx hb dX13_goerOf_57 rfl (lv_at hl 1 rfl) ?_
    refine g_Md_tangle_S X hI has_Md.l (X.fl w_1586) dX13_goerOf_58 ?_
    refine g_Tn_one X hI has_Tn.l.r (hI.fn (List.mem_of_getElem? (i := 88) rfl)) dX13_goerOf_61 ?_
    refine lv_iload hx hb dX13_goerOf_64 (lv_at hl 0 rfl) ?_
    obtain ⟨h_, hf⟩ := ck_someM hf
    refine ld_I X hI has_Tn_one.l.r h_ dX13_goerOf_66 ?_
    refine lv_topi (fun v_5 e_ => ?_)
    replace hf := lt_to e_ hf
    clear e_
    refine lv_istore (lv' := [(5, .int v_5), (4, .int v_4), (0, .ref (a_md 0))]) hx hb dX13_goerOf_67 hl (by decide) rfl (fun ls hl => ?_)
    refine lv_aload_n hx hb dX13_goerOf_69 rfl (lv_at hl 2 rfl) ?_
    refine g_Md_tangle_S X hI has_Md.l (X.fl w_1586) dX13_goerOf_70 ?_
    refine g_Tn_two X hI has_Tn.l.r (hI.fn (List.mem_of_getElem? (i := 90) rfl)) dX13_goerOf_73 ?_
    refine lv_iload hx hb dX13_goerOf_76 (lv_at hl 1 rfl) ?_
    obtain ⟨h_, hf⟩ := ck_someM hf
    refine ld_I X hI has_Tn_two.l.r h_ dX13_goerOf_78 ?_
    refine lv_topi (fun v_6 e_ => ?_)
    replace hf := lt_to e_ hf
    clear e_
    refine lv_istore (lv' := [(6, .int v_6), (5, .int v_5), (4, .int v_4), (0, .ref (a_md 0))]) hx hb dX13_goerOf_79 hl (by decide) rfl (fun ls hl => ?_)
    refine lv_aload_n hx hb dX13_goerOf_81 rfl (lv_at hl 3 rfl) ?_
    refine g_Md_tangle_S X hI has_Md.l (X.fl w_1586) dX13_goerOf_82 ?_
    refine g_Tn_tall X hI has_Tn.l.r (hI.fn (List.mem_of_getElem? (i := 87) rfl)) dX13_goerOf_85 ?_
    refine lv_iload hx hb dX13_goerOf_88 (lv_at hl 0 rfl) ?_
    obtain ⟨h_, hf⟩ := ck_someM hf
    refine ld_I X hI has_Tn_tall.l.r h_ dX13_goerOf_90 ?_
    refine lv_aload_n hx hb dX13_goerOf_91 rfl (lv_at hl 3 rfl) ?_
    refine g_Md_tangle_S X hI has_Md.l (X.fl w_1586) dX13_goerOf_92 ?_
    refine g_Tn_tall X hI has_Tn.l.r (hI.fn (List.mem_of_getElem? (i := 87) rfl)) dX13_goerOf_95 ?_
    refine lv_iload hx hb dX13_goerOf_98 (lv_at hl 1 rfl) ?_
    obtain ⟨h_, hf⟩ := ck_someM hf
    refine ld_I X hI has_Tn_tall.l.r h_ dX13_goerOf_100 ?_
    refine lv_icmp_lt (tgt := 134) hx hb dX13_goerOf_101 (by decide) (fun h_ => ?_) (fun h_ => ?_)
    · replace hf := if_t h_ hf
      refine lv_iload hx hb dX13_goerOf_134 (lv_at hl 0 rfl) ?_
      refine lv_goto (tgt := 141) hx hb dX13_goerOf_136 (by decide) ?_
      cases hf
      exact end_i hQ hA X hI dX13_goerOf_141
    · replace hf := if_f h_ hf
      refine lv_aload_n hx hb dX13_goerOf_104 rfl (lv_at hl 3 rfl) ?_
      refine g_Md_tangle_S X hI has_Md.l (X.fl w_1586) dX13_goerOf_105 ?_
      refine g_Tn_tall X hI has_Tn.l.r (hI.fn (List.mem_of_getElem? (i := 87) rfl)) dX13_goerOf_108 ?_
      refine lv_iload hx hb dX13_goerOf_111 (lv_at hl 0 rfl) ?_
      obtain ⟨h_, hf⟩ := ck_someM hf
      refine ld_I X hI has_Tn_tall.l.r h_ dX13_goerOf_113 ?_
      refine lv_aload_n hx hb dX13_goerOf_114 rfl (lv_at hl 3 rfl) ?_
      refine g_Md_tangle_S X hI has_Md.l (X.fl w_1586) dX13_goerOf_115 ?_
      refine g_Tn_tall X hI has_Tn.l.r (hI.fn (List.mem_of_getElem? (i := 87) rfl)) dX13_goerOf_118 ?_
      refine lv_iload hx hb dX13_goerOf_121 (lv_at hl 1 rfl) ?_
      obtain ⟨h_, hf⟩ := ck_someM hf
      refine ld_I X hI has_Tn_tall.l.r h_ dX13_goerOf_123 ?_
      refine lv_icmp_ne (tgt := 139) hx hb dX13_goerOf_124 (by decide) (fun h_ => ?_) (fun h_ => ?_)
      · replace hf := if_f h_ hf
        refine lv_iload hx hb dX13_goerOf_139 (lv_at hl 1 rfl) ?_
        cases hf
        exact end_i hQ hA X hI dX13_goerOf_141
      · replace hf := if_t h_ hf
        refine lv_iload hx hb dX13_goerOf_127 (lv_at hl 0 rfl) ?_
        refine lv_iload hx hb dX13_goerOf_129 (lv_at hl 1 rfl) ?_
        refine lv_icmp_ge (tgt := 139) hx hb dX13_goerOf_131 (by decide) (fun h_ => ?_) (fun h_ => ?_)
        · replace hf := if_t h_ hf
          refine lv_iload hx hb dX13_goerOf_139 (lv_at hl 1 rfl) ?_
          cases hf
          exact end_i hQ hA X hI dX13_goerOf_141
        · replace hf := if_f h_ hf
          refine lv_iload hx hb dX13_goerOf_134 (lv_at hl 0 rfl) ?_
          refine lv_goto (tgt := 141) hx hb dX13_goerOf_136 (by decide) ?_
          cases hf
          exact end_i hQ hA X hI dX13_goerOf_141
  unfold f_X13_goerOf at hf
  refine lv_iload_n hx hb dX13_goerOf_0 rfl (lv_at hl 1 rfl) ?_
  obtain ⟨r_1, hc_, hf⟩ := bd1_some hf
  refine call_Si X hI Cj.nil (c_X13_kindOf l g p1 r_1 hc_) ⟨rfl, rfl⟩ ⟨ht _ w_2111, w_2113, ht _ w_155, lk_X13_kindOf⟩ w_2112 rfl hl rfl rfl dX13_goerOf_1 rfl rfl rfl rfl (fun H locs hI => ?_)
  refine lv_if_ne (tgt := 10) hx hb dX13_goerOf_4 (by decide) (fun h_ => ?_) (fun h_ => ?_)
  · replace hf := if_f h_ hf
    refine lv_aload_n hx hb dX13_goerOf_10 rfl (lv_at hl 0 rfl) ?_
    refine g_Md_spotOf X hI has_Md.l (X.fl w_1602) dX13_goerOf_11 ?_
    refine lv_iconst (v := 2) hx hb dX13_goerOf_14 (by decide) ?_
    refine lv_iload_n hx hb dX13_goerOf_15 rfl (lv_at hl 1 rfl) ?_
    refine lv_bipush (v := 10) hx hb dX13_goerOf_16 (by decide) ?_
    refine lv_idiv hx hb dX13_goerOf_18 (by decide) ?_
    refine lv_bipush (v := 10) hx hb dX13_goerOf_19 (by decide) ?_
    refine lv_irem hx hb dX13_goerOf_21 (by decide) ?_
    refine lv_imul hx hb dX13_goerOf_22 ?_
    obtain ⟨h_, hf⟩ := ck_someM hf
    refine ld_I X hI has_Md_spotOf.l h_ dX13_goerOf_23 ?_
    refine lv_topi (fun v_2 e_ => ?_)
    replace hf := lt_to e_ hf
    clear e_
    refine lv_istore_n (lv' := [(2, .int v_2), (0, .ref (a_md 0)), (1, .int p1)]) hx hb dX13_goerOf_24 rfl hl (by decide) rfl (fun ls hl => ?_)
    refine lv_aload_n hx hb dX13_goerOf_25 rfl (lv_at hl 1 rfl) ?_
    refine g_Md_spotOf X hI has_Md.l (X.fl w_1602) dX13_goerOf_26 ?_
    refine lv_iconst (v := 2) hx hb dX13_goerOf_29 (by decide) ?_
    refine lv_iload_n hx hb dX13_goerOf_30 rfl (lv_at hl 2 rfl) ?_
    refine lv_bipush (v := 10) hx hb dX13_goerOf_31 (by decide) ?_
    refine lv_irem hx hb dX13_goerOf_33 (by decide) ?_
    refine lv_imul hx hb dX13_goerOf_34 ?_
    obtain ⟨h_, hf⟩ := ck_someM hf
    refine ld_I X hI has_Md_spotOf.l h_ dX13_goerOf_35 ?_
    refine lv_topi (fun v_3 e_ => ?_)
    replace hf := lt_to e_ hf
    clear e_
    refine lv_istore_n (lv' := [(3, .int v_3), (2, .int v_2), (0, .ref (a_md 0)), (1, .int p1)]) hx hb dX13_goerOf_36 rfl hl (by decide) rfl (fun ls hl => ?_)
    refine lv_aload_n hx hb dX13_goerOf_37 rfl (lv_at hl 2 rfl) ?_
    refine g_Md_tangle_S X hI has_Md.l (X.fl w_1586) dX13_goerOf_38 ?_
    refine g_Tn_standLink X hI has_Tn.l.r (hI.fn (List.mem_of_getElem? (i := 109) rfl)) dX13_goerOf_41 ?_
    refine lv_iload_n hx hb dX13_goerOf_44 rfl (lv_at hl 1 rfl) ?_
    refine lv_iload_n hx hb dX13_goerOf_45 rfl (lv_at hl 0 rfl) ?_
    refine lv_icmp_ge (tgt := 53) hx hb dX13_goerOf_46 (by decide) (fun h_ => ?_) (fun h_ => ?_)
    · replace hf := if_t h_ hf
      refine lv_iload_n hx hb dX13_goerOf_53 rfl (lv_at hl 0 rfl) ?_
      exact L_54 v_3 _ _ _ (lv_sub hl [2] rfl) hI hf
    · replace hf := if_f h_ hf
      refine lv_iload_n hx hb dX13_goerOf_49 rfl (lv_at hl 1 rfl) ?_
      refine lv_goto (tgt := 54) hx hb dX13_goerOf_50 (by decide) ?_
      exact L_54 v_2 _ _ _ (lv_sub hl [2] rfl) hI hf
  · replace hf := if_t h_ hf
    refine lv_bipush (v := (-2)) hx hb dX13_goerOf_7 (by decide) ?_
    cases hf
    exact end_i hQ hA X hI dX13_goerOf_9
abbrev rm_X13_mayMove : Room := { frames := 3, cells := 0, slots := 0, locals := 67 }
set_option maxRecDepth 20000 in
theorem c_X13_mayMove (l : Launch) (g : GT) (a_md : Nat → Nat) (a_tn : Nat → Nat) (q_md_read : Option Nat) (md : MdS) (tn : TnS) (p1 : Int32) (r_ : Int32) (hf : f_X13_mayMove md tn p1 = some (r_)) : CI l yX13_mayMove cX13_mayMove 3 (some .boolean) rm_X13_mayMove g [.ref (a_md 0), .int p1] (wMd g a_md (some (a_tn 0)) q_md_read md ++ (wTn g a_tn tn ++ [])) (wMd g a_md (some (a_tn 0)) q_md_read md ++ (wTn g a_tn tn ++ [])) r_ := by
  refine start2 (y := yX13_mayMove) (cc := cX13_mayMove) (n := 3) (av := [.ref (a_md 0), .int p1]) (ws := (wMd g a_md (some (a_tn 0)) q_md_read md ++ (wTn g a_tn tn ++ []))) (Qc := fun sz => QI g (wMd g a_md (some (a_tn 0)) q_md_read md ++ (wTn g a_tn tn ++ [])) (wMd g a_md (some (a_tn 0)) q_md_read md ++ (wTn g a_tn tn ++ [])) r_ sz) (by decide) rfl ?_
  intro p e s m args below meth c ls Q A ha hQ hA X hl hI hin
  have X : Cx p s m args meth c cX13_mayMove 3 RX13 (some .boolean) := X
  have hl : lv_has ls 3 [(0, .ref (a_md 0)), (1, .int p1)] := hl
  obtain ⟨hx, hb, hml, hown, ht, hr, hlk⟩ := id X
  clear ha hin
  unfold f_X13_mayMove at hf
  refine lv_aload_n hx hb dX13_mayMove_0 rfl (lv_at hl 0 rfl) ?_
  refine lv_iload_n hx hb dX13_mayMove_1 rfl (lv_at hl 1 rfl) ?_
  obtain ⟨r_1, hc_, hf⟩ := bd1_some hf
  refine call_Vi X hI (Cj.keep (Cj.keep Cj.id)) (c_X13_can l g a_md a_tn q_md_read md tn p1 r_1 hc_) ⟨rfl, rfl⟩ ⟨ht _ w_2118, w_2121, ht _ w_155, lk_X13_can⟩ w_2120 w_106 rfl rfl rfl hl rfl rfl dX13_mayMove_2 rfl rfl rfl rfl (fun H locs hI => ?_)
  refine lv_if_ne (tgt := 10) hx hb dX13_mayMove_5 (by decide) (fun h_ => ?_) (fun h_ => ?_)
  · replace hf := if_f h_ hf
    refine lv_aload_n hx hb dX13_mayMove_10 rfl (lv_at hl 0 rfl) ?_
    refine lv_iload_n hx hb dX13_mayMove_11 rfl (lv_at hl 1 rfl) ?_
    obtain ⟨r_2, hc_, hf⟩ := bd1_some hf
    refine call_Vi X hI (Cj.keep (Cj.keep Cj.id)) (c_X13_goerOf l g a_md a_tn q_md_read md tn p1 r_2 hc_) ⟨rfl, rfl⟩ ⟨ht _ w_2126, w_2129, ht _ w_155, lk_X13_goerOf⟩ w_2128 w_108 rfl rfl rfl hl rfl rfl dX13_mayMove_12 rfl rfl rfl rfl (fun H locs hI => ?_)
    refine lv_istore_n (lv' := [(2, .int r_2), (0, .ref (a_md 0)), (1, .int p1)]) hx hb dX13_mayMove_15 rfl hl (by decide) rfl (fun ls hl => ?_)
    refine lv_iload_n hx hb dX13_mayMove_16 rfl (lv_at hl 0 rfl) ?_
    refine lv_bipush (v := (-2)) hx hb dX13_mayMove_17 (by decide) ?_
    refine lv_icmp_eq (tgt := 41) hx hb dX13_mayMove_19 (by decide) (fun h_ => ?_) (fun h_ => ?_)
    · replace hf := if_t h_ hf
      refine lv_iconst (v := 1) hx hb dX13_mayMove_41 (by decide) ?_
      refine lv_goto (tgt := 46) hx hb dX13_mayMove_42 (by decide) ?_
      cases hf
      exact end_z hQ hA X hI rfl dX13_mayMove_46
    · replace hf := if_f h_ hf
      refine lv_aload_n hx hb dX13_mayMove_22 rfl (lv_at hl 1 rfl) ?_
      refine g_Md_tangle_S X hI has_Md.l (X.fl w_1586) dX13_mayMove_23 ?_
      refine g_Tn_tall X hI has_Tn.l.r (hI.fn (List.mem_of_getElem? (i := 87) rfl)) dX13_mayMove_26 ?_
      refine lv_iload_n hx hb dX13_mayMove_29 rfl (lv_at hl 0 rfl) ?_
      obtain ⟨h_, hf⟩ := ck_someM hf
      refine ld_I X hI has_Tn_tall.l.r h_ dX13_mayMove_30 ?_
      refine lv_aload_n hx hb dX13_mayMove_31 rfl (lv_at hl 1 rfl) ?_
      refine g_Md_tangle_S X hI has_Md.l (X.fl w_1586) dX13_mayMove_32 ?_
      refine g_Tn_height X hI has_Tn.l.r (hI.fn (List.mem_of_getElem? (i := 79) rfl)) dX13_mayMove_35 ?_
      refine lv_icmp_gt (tgt := 45) hx hb dX13_mayMove_38 (by decide) (fun h_ => ?_) (fun h_ => ?_)
      · replace hf := if_t h_ hf
        refine lv_iconst (v := 0) hx hb dX13_mayMove_45 (by decide) ?_
        cases hf
        exact end_z hQ hA X hI rfl dX13_mayMove_46
      · replace hf := if_f h_ hf
        refine lv_iconst (v := 1) hx hb dX13_mayMove_41 (by decide) ?_
        refine lv_goto (tgt := 46) hx hb dX13_mayMove_42 (by decide) ?_
        cases hf
        exact end_z hQ hA X hI rfl dX13_mayMove_46
  · replace hf := if_t h_ hf
    refine lv_iconst (v := 0) hx hb dX13_mayMove_8 (by decide) ?_
    cases hf
    exact end_z hQ hA X hI rfl dX13_mayMove_9
abbrev rm_X13_changed : Room := { frames := 1, cells := 0, slots := 0, locals := 23 }
set_option maxRecDepth 20000 in
theorem c_X13_changed (l : Launch) (g : GT) (a_md : Nat → Nat) (q_md_tangle : Option Nat) (q_md_read : Option Nat) (md : MdS) (p1 : Int64) (p3 : Int32) (p4 : Int32) (r_ : Int64) (hf : f_X13_changed md p1 p3 p4 = some (r_)) : CL l yX13_changed cX13_changed 5 (some .long) rm_X13_changed g [.ref (a_md 0), .long p1, .int p3, .int p4] (wMd g a_md q_md_tangle q_md_read md ++ []) (wMd g a_md q_md_tangle q_md_read md ++ []) r_ := by
  refine start2 (y := yX13_changed) (cc := cX13_changed) (n := 5) (av := [.ref (a_md 0), .long p1, .int p3, .int p4]) (ws := (wMd g a_md q_md_tangle q_md_read md ++ [])) (Qc := fun sz => QL g (wMd g a_md q_md_tangle q_md_read md ++ []) (wMd g a_md q_md_tangle q_md_read md ++ []) r_ sz) (by decide) rfl ?_
  intro p e s m args below meth c ls Q A ha hQ hA X hl hI hin
  have X : Cx p s m args meth c cX13_changed 5 RX13 (some .long) := X
  have hl : lv_has ls 5 [(0, .ref (a_md 0)), (1, .long p1), (3, .int p3), (4, .int p4)] := hl
  obtain ⟨hx, hb, hml, hown, ht, hr, hlk⟩ := id X
  clear ha hin
  unfold f_X13_changed at hf
  refine lv_lload_n hx hb dX13_changed_0 rfl (lv_at hl 1 rfl) ?_
  refine lv_aload_n hx hb dX13_changed_1 rfl (lv_at hl 0 rfl) ?_
  refine g_Md_spotOf X hI has_Md.l (X.fl w_1602) dX13_changed_2 ?_
  refine lv_iload_n hx hb dX13_changed_5 rfl (lv_at hl 2 rfl) ?_
  obtain ⟨h_, hf⟩ := ck_someM hf
  refine ld_I X hI has_Md_spotOf.l h_ dX13_changed_6 ?_
  refine lv_iload hx hb dX13_changed_7 (lv_at hl 3 rfl) ?_
  obtain ⟨r_1, hc_, hf⟩ := bd1_some hf
  refine call_Sl X hI Cj.nil (c_X13_with l g p1 (Md_spotOf md (Int32.toNatClampNeg p3)) p4 r_1 hc_) ⟨rfl, rfl⟩ ⟨ht _ w_2176, w_2178, ht _ w_155, lk_X13_with⟩ w_2177 rfl hl rfl rfl dX13_changed_9 rfl rfl rfl rfl (fun H locs hI => ?_)
  refine lv_aload_n hx hb dX13_changed_12 rfl (lv_at hl 0 rfl) ?_
  refine g_Md_spotOf X hI has_Md.l (X.fl w_1602) dX13_changed_13 ?_
  refine lv_iload hx hb dX13_changed_16 (lv_at hl 3 rfl) ?_
  obtain ⟨h_, hf⟩ := ck_someM hf
  refine ld_I X hI has_Md_spotOf.l h_ dX13_changed_18 ?_
  refine lv_iload_n hx hb dX13_changed_19 rfl (lv_at hl 2 rfl) ?_
  obtain ⟨r_2, hc_, hf⟩ := bd1_some hf
  refine call_Sl X hI Cj.nil (c_X13_with l g r_1 (Md_spotOf md (Int32.toNatClampNeg p4)) p3 r_2 hc_) ⟨rfl, rfl⟩ ⟨ht _ w_2176, w_2178, ht _ w_155, lk_X13_with⟩ w_2177 rfl hl rfl rfl dX13_changed_20 rfl rfl rfl rfl (fun H locs hI => ?_)
  cases hf
  exact end_l hQ hA X hI dX13_changed_23
abbrev rm_X13_without : Room := { frames := 1, cells := 0, slots := 0, locals := 23 }
set_option maxRecDepth 20000 in
theorem c_X13_without (l : Launch) (g : GT) (a_md : Nat → Nat) (q_md_tangle : Option Nat) (q_md_read : Option Nat) (md : MdS) (p1 : Int64) (p3 : Int32) (r_ : Int64) (hf : f_X13_without md p1 p3 = some (r_)) : CL l yX13_without cX13_without 4 (some .long) rm_X13_without g [.ref (a_md 0), .long p1, .int p3] (wMd g a_md q_md_tangle q_md_read md ++ []) (wMd g a_md q_md_tangle q_md_read md ++ []) r_ := by
  refine start2 (y := yX13_without) (cc := cX13_without) (n := 4) (av := [.ref (a_md 0), .long p1, .int p3]) (ws := (wMd g a_md q_md_tangle q_md_read md ++ [])) (Qc := fun sz => QL g (wMd g a_md q_md_tangle q_md_read md ++ []) (wMd g a_md q_md_tangle q_md_read md ++ []) r_ sz) (by decide) rfl ?_
  intro p e s m args below meth c ls Q A ha hQ hA X hl hI hin
  have X : Cx p s m args meth c cX13_without 4 RX13 (some .long) := X
  have hl : lv_has ls 4 [(0, .ref (a_md 0)), (1, .long p1), (3, .int p3)] := hl
  obtain ⟨hx, hb, hml, hown, ht, hr, hlk⟩ := id X
  clear ha hin
  unfold f_X13_without at hf
  refine lv_lload_n hx hb dX13_without_0 rfl (lv_at hl 1 rfl) ?_
  refine lv_aload_n hx hb dX13_without_1 rfl (lv_at hl 0 rfl) ?_
  refine g_Md_spotOf X hI has_Md.l (X.fl w_1602) dX13_without_2 ?_
  refine lv_iconst (v := 2) hx hb dX13_without_5 (by decide) ?_
  refine lv_iload_n hx hb dX13_without_6 rfl (lv_at hl 2 rfl) ?_
  refine lv_imul hx hb dX13_without_7 ?_
  obtain ⟨h_, hf⟩ := ck_someM hf
  refine ld_I X hI has_Md_spotOf.l h_ dX13_without_8 ?_
  refine lv_bipush (v := 15) hx hb dX13_without_9 (by decide) ?_
  obtain ⟨r_1, hc_, hf⟩ := bd1_some hf
  refine call_Sl X hI Cj.nil (c_X13_with l g p1 (Md_spotOf md (Int32.toNatClampNeg ((2 : Int32) * p3))) (15 : Int32) r_1 hc_) ⟨rfl, rfl⟩ ⟨ht _ w_2176, w_2178, ht _ w_155, lk_X13_with⟩ w_2177 rfl hl rfl rfl dX13_without_11 rfl rfl rfl rfl (fun H locs hI => ?_)
  refine lv_aload_n hx hb dX13_without_14 rfl (lv_at hl 0 rfl) ?_
  refine g_Md_spotOf X hI has_Md.l (X.fl w_1602) dX13_without_15 ?_
  refine lv_iconst (v := 2) hx hb dX13_without_18 (by decide) ?_
  refine lv_iload_n hx hb dX13_without_19 rfl (lv_at hl 2 rfl) ?_
  refine lv_imul hx hb dX13_without_20 ?_
  refine lv_iconst (v := 1) hx hb dX13_without_21 (by decide) ?_
  refine lv_iadd hx hb dX13_without_22 ?_
  obtain ⟨h_, hf⟩ := ck_someM hf
  refine ld_I X hI has_Md_spotOf.l h_ dX13_without_23 ?_
  refine lv_bipush (v := 15) hx hb dX13_without_24 (by decide) ?_
  obtain ⟨r_2, hc_, hf⟩ := bd1_some hf
  refine call_Sl X hI Cj.nil (c_X13_with l g r_1 (Md_spotOf md (Int32.toNatClampNeg (((2 : Int32) * p3) + (1 : Int32)))) (15 : Int32) r_2 hc_) ⟨rfl, rfl⟩ ⟨ht _ w_2176, w_2178, ht _ w_155, lk_X13_with⟩ w_2177 rfl hl rfl rfl dX13_without_26 rfl rfl rfl rfl (fun H locs hI => ?_)
  cases hf
  exact end_l hQ hA X hI dX13_without_29
abbrev rm_X13_behind : Room := { frames := 2, cells := 0, slots := 0, locals := 47 }
set_option maxRecDepth 20000 in
theorem c_X13_behind (l : Launch) (g : GT) (a_md : Nat → Nat) (q_md_tangle : Option Nat) (q_md_read : Option Nat) (md : MdS) (p1 : Int64) (p3 : Int32) (r_ : Int64) (hf : f_X13_behind md p1 p3 = some (r_)) : CL l yX13_behind cX13_behind 7 (some .long) rm_X13_behind g [.ref (a_md 0), .long p1, .int p3] (wMd g a_md q_md_tangle q_md_read md ++ []) (wMd g a_md q_md_tangle q_md_read md ++ []) r_ := by
  refine start2 (y := yX13_behind) (cc := cX13_behind) (n := 7) (av := [.ref (a_md 0), .long p1, .int p3]) (ws := (wMd g a_md q_md_tangle q_md_read md ++ [])) (Qc := fun sz => QL g (wMd g a_md q_md_tangle q_md_read md ++ []) (wMd g a_md q_md_tangle q_md_read md ++ []) r_ sz) (by decide) rfl ?_
  intro p e s m args below meth c ls Q A ha hQ hA X hl hI hin
  have X : Cx p s m args meth c cX13_behind 7 RX13 (some .long) := X
  have hl : lv_has ls 7 [(0, .ref (a_md 0)), (1, .long p1), (3, .int p3)] := hl
  obtain ⟨hx, hb, hml, hown, ht, hr, hlk⟩ := id X
  clear ha hin
  unfold f_X13_behind at hf
  refine lv_iload_n hx hb dX13_behind_0 rfl (lv_at hl 2 rfl) ?_
  refine lv_bipush (v := 10) hx hb dX13_behind_1 (by decide) ?_
  refine lv_idiv hx hb dX13_behind_3 (by decide) ?_
  refine lv_bipush (v := 10) hx hb dX13_behind_4 (by decide) ?_
  refine lv_irem hx hb dX13_behind_6 (by decide) ?_
  refine lv_topi (fun v_1 e_ => ?_)
  replace hf := lt_to e_ hf
  clear e_
  refine lv_istore (lv' := [(4, .int v_1), (0, .ref (a_md 0)), (1, .long p1), (3, .int p3)]) hx hb dX13_behind_7 hl (by decide) rfl (fun ls hl => ?_)
  refine lv_iload_n hx hb dX13_behind_9 rfl (lv_at hl 3 rfl) ?_
  refine lv_bipush (v := 10) hx hb dX13_behind_10 (by decide) ?_
  refine lv_irem hx hb dX13_behind_12 (by decide) ?_
  refine lv_topi (fun v_2 e_ => ?_)
  replace hf := lt_to e_ hf
  clear e_
  refine lv_istore (lv' := [(5, .int v_2), (4, .int v_1), (0, .ref (a_md 0)), (1, .long p1), (3, .int p3)]) hx hb dX13_behind_13 hl (by decide) rfl (fun ls hl => ?_)
  refine lv_iload_n hx hb dX13_behind_15 rfl (lv_at hl 4 rfl) ?_
  refine lv_bipush (v := 100) hx hb dX13_behind_16 (by decide) ?_
  refine lv_idiv hx hb dX13_behind_18 (by decide) ?_
  refine lv_bipush (v := 10) hx hb dX13_behind_19 (by decide) ?_
  refine lv_irem hx hb dX13_behind_21 (by decide) ?_
  refine lv_topi (fun v_3 e_ => ?_)
  replace hf := lt_to e_ hf
  clear e_
  refine lv_istore (lv' := [(6, .int v_3), (5, .int v_2), (4, .int v_1), (0, .ref (a_md 0)), (1, .long p1), (3, .int p3)]) hx hb dX13_behind_22 hl (by decide) rfl (fun ls hl => ?_)
  refine lv_iload_n hx hb dX13_behind_24 rfl (lv_at hl 5 rfl) ?_
  obtain ⟨r_4, hc_, hf⟩ := bd1_some hf
  refine call_Si X hI Cj.nil (c_X13_kindOf l g p3 r_4 hc_) ⟨rfl, rfl⟩ ⟨ht _ w_2111, w_2113, ht _ w_155, lk_X13_kindOf⟩ w_2112 rfl hl rfl rfl dX13_behind_25 rfl rfl rfl rfl (fun H locs hI => ?_)
  by_cases h0_ : r_4 = (0 : Int32)
  · replace hf := if_t h0_ hf
    refine lv_lookup (tgt := 56) (off := 28) hx hb dX13_behind_28 (by decide) (by rw [h0_]; rfl) (by decide) ?_
    refine lv_aload_n hx hb dX13_behind_56 rfl (lv_at hl 3 rfl) ?_
    refine lv_lload_n hx hb dX13_behind_57 rfl (lv_at hl 4 rfl) ?_
    refine lv_iload_n hx hb dX13_behind_58 rfl (lv_at hl 5 rfl) ?_
    obtain ⟨r_10, hc_, hf⟩ := bd1_some hf
    refine call_Vl X hI (Cj.keep Cj.id) (c_X13_without l g a_md q_md_tangle q_md_read md p1 p3 r_10 hc_) ⟨rfl, rfl⟩ ⟨ht _ w_2172, w_2175, ht _ w_155, lk_X13_without⟩ w_2174 w_115 rfl rfl rfl hl rfl rfl dX13_behind_59 rfl rfl rfl rfl (fun H locs hI => ?_)
    cases hf
    exact end_l hQ hA X hI dX13_behind_62
  · replace hf := if_f h0_ hf
    by_cases h1_ : r_4 = (1 : Int32)
    · replace hf := if_t h1_ hf
      refine lv_lookup (tgt := 63) (off := 35) hx hb dX13_behind_28 (by decide) (by rw [h1_]; rfl) (by decide) ?_
      refine lv_aload_n hx hb dX13_behind_63 rfl (lv_at hl 3 rfl) ?_
      refine lv_aload_n hx hb dX13_behind_64 rfl (lv_at hl 3 rfl) ?_
      refine lv_lload_n hx hb dX13_behind_65 rfl (lv_at hl 4 rfl) ?_
      refine lv_iload hx hb dX13_behind_66 (lv_at hl 2 rfl) ?_
      obtain ⟨r_8, hc_, hf⟩ := bd1_some hf
      refine call_Vl X hI (Cj.keep Cj.id) (c_X13_without l g a_md q_md_tangle q_md_read md p1 v_1 r_8 hc_) ⟨rfl, rfl⟩ ⟨ht _ w_2172, w_2175, ht _ w_155, lk_X13_without⟩ w_2174 w_115 rfl rfl rfl hl rfl rfl dX13_behind_68 rfl rfl rfl rfl (fun H locs hI => ?_)
      refine lv_iload hx hb dX13_behind_71 (lv_at hl 1 rfl) ?_
      obtain ⟨r_9, hc_, hf⟩ := bd1_some hf
      refine call_Vl X hI (Cj.keep Cj.id) (c_X13_without l g a_md q_md_tangle q_md_read md r_8 v_2 r_9 hc_) ⟨rfl, rfl⟩ ⟨ht _ w_2172, w_2175, ht _ w_155, lk_X13_without⟩ w_2174 w_115 rfl rfl rfl hl rfl rfl dX13_behind_73 rfl rfl rfl rfl (fun H locs hI => ?_)
      cases hf
      exact end_l hQ hA X hI dX13_behind_76
    · replace hf := if_f h1_ hf
      refine lv_lookup (tgt := 77) (off := 49) hx hb dX13_behind_28 (by decide) (by have q0 := sw_ne h0_ (j := 0) (by decide); have q1 := sw_ne h1_ (j := 1) (by decide); simp only [lookupswitch.offset_cons, lookupswitch.offset_nil]; rw [if_neg (by omega)]; rw [if_neg (by omega)]) (by decide) ?_
      refine lv_aload_n hx hb dX13_behind_77 rfl (lv_at hl 3 rfl) ?_
      refine lv_aload_n hx hb dX13_behind_78 rfl (lv_at hl 3 rfl) ?_
      refine lv_aload_n hx hb dX13_behind_79 rfl (lv_at hl 3 rfl) ?_
      refine lv_lload_n hx hb dX13_behind_80 rfl (lv_at hl 4 rfl) ?_
      refine lv_iconst (v := 2) hx hb dX13_behind_81 (by decide) ?_
      refine lv_iload hx hb dX13_behind_82 (lv_at hl 0 rfl) ?_
      refine lv_imul hx hb dX13_behind_84 ?_
      refine lv_iconst (v := 1) hx hb dX13_behind_85 (by decide) ?_
      refine lv_iadd hx hb dX13_behind_86 ?_
      refine lv_iconst (v := 2) hx hb dX13_behind_87 (by decide) ?_
      refine lv_iload hx hb dX13_behind_88 (lv_at hl 2 rfl) ?_
      refine lv_imul hx hb dX13_behind_90 ?_
      refine lv_iconst (v := 1) hx hb dX13_behind_91 (by decide) ?_
      refine lv_iadd hx hb dX13_behind_92 ?_
      obtain ⟨r_5, hc_, hf⟩ := bd1_some hf
      refine call_Vl X hI (Cj.keep Cj.id) (c_X13_changed l g a_md q_md_tangle q_md_read md p1 (((2 : Int32) * v_3) + (1 : Int32)) (((2 : Int32) * v_1) + (1 : Int32)) r_5 hc_) ⟨rfl, rfl⟩ ⟨ht _ w_2180, w_2183, ht _ w_155, lk_X13_changed⟩ w_2182 w_116 rfl rfl rfl hl rfl rfl dX13_behind_93 rfl rfl rfl rfl (fun H locs hI => ?_)
      refine lv_iconst (v := 2) hx hb dX13_behind_96 (by decide) ?_
      refine lv_iload hx hb dX13_behind_97 (lv_at hl 0 rfl) ?_
      refine lv_imul hx hb dX13_behind_99 ?_
      refine lv_iconst (v := 2) hx hb dX13_behind_100 (by decide) ?_
      refine lv_iload hx hb dX13_behind_101 (lv_at hl 1 rfl) ?_
      refine lv_imul hx hb dX13_behind_103 ?_
      refine lv_iconst (v := 1) hx hb dX13_behind_104 (by decide) ?_
      refine lv_iadd hx hb dX13_behind_105 ?_
      obtain ⟨r_6, hc_, hf⟩ := bd1_some hf
      refine call_Vl X hI (Cj.keep Cj.id) (c_X13_changed l g a_md q_md_tangle q_md_read md r_5 ((2 : Int32) * v_3) (((2 : Int32) * v_2) + (1 : Int32)) r_6 hc_) ⟨rfl, rfl⟩ ⟨ht _ w_2180, w_2183, ht _ w_155, lk_X13_changed⟩ w_2182 w_116 rfl rfl rfl hl rfl rfl dX13_behind_106 rfl rfl rfl rfl (fun H locs hI => ?_)
      refine lv_iconst (v := 2) hx hb dX13_behind_109 (by decide) ?_
      refine lv_iload hx hb dX13_behind_110 (lv_at hl 2 rfl) ?_
      refine lv_imul hx hb dX13_behind_112 ?_
      refine lv_iconst (v := 2) hx hb dX13_behind_113 (by decide) ?_
      refine lv_iload hx hb dX13_behind_114 (lv_at hl 1 rfl) ?_
      refine lv_imul hx hb dX13_behind_116 ?_
      obtain ⟨r_7, hc_, hf⟩ := bd1_some hf
      refine call_Vl X hI (Cj.keep Cj.id) (c_X13_changed l g a_md q_md_tangle q_md_read md r_6 ((2 : Int32) * v_1) ((2 : Int32) * v_2) r_7 hc_) ⟨rfl, rfl⟩ ⟨ht _ w_2180, w_2183, ht _ w_155, lk_X13_changed⟩ w_2182 w_116 rfl rfl rfl hl rfl rfl dX13_behind_117 rfl rfl rfl rfl (fun H locs hI => ?_)
      cases hf
      exact end_l hQ hA X hI dX13_behind_120
abbrev rm_X13_nextMove : Room := { frames := 2, cells := 0, slots := 0, locals := 44 }
set_option maxRecDepth 20000 in
theorem c_X13_nextMove (l : Launch) (g : GT) (a_md : Nat → Nat) (a_tn : Nat → Nat) (q_md_read : Option Nat) (md : MdS) (tn : TnS) (p1 : Int32) (r_ : Int32) (hf : f_X13_nextMove tn p1 = some (r_)) : CI l yX13_nextMove cX13_nextMove 3 (some .int) rm_X13_nextMove g [.ref (a_md 0), .int p1] (wMd g a_md (some (a_tn 0)) q_md_read md ++ (wTn g a_tn tn ++ [])) (wMd g a_md (some (a_tn 0)) q_md_read md ++ (wTn g a_tn tn ++ [])) r_ := by
  refine start2 (y := yX13_nextMove) (cc := cX13_nextMove) (n := 3) (av := [.ref (a_md 0), .int p1]) (ws := (wMd g a_md (some (a_tn 0)) q_md_read md ++ (wTn g a_tn tn ++ []))) (Qc := fun sz => QI g (wMd g a_md (some (a_tn 0)) q_md_read md ++ (wTn g a_tn tn ++ [])) (wMd g a_md (some (a_tn 0)) q_md_read md ++ (wTn g a_tn tn ++ [])) r_ sz) (by decide) rfl ?_
  intro p e s m args below meth c ls Q A ha hQ hA X hl hI hin
  have X : Cx p s m args meth c cX13_nextMove 3 RX13 (some .int) := X
  have hl : lv_has ls 3 [(0, .ref (a_md 0)), (1, .int p1)] := hl
  obtain ⟨hx, hb, hml, hown, ht, hr, hlk⟩ := id X
  clear ha hin
  have L_64 : ∀ (t0i : Int32) (k4 : (Int32) → (TnS) → Option (Int32)) (H : Heap) (locs : List Loc) (ls : Array Slot), lv_has ls 3 [(0, .ref (a_md 0))] → In g A s.heap s (wMd g a_md (some (a_tn 0)) q_md_read md ++ (wTn g a_tn tn ++ [])) H locs → f_X13_nextMove_L64 t0i tn k4 = some (r_) → (∀ (x2 : Int32) (H : Heap) (locs : List Loc) (ls : Array Slot), lv_has ls 3 [(0, .ref (a_md 0)), (2, .int x2)] → In g A s.heap s (wMd g a_md (some (a_tn 0)) q_md_read md ++ (wTn g a_tn tn ++ [])) H locs → k4 x2 tn = some (r_) → W p l e rm_X13_nextMove s m args below meth c H locs 0 0 Q (F0 m 4 ls [])) → W p l e rm_X13_nextMove s m args below meth c H locs 0 0 Q (F0 m 64 ls [.int t0i]) := by
    intro t0i k4 H locs ls hl hI hf hk4
    unfold f_X13_nextMove_L64 at hf
    refine lv_istore_n (lv' := [(2, .int t0i), (0, .ref (a_md 0))]) hx hb dX13_nextMove_64 rfl hl (by decide) rfl (fun ls hl => ?_)
    refine lv_goto (tgt := 4) hx hb dX13_nextMove_65 (by decide) ?_
    exact hk4 t0i _ _ _ (lv_sub hl [1, 0] rfl) hI hf
  have L_61 : ∀ (x2 : Int32) (k4 : (Int32) → (TnS) → Option (Int32)) (H : Heap) (locs : List Loc) (ls : Array Slot), lv_has ls 3 [(0, .ref (a_md 0)), (2, .int x2)] → In g A s.heap s (wMd g a_md (some (a_tn 0)) q_md_read md ++ (wTn g a_tn tn ++ [])) H locs → f_X13_nextMove_L61 x2 tn k4 = some (r_) → (∀ (x2 : Int32) (H : Heap) (locs : List Loc) (ls : Array Slot), lv_has ls 3 [(0, .ref (a_md 0)), (2, .int x2)] → In g A s.heap s (wMd g a_md (some (a_tn 0)) q_md_read md ++ (wTn g a_tn tn ++ [])) H locs → k4 x2 tn = some (r_) → W p l e rm_X13_nextMove s m args below meth c H locs 0 0 Q (F0 m 4 ls [])) → W p l e rm_X13_nextMove s m args below meth c H locs 0 0 Q (F0 m 61 ls []) := by
    intro x2 k4 H locs ls hl hI hf hk4
    unfold f_X13_nextMove_L61 at hf
    refine lv_iload_n hx hb dX13_nextMove_61 rfl (lv_at hl 1 rfl) ?_
    refine lv_iconst (v := 1) hx hb dX13_nextMove_62 (by decide) ?_
    refine lv_iadd hx hb dX13_nextMove_63 ?_
    exact L_64 (x2 + (1 : Int32)) _ _ _ _ (lv_sub hl [0] rfl) hI hf hk4
  have L_41 : ∀ (x2 : Int32) (k4 : (Int32) → (TnS) → Option (Int32)) (H : Heap) (locs : List Loc) (ls : Array Slot), lv_has ls 3 [(0, .ref (a_md 0)), (2, .int x2)] → In g A s.heap s (wMd g a_md (some (a_tn 0)) q_md_read md ++ (wTn g a_tn tn ++ [])) H locs → f_X13_nextMove_L41 x2 tn k4 = some (r_) → (∀ (x2 : Int32) (H : Heap) (locs : List Loc) (ls : Array Slot), lv_has ls 3 [(0, .ref (a_md 0)), (2, .int x2)] → In g A s.heap s (wMd g a_md (some (a_tn 0)) q_md_read md ++ (wTn g a_tn tn ++ [])) H locs → k4 x2 tn = some (r_) → W p l e rm_X13_nextMove s m args below meth c H locs 0 0 Q (F0 m 4 ls [])) → W p l e rm_X13_nextMove s m args below meth c H locs 0 0 Q (F0 m 41 ls []) := by
    intro x2 k4 H locs ls hl hI hf hk4
    unfold f_X13_nextMove_L41 at hf
    refine lv_iload_n hx hb dX13_nextMove_41 rfl (lv_at hl 1 rfl) ?_
    refine lv_sipush (v := 200) hx hb dX13_nextMove_42 (by decide) ?_
    refine lv_icmp_lt (tgt := 61) hx hb dX13_nextMove_45 (by decide) (fun h_ => ?_) (fun h_ => ?_)
    · replace hf := if_t h_ hf
      exact L_61 x2 _ _ _ _ hl hI hf hk4
    · replace hf := if_f h_ hf
      refine lv_iload_n hx hb dX13_nextMove_48 rfl (lv_at hl 1 rfl) ?_
      refine lv_sipush (v := 1000) hx hb dX13_nextMove_49 (by decide) ?_
      refine lv_icmp_ge (tgt := 61) hx hb dX13_nextMove_52 (by decide) (fun h_ => ?_) (fun h_ => ?_)
      · replace hf := if_t h_ hf
        exact L_61 x2 _ _ _ _ hl hI hf hk4
      · replace hf := if_f h_ hf
        refine lv_sipush (v := 1000) hx hb dX13_nextMove_55 (by decide) ?_
        refine lv_goto (tgt := 64) hx hb dX13_nextMove_58 (by decide) ?_
        exact L_64 (1000 : Int32) _ _ _ _ (lv_sub hl [0] rfl) hI hf hk4
  have L_4 : ∀ (n_ : Nat) (x2 : Int32) (H : Heap) (locs : List Loc) (ls : Array Slot), lv_has ls 3 [(0, .ref (a_md 0)), (2, .int x2)] → In g A s.heap s (wMd g a_md (some (a_tn 0)) q_md_read md ++ (wTn g a_tn tn ++ [])) H locs → f_X13_nextMove_L4 n_ x2 tn = some (r_) → W p l e rm_X13_nextMove s m args below meth c H locs 0 0 Q (F0 m 4 ls []) := by
    intro n_
    induction n_ with
    | zero =>
      intro x2 H locs ls hl hI hf
      rw [f_X13_nextMove_L4] at hf
      cases hf
    | succ n_ ih =>
      intro x2 H locs ls hl hI hf
      rw [f_X13_nextMove_L4] at hf
      refine lv_iload_n hx hb dX13_nextMove_4 rfl (lv_at hl 1 rfl) ?_
      refine lv_sipush (v := 2000) hx hb dX13_nextMove_5 (by decide) ?_
      refine lv_icmp_ge (tgt := 68) hx hb dX13_nextMove_8 (by decide) (fun h_ => ?_) (fun h_ => ?_)
      · replace hf := if_t h_ hf
        refine lv_iload_n hx hb dX13_nextMove_68 rfl (lv_at hl 1 rfl) ?_
        cases hf
        exact end_i hQ hA X hI dX13_nextMove_69
      · replace hf := if_f h_ hf
        refine lv_aload_n hx hb dX13_nextMove_11 rfl (lv_at hl 0 rfl) ?_
        refine lv_iload_n hx hb dX13_nextMove_12 rfl (lv_at hl 1 rfl) ?_
        obtain ⟨r_2, hc_, hf⟩ := bd1_some hf
        refine call_Vi X hI (Cj.keep (Cj.keep Cj.id)) (c_X13_isMove l g a_md a_tn q_md_read md tn x2 r_2 hc_) ⟨rfl, rfl⟩ ⟨ht _ w_2107, w_2110, ht _ w_155, lk_X13_isMove⟩ w_2109 w_104 rfl rfl rfl hl rfl rfl dX13_nextMove_13 rfl rfl rfl rfl (fun H locs hI => ?_)
        refine lv_if_ne (tgt := 68) hx hb dX13_nextMove_16 (by decide) (fun h_ => ?_) (fun h_ => ?_)
        · replace hf := if_f h_ hf
          refine lv_iload_n hx hb dX13_nextMove_68 rfl (lv_at hl 1 rfl) ?_
          cases hf
          exact end_i hQ hA X hI dX13_nextMove_69
        · replace hf := if_t h_ hf
          refine lv_iload_n hx hb dX13_nextMove_19 rfl (lv_at hl 1 rfl) ?_
          refine lv_bipush (v := 100) hx hb dX13_nextMove_20 (by decide) ?_
          refine lv_icmp_ge (tgt := 41) hx hb dX13_nextMove_22 (by decide) (fun h_ => ?_) (fun h_ => ?_)
          · replace hf := if_t h_ hf
            exact L_41 x2 _ _ _ _ hl hI hf (fun z_0 _ _ _ hl hI hf => ih z_0 _ _ _ hl hI hf)
          · replace hf := if_f h_ hf
            refine lv_iload_n hx hb dX13_nextMove_25 rfl (lv_at hl 1 rfl) ?_
            refine lv_aload_n hx hb dX13_nextMove_26 rfl (lv_at hl 0 rfl) ?_
            refine g_Md_tangle_S X hI has_Md.l (X.fl w_1586) dX13_nextMove_27 ?_
            refine g_Tn_crossings X hI has_Tn.l.r (hI.fn (List.mem_of_getElem? (i := 82) rfl)) dX13_nextMove_30 ?_
            refine lv_icmp_lt (tgt := 41) hx hb dX13_nextMove_33 (by decide) (fun h_ => ?_) (fun h_ => ?_)
            · replace hf := if_t h_ hf
              exact L_41 x2 _ _ _ _ hl hI hf (fun z_0 _ _ _ hl hI hf => ih z_0 _ _ _ hl hI hf)
            · replace hf := if_f h_ hf
              refine lv_bipush (v := 100) hx hb dX13_nextMove_36 (by decide) ?_
              refine lv_goto (tgt := 64) hx hb dX13_nextMove_38 (by decide) ?_
              exact L_64 (100 : Int32) _ _ _ _ (lv_sub hl [0] rfl) hI hf (fun z_0 _ _ _ hl hI hf => ih z_0 _ _ _ hl hI hf)
  unfold f_X13_nextMove at hf
  refine lv_iload_n hx hb dX13_nextMove_0 rfl (lv_at hl 1 rfl) ?_
  refine lv_iconst (v := 1) hx hb dX13_nextMove_1 (by decide) ?_
  refine lv_iadd hx hb dX13_nextMove_2 ?_
  refine lv_topi (fun v_1 e_ => ?_)
  replace hf := lt_to e_ hf
  clear e_
  refine lv_istore_n (lv' := [(2, .int v_1), (0, .ref (a_md 0)), (1, .int p1)]) hx hb dX13_nextMove_3 rfl hl (by decide) rfl (fun ls hl => ?_)
  exact L_4 FU v_1 _ _ _ (lv_sub hl [1, 0] rfl) hI hf
abbrev rm_X13_nextMay : Room := { frames := 4, cells := 0, slots := 0, locals := 89 }
set_option maxRecDepth 20000 in
theorem c_X13_nextMay (l : Launch) (g : GT) (a_md : Nat → Nat) (a_tn : Nat → Nat) (q_md_read : Option Nat) (md : MdS) (tn : TnS) (p1 : Int32) (r_ : Int32) (hf : f_X13_nextMay md tn p1 = some (r_)) : CI l yX13_nextMay cX13_nextMay 3 (some .int) rm_X13_nextMay g [.ref (a_md 0), .int p1] (wMd g a_md (some (a_tn 0)) q_md_read md ++ (wTn g a_tn tn ++ [])) (wMd g a_md (some (a_tn 0)) q_md_read md ++ (wTn g a_tn tn ++ [])) r_ := by
  refine start2 (y := yX13_nextMay) (cc := cX13_nextMay) (n := 3) (av := [.ref (a_md 0), .int p1]) (ws := (wMd g a_md (some (a_tn 0)) q_md_read md ++ (wTn g a_tn tn ++ []))) (Qc := fun sz => QI g (wMd g a_md (some (a_tn 0)) q_md_read md ++ (wTn g a_tn tn ++ [])) (wMd g a_md (some (a_tn 0)) q_md_read md ++ (wTn g a_tn tn ++ [])) r_ sz) (by decide) rfl ?_
  intro p e s m args below meth c ls Q A ha hQ hA X hl hI hin
  have X : Cx p s m args meth c cX13_nextMay 3 RX13 (some .int) := X
  have hl : lv_has ls 3 [(0, .ref (a_md 0)), (1, .int p1)] := hl
  obtain ⟨hx, hb, hml, hown, ht, hr, hlk⟩ := id X
  clear ha hin
  have L_6 : ∀ (n_ : Nat) (x2 : Int32) (H : Heap) (locs : List Loc) (ls : Array Slot), lv_has ls 3 [(0, .ref (a_md 0)), (2, .int x2)] → In g A s.heap s (wMd g a_md (some (a_tn 0)) q_md_read md ++ (wTn g a_tn tn ++ [])) H locs → f_X13_nextMay_L6 n_ x2 md tn = some (r_) → W p l e rm_X13_nextMay s m args below meth c H locs 0 0 Q (F0 m 6 ls []) := by
    intro n_
    induction n_ with
    | zero =>
      intro x2 H locs ls hl hI hf
      rw [f_X13_nextMay_L6] at hf
      cases hf
    | succ n_ ih =>
      intro x2 H locs ls hl hI hf
      rw [f_X13_nextMay_L6] at hf
      refine lv_iload_n hx hb dX13_nextMay_6 rfl (lv_at hl 1 rfl) ?_
      refine lv_sipush (v := 2000) hx hb dX13_nextMay_7 (by decide) ?_
      refine lv_icmp_ge (tgt := 30) hx hb dX13_nextMay_10 (by decide) (fun h_ => ?_) (fun h_ => ?_)
      · replace hf := if_t h_ hf
        refine lv_iload_n hx hb dX13_nextMay_30 rfl (lv_at hl 1 rfl) ?_
        cases hf
        exact end_i hQ hA X hI dX13_nextMay_31
      · replace hf := if_f h_ hf
        refine lv_aload_n hx hb dX13_nextMay_13 rfl (lv_at hl 0 rfl) ?_
        refine lv_iload_n hx hb dX13_nextMay_14 rfl (lv_at hl 1 rfl) ?_
        obtain ⟨r_2, hc_, hf⟩ := bd1_some hf
        refine call_Vi X hI (Cj.keep (Cj.keep Cj.id)) (c_X13_mayMove l g a_md a_tn q_md_read md tn x2 r_2 hc_) ⟨rfl, rfl⟩ ⟨ht _ w_2114, w_2117, ht _ w_155, lk_X13_mayMove⟩ w_2116 w_105 rfl rfl rfl hl rfl rfl dX13_nextMay_15 rfl rfl rfl rfl (fun H locs hI => ?_)
        refine lv_if_ne (tgt := 30) hx hb dX13_nextMay_18 (by decide) (fun h_ => ?_) (fun h_ => ?_)
        · replace hf := if_f h_ hf
          refine lv_iload_n hx hb dX13_nextMay_30 rfl (lv_at hl 1 rfl) ?_
          cases hf
          exact end_i hQ hA X hI dX13_nextMay_31
        · replace hf := if_t h_ hf
          refine lv_aload_n hx hb dX13_nextMay_21 rfl (lv_at hl 0 rfl) ?_
          refine lv_iload_n hx hb dX13_nextMay_22 rfl (lv_at hl 1 rfl) ?_
          obtain ⟨r_3, hc_, hf⟩ := bd1_some hf
          refine call_Vi X hI (Cj.keep (Cj.keep Cj.id)) (c_X13_nextMove l g a_md a_tn q_md_read md tn x2 r_3 hc_) ⟨rfl, rfl⟩ ⟨ht _ w_2142, w_2145, ht _ w_155, lk_X13_nextMove⟩ w_2144 w_110 rfl rfl rfl hl rfl rfl dX13_nextMay_23 rfl rfl rfl rfl (fun H locs hI => ?_)
          refine lv_istore_n (lv' := [(2, .int r_3), (0, .ref (a_md 0))]) hx hb dX13_nextMay_26 rfl hl (by decide) rfl (fun ls hl => ?_)
          refine lv_goto (tgt := 6) hx hb dX13_nextMay_27 (by decide) ?_
          exact ih r_3 _ _ _ (lv_sub hl [1, 0] rfl) hI hf
  unfold f_X13_nextMay at hf
  refine lv_aload_n hx hb dX13_nextMay_0 rfl (lv_at hl 0 rfl) ?_
  refine lv_iload_n hx hb dX13_nextMay_1 rfl (lv_at hl 1 rfl) ?_
  obtain ⟨r_1, hc_, hf⟩ := bd1_some hf
  refine call_Vi X hI (Cj.keep (Cj.keep Cj.id)) (c_X13_nextMove l g a_md a_tn q_md_read md tn p1 r_1 hc_) ⟨rfl, rfl⟩ ⟨ht _ w_2142, w_2145, ht _ w_155, lk_X13_nextMove⟩ w_2144 w_110 rfl rfl rfl hl rfl rfl dX13_nextMay_2 rfl rfl rfl rfl (fun H locs hI => ?_)
  refine lv_istore_n (lv' := [(2, .int r_1), (0, .ref (a_md 0)), (1, .int p1)]) hx hb dX13_nextMay_5 rfl hl (by decide) rfl (fun ls hl => ?_)
  exact L_6 FU r_1 _ _ _ (lv_sub hl [1, 0] rfl) hI hf
abbrev rm_X13_leftIn : Room := { frames := 1, cells := 0, slots := 0, locals := 22 }
set_option maxRecDepth 20000 in
theorem c_X13_leftIn (l : Launch) (g : GT) (a_md : Nat → Nat) (a_tn : Nat → Nat) (q_md_read : Option Nat) (md : MdS) (tn : TnS) (p1 : Int64) (r_ : Int32) (hf : f_X13_leftIn tn p1 = some (r_)) : CI l yX13_leftIn cX13_leftIn 5 (some .int) rm_X13_leftIn g [.ref (a_md 0), .long p1] (wMd g a_md (some (a_tn 0)) q_md_read md ++ (wTn g a_tn tn ++ [])) (wMd g a_md (some (a_tn 0)) q_md_read md ++ (wTn g a_tn tn ++ [])) r_ := by
  refine start2 (y := yX13_leftIn) (cc := cX13_leftIn) (n := 5) (av := [.ref (a_md 0), .long p1]) (ws := (wMd g a_md (some (a_tn 0)) q_md_read md ++ (wTn g a_tn tn ++ []))) (Qc := fun sz => QI g (wMd g a_md (some (a_tn 0)) q_md_read md ++ (wTn g a_tn tn ++ [])) (wMd g a_md (some (a_tn 0)) q_md_read md ++ (wTn g a_tn tn ++ [])) r_ sz) (by decide) rfl ?_
  intro p e s m args below meth c ls Q A ha hQ hA X hl hI hin
  have X : Cx p s m args meth c cX13_leftIn 5 RX13 (some .int) := X
  have hl : lv_has ls 5 [(0, .ref (a_md 0)), (1, .long p1)] := hl
  obtain ⟨hx, hb, hml, hown, ht, hr, hlk⟩ := id X
  clear ha hin
  have L_34 : ∀ (x1 : Int64) (x4 : Int32) (t0i : Int32) (t1i : Int32) (k5 : (Int64) → (Int32) → (Int32) → (TnS) → Option (Int32)) (H : Heap) (locs : List Loc) (ls : Array Slot), lv_has ls 5 [(0, .ref (a_md 0)), (1, .long x1), (4, .int x4)] → In g A s.heap s (wMd g a_md (some (a_tn 0)) q_md_read md ++ (wTn g a_tn tn ++ [])) H locs → f_X13_leftIn_L34 x1 x4 t0i t1i tn k5 = some (r_) → (∀ (x1 : Int64) (x3 : Int32) (x4 : Int32) (H : Heap) (locs : List Loc) (ls : Array Slot), lv_has ls 5 [(0, .ref (a_md 0)), (1, .long x1), (3, .int x3), (4, .int x4)] → In g A s.heap s (wMd g a_md (some (a_tn 0)) q_md_read md ++ (wTn g a_tn tn ++ [])) H locs → k5 x1 x3 x4 tn = some (r_) → W p l e rm_X13_leftIn s m args below meth c H locs 0 0 Q (F0 m 5 ls [])) → W p l e rm_X13_leftIn s m args below meth c H locs 0 0 Q (F0 m 34 ls [.int t1i, .int t0i]) := by
    intro x1 x4 t0i t1i k5 H locs ls hl hI hf hk5
    unfold f_X13_leftIn_L34 at hf
    refine lv_iadd hx hb dX13_leftIn_34 ?_
    refine lv_topi (fun v_2 e_ => ?_)
    replace hf := lt_to e_ hf
    clear e_
    refine lv_istore_n (lv' := [(3, .int v_2), (0, .ref (a_md 0)), (1, .long x1), (4, .int x4)]) hx hb dX13_leftIn_35 rfl hl (by decide) rfl (fun ls hl => ?_)
    obtain ⟨v_3, e_⟩ : ∃ y : Int32, y = (x4 + (1 : Int32)) := ⟨_, rfl⟩
    replace hf := lt_to e_ hf
    refine lv_iinc (v := v_3) (lv' := [(4, .int v_3), (3, .int v_2), (0, .ref (a_md 0)), (1, .long x1)]) hx hb dX13_leftIn_36 hl (k := 3) rfl (by rw [e_]; rfl) (by decide) rfl (fun ls hl => ?_)
    clear e_
    refine lv_goto (tgt := 5) hx hb dX13_leftIn_39 (by decide) ?_
    exact hk5 x1 v_2 v_3 _ _ _ (lv_sub hl [2, 3, 1, 0] rfl) hI hf
  have L_5 : ∀ (n_ : Nat) (x1 : Int64) (x3 : Int32) (x4 : Int32) (H : Heap) (locs : List Loc) (ls : Array Slot), lv_has ls 5 [(0, .ref (a_md 0)), (1, .long x1), (3, .int x3), (4, .int x4)] → In g A s.heap s (wMd g a_md (some (a_tn 0)) q_md_read md ++ (wTn g a_tn tn ++ [])) H locs → f_X13_leftIn_L5 n_ x1 x3 x4 tn = some (r_) → W p l e rm_X13_leftIn s m args below meth c H locs 0 0 Q (F0 m 5 ls []) := by
    intro n_
    induction n_ with
    | zero =>
      intro x1 x3 x4 H locs ls hl hI hf
      rw [f_X13_leftIn_L5] at hf
      cases hf
    | succ n_ ih =>
      intro x1 x3 x4 H locs ls hl hI hf
      rw [f_X13_leftIn_L5] at hf
      refine lv_iload hx hb dX13_leftIn_5 (lv_at hl 3 rfl) ?_
      refine lv_aload_n hx hb dX13_leftIn_7 rfl (lv_at hl 0 rfl) ?_
      refine g_Md_tangle_S X hI has_Md.l (X.fl w_1586) dX13_leftIn_8 ?_
      refine g_Tn_standings X hI has_Tn.l.r (hI.fn (List.mem_of_getElem? (i := 85) rfl)) dX13_leftIn_11 ?_
      refine lv_icmp_ge (tgt := 42) hx hb dX13_leftIn_14 (by decide) (fun h_ => ?_) (fun h_ => ?_)
      · replace hf := if_t h_ hf
        refine lv_iload_n hx hb dX13_leftIn_42 rfl (lv_at hl 2 rfl) ?_
        refine lv_iconst (v := 2) hx hb dX13_leftIn_43 (by decide) ?_
        refine lv_idiv hx hb dX13_leftIn_44 (by decide) ?_
        cases hf
        exact end_i hQ hA X hI dX13_leftIn_45
      · replace hf := if_f h_ hf
        refine lv_iload_n hx hb dX13_leftIn_17 rfl (lv_at hl 2 rfl) ?_
        refine lv_lload_n hx hb dX13_leftIn_18 rfl (lv_at hl 1 rfl) ?_
        refine lv_iload hx hb dX13_leftIn_19 (lv_at hl 3 rfl) ?_
        obtain ⟨r_1, hc_, hf⟩ := bd1_some hf
        refine call_Si X hI Cj.nil (c_X13_at l g x1 x4 r_1 hc_) ⟨rfl, rfl⟩ ⟨ht _ w_2051, w_2053, ht _ w_155, lk_X13_at⟩ w_2052 rfl hl rfl rfl dX13_leftIn_21 rfl rfl rfl rfl (fun H locs hI => ?_)
        refine lv_bipush (v := 15) hx hb dX13_leftIn_24 (by decide) ?_
        refine lv_icmp_eq (tgt := 33) hx hb dX13_leftIn_26 (by decide) (fun h_ => ?_) (fun h_ => ?_)
        · replace hf := if_t h_ hf
          refine lv_iconst (v := 0) hx hb dX13_leftIn_33 (by decide) ?_
          exact L_34 x1 x4 x3 (0 : Int32) _ _ _ _ (lv_sub hl [0, 1, 3] rfl) hI hf (fun z_0 z_1 z_2 _ _ _ hl hI hf => ih z_0 z_1 z_2 _ _ _ hl hI hf)
        · replace hf := if_f h_ hf
          refine lv_iconst (v := 1) hx hb dX13_leftIn_29 (by decide) ?_
          refine lv_goto (tgt := 34) hx hb dX13_leftIn_30 (by decide) ?_
          exact L_34 x1 x4 x3 (1 : Int32) _ _ _ _ (lv_sub hl [0, 1, 3] rfl) hI hf (fun z_0 z_1 z_2 _ _ _ hl hI hf => ih z_0 z_1 z_2 _ _ _ hl hI hf)
  unfold f_X13_leftIn at hf
  refine lv_iconst (v := 0) hx hb dX13_leftIn_0 (by decide) ?_
  refine lv_istore_n (lv' := [(3, .int (0 : Int32)), (0, .ref (a_md 0)), (1, .long p1)]) hx hb dX13_leftIn_1 rfl hl (by decide) rfl (fun ls hl => ?_)
  refine lv_iconst (v := 0) hx hb dX13_leftIn_2 (by decide) ?_
  refine lv_istore (lv' := [(4, .int (0 : Int32)), (3, .int (0 : Int32)), (0, .ref (a_md 0)), (1, .long p1)]) hx hb dX13_leftIn_3 hl (by decide) rfl (fun ls hl => ?_)
  exact L_5 FU p1 (0 : Int32) (0 : Int32) _ _ _ (lv_sub hl [2, 3, 1, 0] rfl) hI hf
abbrev rm_X13_isPerson : Room := { frames := 0, cells := 0, slots := 0, locals := 0 }
set_option maxRecDepth 20000 in
theorem c_X13_isPerson (l : Launch) (g : GT) (a_md : Nat → Nat) (a_tn : Nat → Nat) (q_md_read : Option Nat) (md : MdS) (tn : TnS) (p1 : Int32) (r_ : Int32) (hf : f_X13_isPerson tn p1 = some (r_)) : CI l yX13_isPerson cX13_isPerson 2 (some .boolean) rm_X13_isPerson g [.ref (a_md 0), .int p1] (wMd g a_md (some (a_tn 0)) q_md_read md ++ (wTn g a_tn tn ++ [])) (wMd g a_md (some (a_tn 0)) q_md_read md ++ (wTn g a_tn tn ++ [])) r_ := by
  refine start2 (y := yX13_isPerson) (cc := cX13_isPerson) (n := 2) (av := [.ref (a_md 0), .int p1]) (ws := (wMd g a_md (some (a_tn 0)) q_md_read md ++ (wTn g a_tn tn ++ []))) (Qc := fun sz => QI g (wMd g a_md (some (a_tn 0)) q_md_read md ++ (wTn g a_tn tn ++ [])) (wMd g a_md (some (a_tn 0)) q_md_read md ++ (wTn g a_tn tn ++ [])) r_ sz) (by decide) rfl ?_
  intro p e s m args below meth c ls Q A ha hQ hA X hl hI hin
  have X : Cx p s m args meth c cX13_isPerson 2 RX13 (some .boolean) := X
  have hl : lv_has ls 2 [(0, .ref (a_md 0)), (1, .int p1)] := hl
  obtain ⟨hx, hb, hml, hown, ht, hr, hlk⟩ := id X
  clear ha hin
  unfold f_X13_isPerson at hf
  refine lv_aload_n hx hb dX13_isPerson_0 rfl (lv_at hl 0 rfl) ?_
  refine g_Md_tangle_S X hI has_Md.l (X.fl w_1586) dX13_isPerson_1 ?_
  refine lv_ifnull hx hb dX13_isPerson_4 ?_
  refine lv_iload_n hx hb dX13_isPerson_7 rfl (lv_at hl 1 rfl) ?_
  refine lv_if_lt (tgt := 26) hx hb dX13_isPerson_8 (by decide) (fun h_ => ?_) (fun h_ => ?_)
  · replace hf := if_t h_ hf
    refine lv_iconst (v := 0) hx hb dX13_isPerson_26 (by decide) ?_
    cases hf
    exact end_z hQ hA X hI rfl dX13_isPerson_27
  · replace hf := if_f h_ hf
    refine lv_iload_n hx hb dX13_isPerson_11 rfl (lv_at hl 1 rfl) ?_
    refine lv_aload_n hx hb dX13_isPerson_12 rfl (lv_at hl 0 rfl) ?_
    refine g_Md_tangle_S X hI has_Md.l (X.fl w_1586) dX13_isPerson_13 ?_
    refine g_Tn_people X hI has_Tn.l.r (hI.fn (List.mem_of_getElem? (i := 80) rfl)) dX13_isPerson_16 ?_
    refine lv_icmp_ge (tgt := 26) hx hb dX13_isPerson_19 (by decide) (fun h_ => ?_) (fun h_ => ?_)
    · replace hf := if_t h_ hf
      refine lv_iconst (v := 0) hx hb dX13_isPerson_26 (by decide) ?_
      cases hf
      exact end_z hQ hA X hI rfl dX13_isPerson_27
    · replace hf := if_f h_ hf
      refine lv_iconst (v := 1) hx hb dX13_isPerson_22 (by decide) ?_
      refine lv_goto (tgt := 27) hx hb dX13_isPerson_23 (by decide) ?_
      cases hf
      exact end_z hQ hA X hI rfl dX13_isPerson_27
abbrev rm_X13_isRing : Room := { frames := 0, cells := 0, slots := 0, locals := 0 }
set_option maxRecDepth 20000 in
theorem c_X13_isRing (l : Launch) (g : GT) (a_md : Nat → Nat) (a_tn : Nat → Nat) (q_md_read : Option Nat) (md : MdS) (tn : TnS) (p1 : Int32) (r_ : Int32) (hf : f_X13_isRing tn p1 = some (r_)) : CI l yX13_isRing cX13_isRing 2 (some .boolean) rm_X13_isRing g [.ref (a_md 0), .int p1] (wMd g a_md (some (a_tn 0)) q_md_read md ++ (wTn g a_tn tn ++ [])) (wMd g a_md (some (a_tn 0)) q_md_read md ++ (wTn g a_tn tn ++ [])) r_ := by
  refine start2 (y := yX13_isRing) (cc := cX13_isRing) (n := 2) (av := [.ref (a_md 0), .int p1]) (ws := (wMd g a_md (some (a_tn 0)) q_md_read md ++ (wTn g a_tn tn ++ []))) (Qc := fun sz => QI g (wMd g a_md (some (a_tn 0)) q_md_read md ++ (wTn g a_tn tn ++ [])) (wMd g a_md (some (a_tn 0)) q_md_read md ++ (wTn g a_tn tn ++ [])) r_ sz) (by decide) rfl ?_
  intro p e s m args below meth c ls Q A ha hQ hA X hl hI hin
  have X : Cx p s m args meth c cX13_isRing 2 RX13 (some .boolean) := X
  have hl : lv_has ls 2 [(0, .ref (a_md 0)), (1, .int p1)] := hl
  obtain ⟨hx, hb, hml, hown, ht, hr, hlk⟩ := id X
  clear ha hin
  unfold f_X13_isRing at hf
  refine lv_aload_n hx hb dX13_isRing_0 rfl (lv_at hl 0 rfl) ?_
  refine g_Md_tangle_S X hI has_Md.l (X.fl w_1586) dX13_isRing_1 ?_
  refine lv_ifnull hx hb dX13_isRing_4 ?_
  refine lv_iload_n hx hb dX13_isRing_7 rfl (lv_at hl 1 rfl) ?_
  refine lv_if_lt (tgt := 26) hx hb dX13_isRing_8 (by decide) (fun h_ => ?_) (fun h_ => ?_)
  · replace hf := if_t h_ hf
    refine lv_iconst (v := 0) hx hb dX13_isRing_26 (by decide) ?_
    cases hf
    exact end_z hQ hA X hI rfl dX13_isRing_27
  · replace hf := if_f h_ hf
    refine lv_iload_n hx hb dX13_isRing_11 rfl (lv_at hl 1 rfl) ?_
    refine lv_aload_n hx hb dX13_isRing_12 rfl (lv_at hl 0 rfl) ?_
    refine g_Md_tangle_S X hI has_Md.l (X.fl w_1586) dX13_isRing_13 ?_
    refine g_Tn_rings X hI has_Tn.l.r (hI.fn (List.mem_of_getElem? (i := 84) rfl)) dX13_isRing_16 ?_
    refine lv_icmp_ge (tgt := 26) hx hb dX13_isRing_19 (by decide) (fun h_ => ?_) (fun h_ => ?_)
    · replace hf := if_t h_ hf
      refine lv_iconst (v := 0) hx hb dX13_isRing_26 (by decide) ?_
      cases hf
      exact end_z hQ hA X hI rfl dX13_isRing_27
    · replace hf := if_f h_ hf
      refine lv_iconst (v := 1) hx hb dX13_isRing_22 (by decide) ?_
      refine lv_goto (tgt := 27) hx hb dX13_isRing_23 (by decide) ?_
      cases hf
      exact end_z hQ hA X hI rfl dX13_isRing_27
abbrev rm_X13_isLink : Room := { frames := 0, cells := 0, slots := 0, locals := 0 }
set_option maxRecDepth 20000 in
theorem c_X13_isLink (l : Launch) (g : GT) (a_md : Nat → Nat) (a_tn : Nat → Nat) (q_md_read : Option Nat) (md : MdS) (tn : TnS) (p1 : Int32) (r_ : Int32) (hf : f_X13_isLink tn p1 = some (r_)) : CI l yX13_isLink cX13_isLink 2 (some .boolean) rm_X13_isLink g [.ref (a_md 0), .int p1] (wMd g a_md (some (a_tn 0)) q_md_read md ++ (wTn g a_tn tn ++ [])) (wMd g a_md (some (a_tn 0)) q_md_read md ++ (wTn g a_tn tn ++ [])) r_ := by
  refine start2 (y := yX13_isLink) (cc := cX13_isLink) (n := 2) (av := [.ref (a_md 0), .int p1]) (ws := (wMd g a_md (some (a_tn 0)) q_md_read md ++ (wTn g a_tn tn ++ []))) (Qc := fun sz => QI g (wMd g a_md (some (a_tn 0)) q_md_read md ++ (wTn g a_tn tn ++ [])) (wMd g a_md (some (a_tn 0)) q_md_read md ++ (wTn g a_tn tn ++ [])) r_ sz) (by decide) rfl ?_
  intro p e s m args below meth c ls Q A ha hQ hA X hl hI hin
  have X : Cx p s m args meth c cX13_isLink 2 RX13 (some .boolean) := X
  have hl : lv_has ls 2 [(0, .ref (a_md 0)), (1, .int p1)] := hl
  obtain ⟨hx, hb, hml, hown, ht, hr, hlk⟩ := id X
  clear ha hin
  unfold f_X13_isLink at hf
  refine lv_aload_n hx hb dX13_isLink_0 rfl (lv_at hl 0 rfl) ?_
  refine g_Md_tangle_S X hI has_Md.l (X.fl w_1586) dX13_isLink_1 ?_
  refine lv_ifnull hx hb dX13_isLink_4 ?_
  refine lv_iload_n hx hb dX13_isLink_7 rfl (lv_at hl 1 rfl) ?_
  refine lv_if_lt (tgt := 26) hx hb dX13_isLink_8 (by decide) (fun h_ => ?_) (fun h_ => ?_)
  · replace hf := if_t h_ hf
    refine lv_iconst (v := 0) hx hb dX13_isLink_26 (by decide) ?_
    cases hf
    exact end_z hQ hA X hI rfl dX13_isLink_27
  · replace hf := if_f h_ hf
    refine lv_iload_n hx hb dX13_isLink_11 rfl (lv_at hl 1 rfl) ?_
    refine lv_aload_n hx hb dX13_isLink_12 rfl (lv_at hl 0 rfl) ?_
    refine g_Md_tangle_S X hI has_Md.l (X.fl w_1586) dX13_isLink_13 ?_
    refine g_Tn_links X hI has_Tn.l.r (hI.fn (List.mem_of_getElem? (i := 81) rfl)) dX13_isLink_16 ?_
    refine lv_icmp_ge (tgt := 26) hx hb dX13_isLink_19 (by decide) (fun h_ => ?_) (fun h_ => ?_)
    · replace hf := if_t h_ hf
      refine lv_iconst (v := 0) hx hb dX13_isLink_26 (by decide) ?_
      cases hf
      exact end_z hQ hA X hI rfl dX13_isLink_27
    · replace hf := if_f h_ hf
      refine lv_iconst (v := 1) hx hb dX13_isLink_22 (by decide) ?_
      refine lv_goto (tgt := 27) hx hb dX13_isLink_23 (by decide) ?_
      cases hf
      exact end_z hQ hA X hI rfl dX13_isLink_27
abbrev rm_X13_isStanding : Room := { frames := 0, cells := 0, slots := 0, locals := 0 }
set_option maxRecDepth 20000 in
theorem c_X13_isStanding (l : Launch) (g : GT) (a_md : Nat → Nat) (a_tn : Nat → Nat) (q_md_read : Option Nat) (md : MdS) (tn : TnS) (p1 : Int32) (r_ : Int32) (hf : f_X13_isStanding tn p1 = some (r_)) : CI l yX13_isStanding cX13_isStanding 2 (some .boolean) rm_X13_isStanding g [.ref (a_md 0), .int p1] (wMd g a_md (some (a_tn 0)) q_md_read md ++ (wTn g a_tn tn ++ [])) (wMd g a_md (some (a_tn 0)) q_md_read md ++ (wTn g a_tn tn ++ [])) r_ := by
  refine start2 (y := yX13_isStanding) (cc := cX13_isStanding) (n := 2) (av := [.ref (a_md 0), .int p1]) (ws := (wMd g a_md (some (a_tn 0)) q_md_read md ++ (wTn g a_tn tn ++ []))) (Qc := fun sz => QI g (wMd g a_md (some (a_tn 0)) q_md_read md ++ (wTn g a_tn tn ++ [])) (wMd g a_md (some (a_tn 0)) q_md_read md ++ (wTn g a_tn tn ++ [])) r_ sz) (by decide) rfl ?_
  intro p e s m args below meth c ls Q A ha hQ hA X hl hI hin
  have X : Cx p s m args meth c cX13_isStanding 2 RX13 (some .boolean) := X
  have hl : lv_has ls 2 [(0, .ref (a_md 0)), (1, .int p1)] := hl
  obtain ⟨hx, hb, hml, hown, ht, hr, hlk⟩ := id X
  clear ha hin
  unfold f_X13_isStanding at hf
  refine lv_aload_n hx hb dX13_isStanding_0 rfl (lv_at hl 0 rfl) ?_
  refine g_Md_tangle_S X hI has_Md.l (X.fl w_1586) dX13_isStanding_1 ?_
  refine lv_ifnull hx hb dX13_isStanding_4 ?_
  refine lv_iload_n hx hb dX13_isStanding_7 rfl (lv_at hl 1 rfl) ?_
  refine lv_if_lt (tgt := 26) hx hb dX13_isStanding_8 (by decide) (fun h_ => ?_) (fun h_ => ?_)
  · replace hf := if_t h_ hf
    refine lv_iconst (v := 0) hx hb dX13_isStanding_26 (by decide) ?_
    cases hf
    exact end_z hQ hA X hI rfl dX13_isStanding_27
  · replace hf := if_f h_ hf
    refine lv_iload_n hx hb dX13_isStanding_11 rfl (lv_at hl 1 rfl) ?_
    refine lv_aload_n hx hb dX13_isStanding_12 rfl (lv_at hl 0 rfl) ?_
    refine g_Md_tangle_S X hI has_Md.l (X.fl w_1586) dX13_isStanding_13 ?_
    refine g_Tn_standings X hI has_Tn.l.r (hI.fn (List.mem_of_getElem? (i := 85) rfl)) dX13_isStanding_16 ?_
    refine lv_icmp_ge (tgt := 26) hx hb dX13_isStanding_19 (by decide) (fun h_ => ?_) (fun h_ => ?_)
    · replace hf := if_t h_ hf
      refine lv_iconst (v := 0) hx hb dX13_isStanding_26 (by decide) ?_
      cases hf
      exact end_z hQ hA X hI rfl dX13_isStanding_27
    · replace hf := if_f h_ hf
      refine lv_iconst (v := 1) hx hb dX13_isStanding_22 (by decide) ?_
      refine lv_goto (tgt := 27) hx hb dX13_isStanding_23 (by decide) ?_
      cases hf
      exact end_z hQ hA X hI rfl dX13_isStanding_27
abbrev rm_X13_ring : Room := { frames := 1, cells := 0, slots := 0, locals := 21 }
set_option maxRecDepth 20000 in
theorem c_X13_ring (l : Launch) (g : GT) (a_md : Nat → Nat) (a_tn : Nat → Nat) (q_md_read : Option Nat) (md : MdS) (tn : TnS) (p1 : Int32) (r_ : Int32) (o_md : MdS) (hf : f_X13_ring md tn p1 = some (r_, o_md)) : CI l yX13_ring cX13_ring 2 (some .int) rm_X13_ring g [.ref (a_md 0), .int p1] (wMd g a_md (some (a_tn 0)) q_md_read md ++ (wTn g a_tn tn ++ [])) (wMd g a_md (some (a_tn 0)) q_md_read o_md ++ (wTn g a_tn tn ++ [])) r_ := by
  refine start2 (y := yX13_ring) (cc := cX13_ring) (n := 2) (av := [.ref (a_md 0), .int p1]) (ws := (wMd g a_md (some (a_tn 0)) q_md_read md ++ (wTn g a_tn tn ++ []))) (Qc := fun sz => QI g (wMd g a_md (some (a_tn 0)) q_md_read md ++ (wTn g a_tn tn ++ [])) (wMd g a_md (some (a_tn 0)) q_md_read o_md ++ (wTn g a_tn tn ++ [])) r_ sz) (by decide) rfl ?_
  intro p e s m args below meth c ls Q A ha hQ hA X hl hI hin
  have X : Cx p s m args meth c cX13_ring 2 RX13 (some .int) := X
  have hl : lv_has ls 2 [(0, .ref (a_md 0)), (1, .int p1)] := hl
  obtain ⟨hx, hb, hml, hown, ht, hr, hlk⟩ := id X
  clear ha hin
  unfold f_X13_ring at hf
  refine lv_aload_n hx hb dX13_ring_0 rfl (lv_at hl 0 rfl) ?_
  refine lv_iconst (v := 0) hx hb dX13_ring_1 (by decide) ?_
  refine p_Md_thrown X hI up_Md_thrown.l (X.fl w_1583) dX13_ring_2 (fun H locs hI => ?_)
  generalize hz_ : (Md_thrown' md (0 : Int32)) = md_1 at hI hf
  clear hz_
  replace hf := lt_e hf
  refine lv_aload_n hx hb dX13_ring_5 rfl (lv_at hl 0 rfl) ?_
  refine lv_iload_n hx hb dX13_ring_6 rfl (lv_at hl 1 rfl) ?_
  obtain ⟨r_2, hc_, hf⟩ := bd1_some hf
  refine call_Vi X hI (Cj.keep (Cj.keep Cj.id)) (c_X13_isPerson l g a_md a_tn q_md_read md_1 tn p1 r_2 hc_) ⟨rfl, rfl⟩ ⟨ht _ w_2014, w_2017, ht _ w_155, lk_X13_isPerson⟩ w_2016 w_93 rfl rfl rfl hl rfl rfl dX13_ring_7 rfl rfl rfl rfl (fun H locs hI => ?_)
  refine lv_if_eq (tgt := 29) hx hb dX13_ring_10 (by decide) (fun h_ => ?_) (fun h_ => ?_)
  · replace hf := if_t h_ hf
    refine lv_aload_n hx hb dX13_ring_29 rfl (lv_at hl 0 rfl) ?_
    refine lv_iconst (v := 1) hx hb dX13_ring_30 (by decide) ?_
    obtain ⟨r_3, md_4, hc_, hf⟩ := bd2_some hf
    refine call_Vi X hI (Cj.keep Cj.nil) (c_X13_refused l g a_md (some (a_tn 0)) q_md_read md_1 (1 : Int32) r_3 md_4 hc_) ⟨rfl, rfl⟩ ⟨ht _ w_1719, w_1722, ht _ w_155, lk_X13_refused⟩ w_1721 w_65 rfl rfl rfl hl rfl rfl dX13_ring_31 rfl rfl rfl rfl (fun H locs hI => ?_)
    cases hf
    exact end_i hQ hA X hI dX13_ring_34
  · replace hf := if_f h_ hf
    refine lv_aload_n hx hb dX13_ring_13 rfl (lv_at hl 0 rfl) ?_
    refine lv_aload_n hx hb dX13_ring_14 rfl (lv_at hl 0 rfl) ?_
    refine g_Md_tangle_S X hI has_Md.l (X.fl w_1586) dX13_ring_15 ?_
    refine g_Tn_ringOf X hI has_Tn.l.r (hI.fn (List.mem_of_getElem? (i := 102) rfl)) dX13_ring_18 ?_
    refine lv_iload_n hx hb dX13_ring_21 rfl (lv_at hl 1 rfl) ?_
    obtain ⟨h_, hf⟩ := ck_someM hf
    refine ld_I X hI has_Tn_ringOf.l.r h_ dX13_ring_22 ?_
    obtain ⟨r_5, md_6, hc_, hf⟩ := bd2_some hf
    refine call_Vi X hI (Cj.keep Cj.nil) (c_X13_good l g a_md (some (a_tn 0)) q_md_read md_1 (Tn_ringOf tn (Int32.toNatClampNeg p1)) r_5 md_6 hc_) ⟨rfl, rfl⟩ ⟨ht _ w_1998, w_2001, ht _ w_155, lk_X13_good⟩ w_2000 w_92 rfl rfl rfl hl rfl rfl dX13_ring_23 rfl rfl rfl rfl (fun H locs hI => ?_)
    refine lv_goto (tgt := 34) hx hb dX13_ring_26 (by decide) ?_
    cases hf
    exact end_i hQ hA X hI dX13_ring_34
abbrev rm_X13_people : Room := { frames := 1, cells := 0, slots := 0, locals := 21 }
set_option maxRecDepth 20000 in
theorem c_X13_people (l : Launch) (g : GT) (a_md : Nat → Nat) (a_tn : Nat → Nat) (q_md_read : Option Nat) (md : MdS) (tn : TnS) (p1 : Int32) (r_ : Int32) (o_md : MdS) (hf : f_X13_people md tn p1 = some (r_, o_md)) : CI l yX13_people cX13_people 2 (some .int) rm_X13_people g [.ref (a_md 0), .int p1] (wMd g a_md (some (a_tn 0)) q_md_read md ++ (wTn g a_tn tn ++ [])) (wMd g a_md (some (a_tn 0)) q_md_read o_md ++ (wTn g a_tn tn ++ [])) r_ := by
  refine start2 (y := yX13_people) (cc := cX13_people) (n := 2) (av := [.ref (a_md 0), .int p1]) (ws := (wMd g a_md (some (a_tn 0)) q_md_read md ++ (wTn g a_tn tn ++ []))) (Qc := fun sz => QI g (wMd g a_md (some (a_tn 0)) q_md_read md ++ (wTn g a_tn tn ++ [])) (wMd g a_md (some (a_tn 0)) q_md_read o_md ++ (wTn g a_tn tn ++ [])) r_ sz) (by decide) rfl ?_
  intro p e s m args below meth c ls Q A ha hQ hA X hl hI hin
  have X : Cx p s m args meth c cX13_people 2 RX13 (some .int) := X
  have hl : lv_has ls 2 [(0, .ref (a_md 0)), (1, .int p1)] := hl
  obtain ⟨hx, hb, hml, hown, ht, hr, hlk⟩ := id X
  clear ha hin
  unfold f_X13_people at hf
  refine lv_aload_n hx hb dX13_people_0 rfl (lv_at hl 0 rfl) ?_
  refine lv_iconst (v := 0) hx hb dX13_people_1 (by decide) ?_
  refine p_Md_thrown X hI up_Md_thrown.l (X.fl w_1583) dX13_people_2 (fun H locs hI => ?_)
  generalize hz_ : (Md_thrown' md (0 : Int32)) = md_1 at hI hf
  clear hz_
  replace hf := lt_e hf
  refine lv_aload_n hx hb dX13_people_5 rfl (lv_at hl 0 rfl) ?_
  refine lv_iload_n hx hb dX13_people_6 rfl (lv_at hl 1 rfl) ?_
  obtain ⟨r_2, hc_, hf⟩ := bd1_some hf
  refine call_Vi X hI (Cj.keep (Cj.keep Cj.id)) (c_X13_isRing l g a_md a_tn q_md_read md_1 tn p1 r_2 hc_) ⟨rfl, rfl⟩ ⟨ht _ w_2022, w_2025, ht _ w_155, lk_X13_isRing⟩ w_2024 w_94 rfl rfl rfl hl rfl rfl dX13_people_7 rfl rfl rfl rfl (fun H locs hI => ?_)
  refine lv_if_eq (tgt := 29) hx hb dX13_people_10 (by decide) (fun h_ => ?_) (fun h_ => ?_)
  · replace hf := if_t h_ hf
    refine lv_aload_n hx hb dX13_people_29 rfl (lv_at hl 0 rfl) ?_
    refine lv_iconst (v := 1) hx hb dX13_people_30 (by decide) ?_
    obtain ⟨r_3, md_4, hc_, hf⟩ := bd2_some hf
    refine call_Vi X hI (Cj.keep Cj.nil) (c_X13_refused l g a_md (some (a_tn 0)) q_md_read md_1 (1 : Int32) r_3 md_4 hc_) ⟨rfl, rfl⟩ ⟨ht _ w_1719, w_1722, ht _ w_155, lk_X13_refused⟩ w_1721 w_65 rfl rfl rfl hl rfl rfl dX13_people_31 rfl rfl rfl rfl (fun H locs hI => ?_)
    cases hf
    exact end_i hQ hA X hI dX13_people_34
  · replace hf := if_f h_ hf
    refine lv_aload_n hx hb dX13_people_13 rfl (lv_at hl 0 rfl) ?_
    refine lv_aload_n hx hb dX13_people_14 rfl (lv_at hl 0 rfl) ?_
    refine g_Md_tangle_S X hI has_Md.l (X.fl w_1586) dX13_people_15 ?_
    refine g_Tn_size X hI has_Tn.l.r (hI.fn (List.mem_of_getElem? (i := 106) rfl)) dX13_people_18 ?_
    refine lv_iload_n hx hb dX13_people_21 rfl (lv_at hl 1 rfl) ?_
    obtain ⟨h_, hf⟩ := ck_someM hf
    refine ld_I X hI has_Tn_size.l.r h_ dX13_people_22 ?_
    obtain ⟨r_5, md_6, hc_, hf⟩ := bd2_some hf
    refine call_Vi X hI (Cj.keep Cj.nil) (c_X13_good l g a_md (some (a_tn 0)) q_md_read md_1 (Tn_size tn (Int32.toNatClampNeg p1)) r_5 md_6 hc_) ⟨rfl, rfl⟩ ⟨ht _ w_1998, w_2001, ht _ w_155, lk_X13_good⟩ w_2000 w_92 rfl rfl rfl hl rfl rfl dX13_people_23 rfl rfl rfl rfl (fun H locs hI => ?_)
    refine lv_goto (tgt := 34) hx hb dX13_people_26 (by decide) ?_
    cases hf
    exact end_i hQ hA X hI dX13_people_34
abbrev rm_X13_member : Room := { frames := 1, cells := 0, slots := 0, locals := 21 }
set_option maxRecDepth 20000 in
theorem c_X13_member (l : Launch) (g : GT) (a_md : Nat → Nat) (a_tn : Nat → Nat) (q_md_read : Option Nat) (md : MdS) (tn : TnS) (p1 : Int32) (p2 : Int32) (r_ : Int32) (o_md : MdS) (hf : f_X13_member md tn p1 p2 = some (r_, o_md)) : CI l yX13_member cX13_member 3 (some .int) rm_X13_member g [.ref (a_md 0), .int p1, .int p2] (wMd g a_md (some (a_tn 0)) q_md_read md ++ (wTn g a_tn tn ++ [])) (wMd g a_md (some (a_tn 0)) q_md_read o_md ++ (wTn g a_tn tn ++ [])) r_ := by
  refine start2 (y := yX13_member) (cc := cX13_member) (n := 3) (av := [.ref (a_md 0), .int p1, .int p2]) (ws := (wMd g a_md (some (a_tn 0)) q_md_read md ++ (wTn g a_tn tn ++ []))) (Qc := fun sz => QI g (wMd g a_md (some (a_tn 0)) q_md_read md ++ (wTn g a_tn tn ++ [])) (wMd g a_md (some (a_tn 0)) q_md_read o_md ++ (wTn g a_tn tn ++ [])) r_ sz) (by decide) rfl ?_
  intro p e s m args below meth c ls Q A ha hQ hA X hl hI hin
  have X : Cx p s m args meth c cX13_member 3 RX13 (some .int) := X
  have hl : lv_has ls 3 [(0, .ref (a_md 0)), (1, .int p1), (2, .int p2)] := hl
  obtain ⟨hx, hb, hml, hown, ht, hr, hlk⟩ := id X
  clear ha hin
  have L_51 : ∀ (md : MdS) (H : Heap) (locs : List Loc) (ls : Array Slot), lv_has ls 3 [(0, .ref (a_md 0))] → In g A s.heap s (wMd g a_md (some (a_tn 0)) q_md_read md ++ (wTn g a_tn tn ++ [])) H locs → f_X13_member_L51 md = some (r_, o_md) → W p l e rm_X13_member s m args below meth c H locs 0 0 Q (F0 m 51 ls []) := by
    intro md H locs ls hl hI hf
    unfold f_X13_member_L51 at hf
    refine lv_aload_n hx hb dX13_member_51 rfl (lv_at hl 0 rfl) ?_
    refine lv_iconst (v := 1) hx hb dX13_member_52 (by decide) ?_
    obtain ⟨r_5, md_6, hc_, hf⟩ := bd2_some hf
    refine call_Vi X hI (Cj.keep Cj.nil) (c_X13_refused l g a_md (some (a_tn 0)) q_md_read md (1 : Int32) r_5 md_6 hc_) ⟨rfl, rfl⟩ ⟨ht _ w_1719, w_1722, ht _ w_155, lk_X13_refused⟩ w_1721 w_65 rfl rfl rfl hl rfl rfl dX13_member_53 rfl rfl rfl rfl (fun H locs hI => ?_)
    cases hf
    exact end_i hQ hA X hI dX13_member_56
  unfold f_X13_member at hf
  refine lv_aload_n hx hb dX13_member_0 rfl (lv_at hl 0 rfl) ?_
  refine lv_iconst (v := 0) hx hb dX13_member_1 (by decide) ?_
  refine p_Md_thrown X hI up_Md_thrown.l (X.fl w_1583) dX13_member_2 (fun H locs hI => ?_)
  generalize hz_ : (Md_thrown' md (0 : Int32)) = md_1 at hI hf
  clear hz_
  replace hf := lt_e hf
  refine lv_aload_n hx hb dX13_member_5 rfl (lv_at hl 0 rfl) ?_
  refine lv_iload_n hx hb dX13_member_6 rfl (lv_at hl 1 rfl) ?_
  obtain ⟨r_2, hc_, hf⟩ := bd1_some hf
  refine call_Vi X hI (Cj.keep (Cj.keep Cj.id)) (c_X13_isRing l g a_md a_tn q_md_read md_1 tn p1 r_2 hc_) ⟨rfl, rfl⟩ ⟨ht _ w_2022, w_2025, ht _ w_155, lk_X13_isRing⟩ w_2024 w_94 rfl rfl rfl hl rfl rfl dX13_member_7 rfl rfl rfl rfl (fun H locs hI => ?_)
  refine lv_if_eq (tgt := 51) hx hb dX13_member_10 (by decide) (fun h_ => ?_) (fun h_ => ?_)
  · replace hf := if_t h_ hf
    exact L_51 md_1 _ _ _ (lv_sub hl [0] rfl) hI hf
  · replace hf := if_f h_ hf
    refine lv_iload_n hx hb dX13_member_13 rfl (lv_at hl 2 rfl) ?_
    refine lv_if_lt (tgt := 51) hx hb dX13_member_14 (by decide) (fun h_ => ?_) (fun h_ => ?_)
    · replace hf := if_t h_ hf
      exact L_51 md_1 _ _ _ (lv_sub hl [0] rfl) hI hf
    · replace hf := if_f h_ hf
      refine lv_iload_n hx hb dX13_member_17 rfl (lv_at hl 2 rfl) ?_
      refine lv_aload_n hx hb dX13_member_18 rfl (lv_at hl 0 rfl) ?_
      refine g_Md_tangle_S X hI has_Md.l (X.fl w_1586) dX13_member_19 ?_
      refine g_Tn_size X hI has_Tn.l.r (hI.fn (List.mem_of_getElem? (i := 106) rfl)) dX13_member_22 ?_
      refine lv_iload_n hx hb dX13_member_25 rfl (lv_at hl 1 rfl) ?_
      obtain ⟨h_, hf⟩ := ck_someM hf
      refine ld_I X hI has_Tn_size.l.r h_ dX13_member_26 ?_
      refine lv_icmp_ge (tgt := 51) hx hb dX13_member_27 (by decide) (fun h_ => ?_) (fun h_ => ?_)
      · replace hf := if_t h_ hf
        exact L_51 md_1 _ _ _ (lv_sub hl [0] rfl) hI hf
      · replace hf := if_f h_ hf
        refine lv_aload_n hx hb dX13_member_30 rfl (lv_at hl 0 rfl) ?_
        refine lv_aload_n hx hb dX13_member_31 rfl (lv_at hl 0 rfl) ?_
        refine g_Md_tangle_S X hI has_Md.l (X.fl w_1586) dX13_member_32 ?_
        refine g_Tn_member X hI has_Tn.l.r (hI.fn (List.mem_of_getElem? (i := 105) rfl)) dX13_member_35 ?_
        refine lv_bipush (v := 8) hx hb dX13_member_38 (by decide) ?_
        refine lv_iload_n hx hb dX13_member_40 rfl (lv_at hl 1 rfl) ?_
        refine lv_imul hx hb dX13_member_41 ?_
        refine lv_iload_n hx hb dX13_member_42 rfl (lv_at hl 2 rfl) ?_
        refine lv_iadd hx hb dX13_member_43 ?_
        obtain ⟨h_, hf⟩ := ck_someM hf
        refine ld_I X hI has_Tn_member.l.r h_ dX13_member_44 ?_
        obtain ⟨r_3, md_4, hc_, hf⟩ := bd2_some hf
        refine call_Vi X hI (Cj.keep Cj.nil) (c_X13_good l g a_md (some (a_tn 0)) q_md_read md_1 (Tn_member tn (Int32.toNatClampNeg (((8 : Int32) * p1) + p2))) r_3 md_4 hc_) ⟨rfl, rfl⟩ ⟨ht _ w_1998, w_2001, ht _ w_155, lk_X13_good⟩ w_2000 w_92 rfl rfl rfl hl rfl rfl dX13_member_45 rfl rfl rfl rfl (fun H locs hI => ?_)
        refine lv_goto (tgt := 56) hx hb dX13_member_48 (by decide) ?_
        cases hf
        exact end_i hQ hA X hI dX13_member_56
abbrev rm_X13_holds : Room := { frames := 1, cells := 0, slots := 0, locals := 22 }
set_option maxRecDepth 20000 in
theorem c_X13_holds (l : Launch) (g : GT) (a_md : Nat → Nat) (a_tn : Nat → Nat) (q_md_read : Option Nat) (md : MdS) (tn : TnS) (p1 : Int32) (p2 : Int32) (r_ : Int32) (o_md : MdS) (hf : f_X13_holds md tn p1 p2 = some (r_, o_md)) : CI l yX13_holds cX13_holds 3 (some .int) rm_X13_holds g [.ref (a_md 0), .int p1, .int p2] (wMd g a_md (some (a_tn 0)) q_md_read md ++ (wTn g a_tn tn ++ [])) (wMd g a_md (some (a_tn 0)) q_md_read o_md ++ (wTn g a_tn tn ++ [])) r_ := by
  refine start2 (y := yX13_holds) (cc := cX13_holds) (n := 3) (av := [.ref (a_md 0), .int p1, .int p2]) (ws := (wMd g a_md (some (a_tn 0)) q_md_read md ++ (wTn g a_tn tn ++ []))) (Qc := fun sz => QI g (wMd g a_md (some (a_tn 0)) q_md_read md ++ (wTn g a_tn tn ++ [])) (wMd g a_md (some (a_tn 0)) q_md_read o_md ++ (wTn g a_tn tn ++ [])) r_ sz) (by decide) rfl ?_
  intro p e s m args below meth c ls Q A ha hQ hA X hl hI hin
  have X : Cx p s m args meth c cX13_holds 3 RX13 (some .int) := X
  have hl : lv_has ls 3 [(0, .ref (a_md 0)), (1, .int p1), (2, .int p2)] := hl
  obtain ⟨hx, hb, hml, hown, ht, hr, hlk⟩ := id X
  clear ha hin
  have L_30 : ∀ (t2i : Int32) (t3i : Int32) (md : MdS) (H : Heap) (locs : List Loc) (ls : Array Slot), lv_has ls 3 [] → In g A s.heap s (wMd g a_md (some (a_tn 0)) q_md_read md ++ (wTn g a_tn tn ++ [])) H locs → f_X13_holds_L30 t2i t3i md tn = some (r_, o_md) → W p l e rm_X13_holds s m args below meth c H locs 0 0 Q (F0 m 30 ls [.int t3i, .int t2i, .ref (a_tn 0), .ref (a_md 0)]) := by
    intro t2i t3i md H locs ls hl hI hf
    unfold f_X13_holds_L30 at hf
    refine lv_iadd hx hb dX13_holds_30 ?_
    obtain ⟨r_5, hc_, hf⟩ := bd1_some hf
    refine call_Vi X hI (Cj.skip (Cj.keep Cj.id)) (c_X12_other l g a_tn tn (t2i + t3i) r_5 hc_) ⟨rfl, rfl⟩ ⟨ht _ w_2034, w_1997, ht _ w_159, lk_X12_other⟩ w_1995 w_1996 rfl rfl rfl hl rfl rfl dX13_holds_31 rfl rfl rfl rfl (fun H locs hI => ?_)
    obtain ⟨r_6, md_7, hc_, hf⟩ := bd2_some hf
    refine call_Vi X hI (Cj.keep Cj.nil) (c_X13_good l g a_md (some (a_tn 0)) q_md_read md r_5 r_6 md_7 hc_) ⟨rfl, rfl⟩ ⟨ht _ w_1998, w_2001, ht _ w_155, lk_X13_good⟩ w_2000 w_92 rfl rfl rfl hl rfl rfl dX13_holds_34 rfl rfl rfl rfl (fun H locs hI => ?_)
    refine lv_goto (tgt := 45) hx hb dX13_holds_37 (by decide) ?_
    cases hf
    exact end_i hQ hA X hI dX13_holds_45
  unfold f_X13_holds at hf
  refine lv_aload_n hx hb dX13_holds_0 rfl (lv_at hl 0 rfl) ?_
  refine lv_iconst (v := 0) hx hb dX13_holds_1 (by decide) ?_
  refine p_Md_thrown X hI up_Md_thrown.l (X.fl w_1583) dX13_holds_2 (fun H locs hI => ?_)
  generalize hz_ : (Md_thrown' md (0 : Int32)) = md_1 at hI hf
  clear hz_
  replace hf := lt_e hf
  refine lv_aload_n hx hb dX13_holds_5 rfl (lv_at hl 0 rfl) ?_
  refine lv_iload_n hx hb dX13_holds_6 rfl (lv_at hl 1 rfl) ?_
  obtain ⟨r_2, hc_, hf⟩ := bd1_some hf
  refine call_Vi X hI (Cj.keep (Cj.keep Cj.id)) (c_X13_isPerson l g a_md a_tn q_md_read md_1 tn p1 r_2 hc_) ⟨rfl, rfl⟩ ⟨ht _ w_2014, w_2017, ht _ w_155, lk_X13_isPerson⟩ w_2016 w_93 rfl rfl rfl hl rfl rfl dX13_holds_7 rfl rfl rfl rfl (fun H locs hI => ?_)
  refine lv_if_eq (tgt := 40) hx hb dX13_holds_10 (by decide) (fun h_ => ?_) (fun h_ => ?_)
  · replace hf := if_t h_ hf
    refine lv_aload_n hx hb dX13_holds_40 rfl (lv_at hl 0 rfl) ?_
    refine lv_iconst (v := 1) hx hb dX13_holds_41 (by decide) ?_
    obtain ⟨r_3, md_4, hc_, hf⟩ := bd2_some hf
    refine call_Vi X hI (Cj.keep Cj.nil) (c_X13_refused l g a_md (some (a_tn 0)) q_md_read md_1 (1 : Int32) r_3 md_4 hc_) ⟨rfl, rfl⟩ ⟨ht _ w_1719, w_1722, ht _ w_155, lk_X13_refused⟩ w_1721 w_65 rfl rfl rfl hl rfl rfl dX13_holds_42 rfl rfl rfl rfl (fun H locs hI => ?_)
    cases hf
    exact end_i hQ hA X hI dX13_holds_45
  · replace hf := if_f h_ hf
    refine lv_aload_n hx hb dX13_holds_13 rfl (lv_at hl 0 rfl) ?_
    refine lv_aload_n hx hb dX13_holds_14 rfl (lv_at hl 0 rfl) ?_
    refine g_Md_tangle_S X hI has_Md.l (X.fl w_1586) dX13_holds_15 ?_
    refine lv_iconst (v := 2) hx hb dX13_holds_18 (by decide) ?_
    refine lv_iload_n hx hb dX13_holds_19 rfl (lv_at hl 1 rfl) ?_
    refine lv_imul hx hb dX13_holds_20 ?_
    refine lv_iload_n hx hb dX13_holds_21 rfl (lv_at hl 2 rfl) ?_
    refine lv_if_eq (tgt := 29) hx hb dX13_holds_22 (by decide) (fun h_ => ?_) (fun h_ => ?_)
    · replace hf := if_t h_ hf
      refine lv_iconst (v := 0) hx hb dX13_holds_29 (by decide) ?_
      exact L_30 ((2 : Int32) * p1) (0 : Int32) md_1 _ _ _ (lv_sub hl [] rfl) hI hf
    · replace hf := if_f h_ hf
      refine lv_iconst (v := 1) hx hb dX13_holds_25 (by decide) ?_
      refine lv_goto (tgt := 30) hx hb dX13_holds_26 (by decide) ?_
      exact L_30 ((2 : Int32) * p1) (1 : Int32) md_1 _ _ _ (lv_sub hl [] rfl) hI hf
abbrev rm_X13_along : Room := { frames := 1, cells := 0, slots := 0, locals := 21 }
set_option maxRecDepth 20000 in
theorem c_X13_along (l : Launch) (g : GT) (a_md : Nat → Nat) (a_tn : Nat → Nat) (q_md_read : Option Nat) (md : MdS) (tn : TnS) (p1 : Int32) (r_ : Int32) (o_md : MdS) (hf : f_X13_along md tn p1 = some (r_, o_md)) : CI l yX13_along cX13_along 2 (some .int) rm_X13_along g [.ref (a_md 0), .int p1] (wMd g a_md (some (a_tn 0)) q_md_read md ++ (wTn g a_tn tn ++ [])) (wMd g a_md (some (a_tn 0)) q_md_read o_md ++ (wTn g a_tn tn ++ [])) r_ := by
  refine start2 (y := yX13_along) (cc := cX13_along) (n := 2) (av := [.ref (a_md 0), .int p1]) (ws := (wMd g a_md (some (a_tn 0)) q_md_read md ++ (wTn g a_tn tn ++ []))) (Qc := fun sz => QI g (wMd g a_md (some (a_tn 0)) q_md_read md ++ (wTn g a_tn tn ++ [])) (wMd g a_md (some (a_tn 0)) q_md_read o_md ++ (wTn g a_tn tn ++ [])) r_ sz) (by decide) rfl ?_
  intro p e s m args below meth c ls Q A ha hQ hA X hl hI hin
  have X : Cx p s m args meth c cX13_along 2 RX13 (some .int) := X
  have hl : lv_has ls 2 [(0, .ref (a_md 0)), (1, .int p1)] := hl
  obtain ⟨hx, hb, hml, hown, ht, hr, hlk⟩ := id X
  clear ha hin
  have L_31 : ∀ (t1i : Int32) (md : MdS) (H : Heap) (locs : List Loc) (ls : Array Slot), lv_has ls 2 [] → In g A s.heap s (wMd g a_md (some (a_tn 0)) q_md_read md ++ (wTn g a_tn tn ++ [])) H locs → f_X13_along_L31 t1i md = some (r_, o_md) → W p l e rm_X13_along s m args below meth c H locs 0 0 Q (F0 m 31 ls [.int t1i, .ref (a_md 0)]) := by
    intro t1i md H locs ls hl hI hf
    unfold f_X13_along_L31 at hf
    obtain ⟨r_5, md_6, hc_, hf⟩ := bd2_some hf
    refine call_Vi X hI (Cj.keep Cj.nil) (c_X13_good l g a_md (some (a_tn 0)) q_md_read md t1i r_5 md_6 hc_) ⟨rfl, rfl⟩ ⟨ht _ w_1998, w_2001, ht _ w_155, lk_X13_good⟩ w_2000 w_92 rfl rfl rfl hl rfl rfl dX13_along_31 rfl rfl rfl rfl (fun H locs hI => ?_)
    refine lv_goto (tgt := 42) hx hb dX13_along_34 (by decide) ?_
    cases hf
    exact end_i hQ hA X hI dX13_along_42
  unfold f_X13_along at hf
  refine lv_aload_n hx hb dX13_along_0 rfl (lv_at hl 0 rfl) ?_
  refine lv_iconst (v := 0) hx hb dX13_along_1 (by decide) ?_
  refine p_Md_thrown X hI up_Md_thrown.l (X.fl w_1583) dX13_along_2 (fun H locs hI => ?_)
  generalize hz_ : (Md_thrown' md (0 : Int32)) = md_1 at hI hf
  clear hz_
  replace hf := lt_e hf
  refine lv_aload_n hx hb dX13_along_5 rfl (lv_at hl 0 rfl) ?_
  refine lv_iload_n hx hb dX13_along_6 rfl (lv_at hl 1 rfl) ?_
  obtain ⟨r_2, hc_, hf⟩ := bd1_some hf
  refine call_Vi X hI (Cj.keep (Cj.keep Cj.id)) (c_X13_isLink l g a_md a_tn q_md_read md_1 tn p1 r_2 hc_) ⟨rfl, rfl⟩ ⟨ht _ w_2039, w_2042, ht _ w_155, lk_X13_isLink⟩ w_2041 w_95 rfl rfl rfl hl rfl rfl dX13_along_7 rfl rfl rfl rfl (fun H locs hI => ?_)
  refine lv_if_eq (tgt := 37) hx hb dX13_along_10 (by decide) (fun h_ => ?_) (fun h_ => ?_)
  · replace hf := if_t h_ hf
    refine lv_aload_n hx hb dX13_along_37 rfl (lv_at hl 0 rfl) ?_
    refine lv_iconst (v := 1) hx hb dX13_along_38 (by decide) ?_
    obtain ⟨r_3, md_4, hc_, hf⟩ := bd2_some hf
    refine call_Vi X hI (Cj.keep Cj.nil) (c_X13_refused l g a_md (some (a_tn 0)) q_md_read md_1 (1 : Int32) r_3 md_4 hc_) ⟨rfl, rfl⟩ ⟨ht _ w_1719, w_1722, ht _ w_155, lk_X13_refused⟩ w_1721 w_65 rfl rfl rfl hl rfl rfl dX13_along_39 rfl rfl rfl rfl (fun H locs hI => ?_)
    cases hf
    exact end_i hQ hA X hI dX13_along_42
  · replace hf := if_f h_ hf
    refine lv_aload_n hx hb dX13_along_13 rfl (lv_at hl 0 rfl) ?_
    refine lv_aload_n hx hb dX13_along_14 rfl (lv_at hl 0 rfl) ?_
    refine g_Md_tangle_S X hI has_Md.l (X.fl w_1586) dX13_along_15 ?_
    refine g_Tn_along X hI has_Tn.l.r (hI.fn (List.mem_of_getElem? (i := 107) rfl)) dX13_along_18 ?_
    refine lv_iload_n hx hb dX13_along_21 rfl (lv_at hl 1 rfl) ?_
    obtain ⟨h_, hf⟩ := ck_someM hf
    refine ld_Z X hI has_Tn_along.l.r h_ dX13_along_22 ?_
    refine lv_if_eq (tgt := 30) hx hb dX13_along_23 (by decide) (fun h_ => ?_) (fun h_ => ?_)
    · replace hf := if_t h_ hf
      refine lv_iconst (v := 0) hx hb dX13_along_30 (by decide) ?_
      exact L_31 (0 : Int32) md_1 _ _ _ (lv_sub hl [] rfl) hI hf
    · replace hf := if_f h_ hf
      refine lv_iconst (v := 1) hx hb dX13_along_26 (by decide) ?_
      refine lv_goto (tgt := 31) hx hb dX13_along_27 (by decide) ?_
      exact L_31 (1 : Int32) md_1 _ _ _ (lv_sub hl [] rfl) hI hf
abbrev rm_X13_stands : Room := { frames := 1, cells := 0, slots := 0, locals := 22 }
set_option maxRecDepth 20000 in
theorem c_X13_stands (l : Launch) (g : GT) (a_md : Nat → Nat) (a_tn : Nat → Nat) (q_md_read : Option Nat) (md : MdS) (tn : TnS) (p1 : Int32) (r_ : Int32) (o_md : MdS) (hf : f_X13_stands md tn p1 = some (r_, o_md)) : CI l yX13_stands cX13_stands 2 (some .int) rm_X13_stands g [.ref (a_md 0), .int p1] (wMd g a_md (some (a_tn 0)) q_md_read md ++ (wTn g a_tn tn ++ [])) (wMd g a_md (some (a_tn 0)) q_md_read o_md ++ (wTn g a_tn tn ++ [])) r_ := by
  refine start2 (y := yX13_stands) (cc := cX13_stands) (n := 2) (av := [.ref (a_md 0), .int p1]) (ws := (wMd g a_md (some (a_tn 0)) q_md_read md ++ (wTn g a_tn tn ++ []))) (Qc := fun sz => QI g (wMd g a_md (some (a_tn 0)) q_md_read md ++ (wTn g a_tn tn ++ [])) (wMd g a_md (some (a_tn 0)) q_md_read o_md ++ (wTn g a_tn tn ++ [])) r_ sz) (by decide) rfl ?_
  intro p e s m args below meth c ls Q A ha hQ hA X hl hI hin
  have X : Cx p s m args meth c cX13_stands 2 RX13 (some .int) := X
  have hl : lv_has ls 2 [(0, .ref (a_md 0)), (1, .int p1)] := hl
  obtain ⟨hx, hb, hml, hown, ht, hr, hlk⟩ := id X
  clear ha hin
  have L_46 : ∀ (t1i : Int32) (md : MdS) (H : Heap) (locs : List Loc) (ls : Array Slot), lv_has ls 2 [] → In g A s.heap s (wMd g a_md (some (a_tn 0)) q_md_read md ++ (wTn g a_tn tn ++ [])) H locs → f_X13_stands_L46 t1i md = some (r_, o_md) → W p l e rm_X13_stands s m args below meth c H locs 0 0 Q (F0 m 46 ls [.int t1i, .ref (a_md 0)]) := by
    intro t1i md H locs ls hl hI hf
    unfold f_X13_stands_L46 at hf
    obtain ⟨r_7, md_8, hc_, hf⟩ := bd2_some hf
    refine call_Vi X hI (Cj.keep Cj.nil) (c_X13_good l g a_md (some (a_tn 0)) q_md_read md t1i r_7 md_8 hc_) ⟨rfl, rfl⟩ ⟨ht _ w_1998, w_2001, ht _ w_155, lk_X13_good⟩ w_2000 w_92 rfl rfl rfl hl rfl rfl dX13_stands_46 rfl rfl rfl rfl (fun H locs hI => ?_)
    cases hf
    exact end_i hQ hA X hI dX13_stands_49
  unfold f_X13_stands at hf
  refine lv_aload_n hx hb dX13_stands_0 rfl (lv_at hl 0 rfl) ?_
  refine lv_iconst (v := 0) hx hb dX13_stands_1 (by decide) ?_
  refine p_Md_thrown X hI up_Md_thrown.l (X.fl w_1583) dX13_stands_2 (fun H locs hI => ?_)
  generalize hz_ : (Md_thrown' md (0 : Int32)) = md_1 at hI hf
  clear hz_
  replace hf := lt_e hf
  refine lv_aload_n hx hb dX13_stands_5 rfl (lv_at hl 0 rfl) ?_
  refine lv_iload_n hx hb dX13_stands_6 rfl (lv_at hl 1 rfl) ?_
  obtain ⟨r_2, hc_, hf⟩ := bd1_some hf
  refine call_Vi X hI (Cj.keep (Cj.keep Cj.id)) (c_X13_isStanding l g a_md a_tn q_md_read md_1 tn p1 r_2 hc_) ⟨rfl, rfl⟩ ⟨ht _ w_2047, w_2050, ht _ w_155, lk_X13_isStanding⟩ w_2049 w_96 rfl rfl rfl hl rfl rfl dX13_stands_7 rfl rfl rfl rfl (fun H locs hI => ?_)
  refine lv_if_ne (tgt := 19) hx hb dX13_stands_10 (by decide) (fun h_ => ?_) (fun h_ => ?_)
  · replace hf := if_f h_ hf
    refine lv_aload_n hx hb dX13_stands_19 rfl (lv_at hl 0 rfl) ?_
    refine lv_aload_n hx hb dX13_stands_20 rfl (lv_at hl 0 rfl) ?_
    refine g_Md_now X hI has_Md.l (X.fl w_1598) dX13_stands_21 ?_
    refine lv_iload_n hx hb dX13_stands_24 rfl (lv_at hl 1 rfl) ?_
    obtain ⟨r_3, hc_, hf⟩ := bd1_some hf
    refine call_Si X hI Cj.nil (c_X13_at l g (Md_now md_1) p1 r_3 hc_) ⟨rfl, rfl⟩ ⟨ht _ w_2051, w_2053, ht _ w_155, lk_X13_at⟩ w_2052 rfl hl rfl rfl dX13_stands_25 rfl rfl rfl rfl (fun H locs hI => ?_)
    refine lv_bipush (v := 15) hx hb dX13_stands_28 (by decide) ?_
    refine lv_icmp_ne (tgt := 38) hx hb dX13_stands_30 (by decide) (fun h_ => ?_) (fun h_ => ?_)
    · replace hf := if_f h_ hf
      refine lv_aload_n hx hb dX13_stands_38 rfl (lv_at hl 0 rfl) ?_
      refine g_Md_now X hI has_Md.l (X.fl w_1598) dX13_stands_39 ?_
      refine lv_iload_n hx hb dX13_stands_42 rfl (lv_at hl 1 rfl) ?_
      obtain ⟨r_4, hc_, hf⟩ := bd1_some hf
      refine call_Si X hI Cj.nil (c_X13_at l g (Md_now md_1) p1 r_4 hc_) ⟨rfl, rfl⟩ ⟨ht _ w_2051, w_2053, ht _ w_155, lk_X13_at⟩ w_2052 rfl hl rfl rfl dX13_stands_43 rfl rfl rfl rfl (fun H locs hI => ?_)
      exact L_46 r_4 md_1 _ _ _ (lv_sub hl [] rfl) hI hf
    · replace hf := if_t h_ hf
      refine lv_bipush (v := (-2)) hx hb dX13_stands_33 (by decide) ?_
      refine lv_goto (tgt := 46) hx hb dX13_stands_35 (by decide) ?_
      exact L_46 (-2 : Int32) md_1 _ _ _ (lv_sub hl [] rfl) hI hf
  · replace hf := if_t h_ hf
    refine lv_aload_n hx hb dX13_stands_13 rfl (lv_at hl 0 rfl) ?_
    refine lv_iconst (v := 1) hx hb dX13_stands_14 (by decide) ?_
    obtain ⟨r_5, md_6, hc_, hf⟩ := bd2_some hf
    refine call_Vi X hI (Cj.keep Cj.nil) (c_X13_refused l g a_md (some (a_tn 0)) q_md_read md_1 (1 : Int32) r_5 md_6 hc_) ⟨rfl, rfl⟩ ⟨ht _ w_1719, w_1722, ht _ w_155, lk_X13_refused⟩ w_1721 w_65 rfl rfl rfl hl rfl rfl dX13_stands_15 rfl rfl rfl rfl (fun H locs hI => ?_)
    cases hf
    exact end_i hQ hA X hI dX13_stands_18
abbrev rm_X13_place : Room := { frames := 1, cells := 0, slots := 0, locals := 22 }
set_option maxRecDepth 20000 in
theorem c_X13_place (l : Launch) (g : GT) (a_md : Nat → Nat) (a_tn : Nat → Nat) (q_md_read : Option Nat) (md : MdS) (tn : TnS) (p1 : Int32) (p2 : Int32) (r_ : Int32) (o_md : MdS) (hf : f_X13_place md tn p1 p2 = some (r_, o_md)) : CI l yX13_place cX13_place 3 (some .int) rm_X13_place g [.ref (a_md 0), .int p1, .int p2] (wMd g a_md (some (a_tn 0)) q_md_read md ++ (wTn g a_tn tn ++ [])) (wMd g a_md (some (a_tn 0)) q_md_read o_md ++ (wTn g a_tn tn ++ [])) r_ := by
  refine start2 (y := yX13_place) (cc := cX13_place) (n := 3) (av := [.ref (a_md 0), .int p1, .int p2]) (ws := (wMd g a_md (some (a_tn 0)) q_md_read md ++ (wTn g a_tn tn ++ []))) (Qc := fun sz => QI g (wMd g a_md (some (a_tn 0)) q_md_read md ++ (wTn g a_tn tn ++ [])) (wMd g a_md (some (a_tn 0)) q_md_read o_md ++ (wTn g a_tn tn ++ [])) r_ sz) (by decide) rfl ?_
  intro p e s m args below meth c ls Q A ha hQ hA X hl hI hin
  have X : Cx p s m args meth c cX13_place 3 RX13 (some .int) := X
  have hl : lv_has ls 3 [(0, .ref (a_md 0)), (1, .int p1), (2, .int p2)] := hl
  obtain ⟨hx, hb, hml, hown, ht, hr, hlk⟩ := id X
  clear ha hin
  have L_22 : ∀ (md : MdS) (H : Heap) (locs : List Loc) (ls : Array Slot), lv_has ls 3 [(0, .ref (a_md 0))] → In g A s.heap s (wMd g a_md (some (a_tn 0)) q_md_read md ++ (wTn g a_tn tn ++ [])) H locs → f_X13_place_L22 md = some (r_, o_md) → W p l e rm_X13_place s m args below meth c H locs 0 0 Q (F0 m 22 ls []) := by
    intro md H locs ls hl hI hf
    unfold f_X13_place_L22 at hf
    refine lv_aload_n hx hb dX13_place_22 rfl (lv_at hl 0 rfl) ?_
    refine lv_iconst (v := 1) hx hb dX13_place_23 (by decide) ?_
    obtain ⟨r_4, md_5, hc_, hf⟩ := bd2_some hf
    refine call_Vi X hI (Cj.keep Cj.nil) (c_X13_refused l g a_md (some (a_tn 0)) q_md_read md (1 : Int32) r_4 md_5 hc_) ⟨rfl, rfl⟩ ⟨ht _ w_1719, w_1722, ht _ w_155, lk_X13_refused⟩ w_1721 w_65 rfl rfl rfl hl rfl rfl dX13_place_24 rfl rfl rfl rfl (fun H locs hI => ?_)
    cases hf
    exact end_i hQ hA X hI dX13_place_27
  have L_54 : ∀ (t1i : Int32) (md : MdS) (H : Heap) (locs : List Loc) (ls : Array Slot), lv_has ls 3 [] → In g A s.heap s (wMd g a_md (some (a_tn 0)) q_md_read md ++ (wTn g a_tn tn ++ [])) H locs → f_X13_place_L54 t1i md = some (r_, o_md) → W p l e rm_X13_place s m args below meth c H locs 0 0 Q (F0 m 54 ls [.int t1i, .ref (a_md 0)]) := by
    intro t1i md H locs ls hl hI hf
    unfold f_X13_place_L54 at hf
    obtain ⟨r_6, md_7, hc_, hf⟩ := bd2_some hf
    refine call_Vi X hI (Cj.keep Cj.nil) (c_X13_good l g a_md (some (a_tn 0)) q_md_read md t1i r_6 md_7 hc_) ⟨rfl, rfl⟩ ⟨ht _ w_1998, w_2001, ht _ w_155, lk_X13_good⟩ w_2000 w_92 rfl rfl rfl hl rfl rfl dX13_place_54 rfl rfl rfl rfl (fun H locs hI => ?_)
    cases hf
    exact end_i hQ hA X hI dX13_place_57
  unfold f_X13_place at hf
  refine lv_aload_n hx hb dX13_place_0 rfl (lv_at hl 0 rfl) ?_
  refine lv_iconst (v := 0) hx hb dX13_place_1 (by decide) ?_
  refine p_Md_thrown X hI up_Md_thrown.l (X.fl w_1583) dX13_place_2 (fun H locs hI => ?_)
  generalize hz_ : (Md_thrown' md (0 : Int32)) = md_1 at hI hf
  clear hz_
  replace hf := lt_e hf
  refine lv_aload_n hx hb dX13_place_5 rfl (lv_at hl 0 rfl) ?_
  refine lv_iload_n hx hb dX13_place_6 rfl (lv_at hl 1 rfl) ?_
  obtain ⟨r_2, hc_, hf⟩ := bd1_some hf
  refine call_Vi X hI (Cj.keep (Cj.keep Cj.id)) (c_X13_isStanding l g a_md a_tn q_md_read md_1 tn p1 r_2 hc_) ⟨rfl, rfl⟩ ⟨ht _ w_2047, w_2050, ht _ w_155, lk_X13_isStanding⟩ w_2049 w_96 rfl rfl rfl hl rfl rfl dX13_place_7 rfl rfl rfl rfl (fun H locs hI => ?_)
  refine lv_if_eq (tgt := 22) hx hb dX13_place_10 (by decide) (fun h_ => ?_) (fun h_ => ?_)
  · replace hf := if_t h_ hf
    exact L_22 md_1 _ _ _ (lv_sub hl [0] rfl) hI hf
  · replace hf := if_f h_ hf
    refine lv_iload_n hx hb dX13_place_13 rfl (lv_at hl 2 rfl) ?_
    refine lv_iconst (v := 0) hx hb dX13_place_14 (by decide) ?_
    refine lv_iconst (v := 1) hx hb dX13_place_15 (by decide) ?_
    obtain ⟨r_3, hc_, hf⟩ := bd1_some hf
    refine call_Si X hI Cj.nil (c_X13_in l g p2 (0 : Int32) (1 : Int32) r_3 hc_) ⟨rfl, rfl⟩ ⟨ht _ w_1910, w_1912, ht _ w_155, lk_X13_in⟩ w_1911 rfl hl rfl rfl dX13_place_16 rfl rfl rfl rfl (fun H locs hI => ?_)
    refine lv_if_ne (tgt := 28) hx hb dX13_place_19 (by decide) (fun h_ => ?_) (fun h_ => ?_)
    · replace hf := if_f h_ hf
      refine lv_aload_n hx hb dX13_place_28 rfl (lv_at hl 0 rfl) ?_
      refine lv_iload_n hx hb dX13_place_29 rfl (lv_at hl 2 rfl) ?_
      refine lv_if_ne (tgt := 45) hx hb dX13_place_30 (by decide) (fun h_ => ?_) (fun h_ => ?_)
      · replace hf := if_f h_ hf
        refine lv_aload_n hx hb dX13_place_45 rfl (lv_at hl 0 rfl) ?_
        refine g_Md_tangle_S X hI has_Md.l (X.fl w_1586) dX13_place_46 ?_
        refine g_Tn_standLink X hI has_Tn.l.r (hI.fn (List.mem_of_getElem? (i := 109) rfl)) dX13_place_49 ?_
        refine lv_iload_n hx hb dX13_place_52 rfl (lv_at hl 1 rfl) ?_
        obtain ⟨h_, hf⟩ := ck_someM hf
        refine ld_I X hI has_Tn_standLink.l.r h_ dX13_place_53 ?_
        exact L_54 (Tn_standLink tn (Int32.toNatClampNeg p1)) md_1 _ _ _ (lv_sub hl [] rfl) hI hf
      · replace hf := if_t h_ hf
        refine lv_aload_n hx hb dX13_place_33 rfl (lv_at hl 0 rfl) ?_
        refine g_Md_tangle_S X hI has_Md.l (X.fl w_1586) dX13_place_34 ?_
        refine g_Tn_standRing X hI has_Tn.l.r (hI.fn (List.mem_of_getElem? (i := 108) rfl)) dX13_place_37 ?_
        refine lv_iload_n hx hb dX13_place_40 rfl (lv_at hl 1 rfl) ?_
        obtain ⟨h_, hf⟩ := ck_someM hf
        refine ld_I X hI has_Tn_standRing.l.r h_ dX13_place_41 ?_
        refine lv_goto (tgt := 54) hx hb dX13_place_42 (by decide) ?_
        exact L_54 (Tn_standRing tn (Int32.toNatClampNeg p1)) md_1 _ _ _ (lv_sub hl [] rfl) hI hf
    · replace hf := if_t h_ hf
      exact L_22 md_1 _ _ _ (lv_sub hl [0] rfl) hI hf
abbrev rm_X13_isLeft : Room := { frames := 3, cells := 0, slots := 0, locals := 71 }
set_option maxRecDepth 20000 in
theorem c_X13_isLeft (l : Launch) (g : GT) (a_md : Nat → Nat) (a_tn : Nat → Nat) (q_md_read : Option Nat) (md : MdS) (tn : TnS) (p1 : Int32) (r_ : Int32) (o_md : MdS) (hf : f_X13_isLeft md tn p1 = some (r_, o_md)) : CI l yX13_isLeft cX13_isLeft 2 (some .boolean) rm_X13_isLeft g [.ref (a_md 0), .int p1] (wMd g a_md (some (a_tn 0)) q_md_read md ++ (wTn g a_tn tn ++ [])) (wMd g a_md (some (a_tn 0)) q_md_read o_md ++ (wTn g a_tn tn ++ [])) r_ := by
  refine start2 (y := yX13_isLeft) (cc := cX13_isLeft) (n := 2) (av := [.ref (a_md 0), .int p1]) (ws := (wMd g a_md (some (a_tn 0)) q_md_read md ++ (wTn g a_tn tn ++ []))) (Qc := fun sz => QI g (wMd g a_md (some (a_tn 0)) q_md_read md ++ (wTn g a_tn tn ++ [])) (wMd g a_md (some (a_tn 0)) q_md_read o_md ++ (wTn g a_tn tn ++ [])) r_ sz) (by decide) rfl ?_
  intro p e s m args below meth c ls Q A ha hQ hA X hl hI hin
  have X : Cx p s m args meth c cX13_isLeft 2 RX13 (some .boolean) := X
  have hl : lv_has ls 2 [(0, .ref (a_md 0)), (1, .int p1)] := hl
  obtain ⟨hx, hb, hml, hown, ht, hr, hlk⟩ := id X
  clear ha hin
  unfold f_X13_isLeft at hf
  refine lv_aload_n hx hb dX13_isLeft_0 rfl (lv_at hl 0 rfl) ?_
  refine lv_aload_n hx hb dX13_isLeft_1 rfl (lv_at hl 0 rfl) ?_
  refine g_Md_now X hI has_Md.l (X.fl w_1598) dX13_isLeft_2 ?_
  obtain ⟨md_1, hc_, hf⟩ := bd1_some hf
  refine call_Vv X hI (Cj.keep (Cj.keep Cj.id)) (c_X13_looks l g a_md a_tn q_md_read md tn (Md_now md) md_1 hc_) ⟨rfl, rfl⟩ ⟨ht _ w_2071, w_2074, ht _ w_155, lk_X13_looks⟩ w_2073 w_99 rfl rfl rfl hl rfl rfl dX13_isLeft_5 rfl rfl rfl rfl (fun H locs hI => ?_)
  refine lv_aload_n hx hb dX13_isLeft_8 rfl (lv_at hl 0 rfl) ?_
  refine g_Md_spotOf X hI has_Md.l (X.fl w_1602) dX13_isLeft_9 ?_
  refine lv_iconst (v := 2) hx hb dX13_isLeft_12 (by decide) ?_
  refine lv_iload_n hx hb dX13_isLeft_13 rfl (lv_at hl 1 rfl) ?_
  refine lv_imul hx hb dX13_isLeft_14 ?_
  obtain ⟨h_, hf⟩ := ck_someM hf
  refine ld_I X hI has_Md_spotOf.l h_ dX13_isLeft_15 ?_
  refine lv_iconst (v := (-1)) hx hb dX13_isLeft_16 (by decide) ?_
  refine lv_icmp_eq (tgt := 24) hx hb dX13_isLeft_17 (by decide) (fun h_ => ?_) (fun h_ => ?_)
  · replace hf := if_t h_ hf
    refine lv_iconst (v := 0) hx hb dX13_isLeft_24 (by decide) ?_
    cases hf
    exact end_z hQ hA X hI rfl dX13_isLeft_25
  · replace hf := if_f h_ hf
    refine lv_iconst (v := 1) hx hb dX13_isLeft_20 (by decide) ?_
    refine lv_goto (tgt := 25) hx hb dX13_isLeft_21 (by decide) ?_
    cases hf
    exact end_z hQ hA X hI rfl dX13_isLeft_25
abbrev rm_X13_sign : Room := { frames := 4, cells := 0, slots := 0, locals := 92 }
set_option maxRecDepth 20000 in
theorem c_X13_sign (l : Launch) (g : GT) (a_md : Nat → Nat) (a_tn : Nat → Nat) (q_md_read : Option Nat) (md : MdS) (tn : TnS) (p1 : Int32) (r_ : Int32) (o_md : MdS) (hf : f_X13_sign md tn p1 = some (r_, o_md)) : CI l yX13_sign cX13_sign 2 (some .int) rm_X13_sign g [.ref (a_md 0), .int p1] (wMd g a_md (some (a_tn 0)) q_md_read md ++ (wTn g a_tn tn ++ [])) (wMd g a_md (some (a_tn 0)) q_md_read o_md ++ (wTn g a_tn tn ++ [])) r_ := by
  refine start2 (y := yX13_sign) (cc := cX13_sign) (n := 2) (av := [.ref (a_md 0), .int p1]) (ws := (wMd g a_md (some (a_tn 0)) q_md_read md ++ (wTn g a_tn tn ++ []))) (Qc := fun sz => QI g (wMd g a_md (some (a_tn 0)) q_md_read md ++ (wTn g a_tn tn ++ [])) (wMd g a_md (some (a_tn 0)) q_md_read o_md ++ (wTn g a_tn tn ++ [])) r_ sz) (by decide) rfl ?_
  intro p e s m args below meth c ls Q A ha hQ hA X hl hI hin
  have X : Cx p s m args meth c cX13_sign 2 RX13 (some .int) := X
  have hl : lv_has ls 2 [(0, .ref (a_md 0)), (1, .int p1)] := hl
  obtain ⟨hx, hb, hml, hown, ht, hr, hlk⟩ := id X
  clear ha hin
  have L_27 : ∀ (md : MdS) (H : Heap) (locs : List Loc) (ls : Array Slot), lv_has ls 2 [(0, .ref (a_md 0))] → In g A s.heap s (wMd g a_md (some (a_tn 0)) q_md_read md ++ (wTn g a_tn tn ++ [])) H locs → f_X13_sign_L27 md = some (r_, o_md) → W p l e rm_X13_sign s m args below meth c H locs 0 0 Q (F0 m 27 ls []) := by
    intro md H locs ls hl hI hf
    unfold f_X13_sign_L27 at hf
    refine lv_aload_n hx hb dX13_sign_27 rfl (lv_at hl 0 rfl) ?_
    refine lv_iconst (v := 1) hx hb dX13_sign_28 (by decide) ?_
    obtain ⟨r_5, md_6, hc_, hf⟩ := bd2_some hf
    refine call_Vi X hI (Cj.keep Cj.nil) (c_X13_lost l g a_md (some (a_tn 0)) q_md_read md (1 : Int32) r_5 md_6 hc_) ⟨rfl, rfl⟩ ⟨ht _ w_2063, w_2066, ht _ w_155, lk_X13_lost⟩ w_2065 w_97 rfl rfl rfl hl rfl rfl dX13_sign_29 rfl rfl rfl rfl (fun H locs hI => ?_)
    cases hf
    exact end_i hQ hA X hI dX13_sign_32
  have L_51 : ∀ (t1i : Int32) (md : MdS) (H : Heap) (locs : List Loc) (ls : Array Slot), lv_has ls 2 [] → In g A s.heap s (wMd g a_md (some (a_tn 0)) q_md_read md ++ (wTn g a_tn tn ++ [])) H locs → f_X13_sign_L51 t1i md = some (r_, o_md) → W p l e rm_X13_sign s m args below meth c H locs 0 0 Q (F0 m 51 ls [.int t1i, .ref (a_md 0)]) := by
    intro t1i md H locs ls hl hI hf
    unfold f_X13_sign_L51 at hf
    obtain ⟨r_7, md_8, hc_, hf⟩ := bd2_some hf
    refine call_Vi X hI (Cj.keep Cj.nil) (c_X13_good l g a_md (some (a_tn 0)) q_md_read md t1i r_7 md_8 hc_) ⟨rfl, rfl⟩ ⟨ht _ w_1998, w_2001, ht _ w_155, lk_X13_good⟩ w_2000 w_92 rfl rfl rfl hl rfl rfl dX13_sign_51 rfl rfl rfl rfl (fun H locs hI => ?_)
    cases hf
    exact end_i hQ hA X hI dX13_sign_54
  unfold f_X13_sign at hf
  refine lv_aload_n hx hb dX13_sign_0 rfl (lv_at hl 0 rfl) ?_
  refine lv_iconst (v := 0) hx hb dX13_sign_1 (by decide) ?_
  refine p_Md_thrown X hI up_Md_thrown.l (X.fl w_1583) dX13_sign_2 (fun H locs hI => ?_)
  generalize hz_ : (Md_thrown' md (0 : Int32)) = md_1 at hI hf
  clear hz_
  replace hf := lt_e hf
  refine lv_aload_n hx hb dX13_sign_5 rfl (lv_at hl 0 rfl) ?_
  refine g_Md_tangle_S X hI has_Md.l (X.fl w_1586) dX13_sign_6 ?_
  refine lv_ifnull hx hb dX13_sign_9 ?_
  refine lv_iload_n hx hb dX13_sign_12 rfl (lv_at hl 1 rfl) ?_
  refine lv_if_lt (tgt := 27) hx hb dX13_sign_13 (by decide) (fun h_ => ?_) (fun h_ => ?_)
  · replace hf := if_t h_ hf
    exact L_27 md_1 _ _ _ (lv_sub hl [0] rfl) hI hf
  · replace hf := if_f h_ hf
    refine lv_iload_n hx hb dX13_sign_16 rfl (lv_at hl 1 rfl) ?_
    refine lv_aload_n hx hb dX13_sign_17 rfl (lv_at hl 0 rfl) ?_
    refine g_Md_tangle_S X hI has_Md.l (X.fl w_1586) dX13_sign_18 ?_
    refine g_Tn_crossings X hI has_Tn.l.r (hI.fn (List.mem_of_getElem? (i := 82) rfl)) dX13_sign_21 ?_
    refine lv_icmp_lt (tgt := 33) hx hb dX13_sign_24 (by decide) (fun h_ => ?_) (fun h_ => ?_)
    · replace hf := if_t h_ hf
      refine lv_aload_n hx hb dX13_sign_33 rfl (lv_at hl 0 rfl) ?_
      refine lv_aload_n hx hb dX13_sign_34 rfl (lv_at hl 0 rfl) ?_
      refine lv_iload_n hx hb dX13_sign_35 rfl (lv_at hl 1 rfl) ?_
      obtain ⟨r_2, md_3, hc_, hf⟩ := bd2_some hf
      refine call_Vi X hI (Cj.keep (Cj.keep Cj.id)) (c_X13_isLeft l g a_md a_tn q_md_read md_1 tn p1 r_2 md_3 hc_) ⟨rfl, rfl⟩ ⟨ht _ w_2067, w_2070, ht _ w_155, lk_X13_isLeft⟩ w_2069 w_98 rfl rfl rfl hl rfl rfl dX13_sign_36 rfl rfl rfl rfl (fun H locs hI => ?_)
      refine lv_if_eq (tgt := 50) hx hb dX13_sign_39 (by decide) (fun h_ => ?_) (fun h_ => ?_)
      · replace hf := if_t h_ hf
        refine lv_iconst (v := 0) hx hb dX13_sign_50 (by decide) ?_
        exact L_51 (0 : Int32) md_3 _ _ _ (lv_sub hl [] rfl) hI hf
      · replace hf := if_f h_ hf
        refine lv_aload_n hx hb dX13_sign_42 rfl (lv_at hl 0 rfl) ?_
        refine lv_iload_n hx hb dX13_sign_43 rfl (lv_at hl 1 rfl) ?_
        obtain ⟨r_4, hc_, hf⟩ := bd1_some hf
        refine call_Vi X hI (Cj.keep (Cj.keep Cj.id)) (c_X13_signNow l g a_md a_tn q_md_read md_3 tn p1 r_4 hc_) ⟨rfl, rfl⟩ ⟨ht _ w_2083, w_2086, ht _ w_155, lk_X13_signNow⟩ w_2085 w_102 rfl rfl rfl hl rfl rfl dX13_sign_44 rfl rfl rfl rfl (fun H locs hI => ?_)
        refine lv_goto (tgt := 51) hx hb dX13_sign_47 (by decide) ?_
        exact L_51 r_4 md_3 _ _ _ (lv_sub hl [] rfl) hI hf
    · replace hf := if_f h_ hf
      exact L_27 md_1 _ _ _ (lv_sub hl [0] rfl) hI hf
abbrev rm_X13_left : Room := { frames := 2, cells := 0, slots := 0, locals := 46 }
set_option maxRecDepth 20000 in
theorem c_X13_left (l : Launch) (g : GT) (a_md : Nat → Nat) (a_tn : Nat → Nat) (q_md_read : Option Nat) (md : MdS) (tn : TnS) (r_ : Int32) (o_md : MdS) (hf : f_X13_left md tn = some (r_, o_md)) : CI l yX13_left cX13_left 1 (some .int) rm_X13_left g [.ref (a_md 0)] (wMd g a_md (some (a_tn 0)) q_md_read md ++ (wTn g a_tn tn ++ [])) (wMd g a_md (some (a_tn 0)) q_md_read o_md ++ (wTn g a_tn tn ++ [])) r_ := by
  refine start2 (y := yX13_left) (cc := cX13_left) (n := 1) (av := [.ref (a_md 0)]) (ws := (wMd g a_md (some (a_tn 0)) q_md_read md ++ (wTn g a_tn tn ++ []))) (Qc := fun sz => QI g (wMd g a_md (some (a_tn 0)) q_md_read md ++ (wTn g a_tn tn ++ [])) (wMd g a_md (some (a_tn 0)) q_md_read o_md ++ (wTn g a_tn tn ++ [])) r_ sz) (by decide) rfl ?_
  intro p e s m args below meth c ls Q A ha hQ hA X hl hI hin
  have X : Cx p s m args meth c cX13_left 1 RX13 (some .int) := X
  have hl : lv_has ls 1 [(0, .ref (a_md 0))] := hl
  obtain ⟨hx, hb, hml, hown, ht, hr, hlk⟩ := id X
  clear ha hin
  unfold f_X13_left at hf
  refine lv_aload_n hx hb dX13_left_0 rfl (lv_at hl 0 rfl) ?_
  refine lv_iconst (v := 0) hx hb dX13_left_1 (by decide) ?_
  refine p_Md_thrown X hI up_Md_thrown.l (X.fl w_1583) dX13_left_2 (fun H locs hI => ?_)
  generalize hz_ : (Md_thrown' md (0 : Int32)) = md_1 at hI hf
  clear hz_
  replace hf := lt_e hf
  refine lv_aload_n hx hb dX13_left_5 rfl (lv_at hl 0 rfl) ?_
  refine g_Md_tangle_S X hI has_Md.l (X.fl w_1586) dX13_left_6 ?_
  refine lv_ifnonnull (tgt := 20) hx hb dX13_left_9 (by decide) ?_
  refine lv_aload_n hx hb dX13_left_20 rfl (lv_at hl 0 rfl) ?_
  refine lv_aload_n hx hb dX13_left_21 rfl (lv_at hl 0 rfl) ?_
  refine lv_aload_n hx hb dX13_left_22 rfl (lv_at hl 0 rfl) ?_
  refine g_Md_now X hI has_Md.l (X.fl w_1598) dX13_left_23 ?_
  obtain ⟨r_2, hc_, hf⟩ := bd1_some hf
  refine call_Vi X hI (Cj.keep (Cj.keep Cj.id)) (c_X13_leftIn l g a_md a_tn q_md_read md_1 tn (Md_now md_1) r_2 hc_) ⟨rfl, rfl⟩ ⟨ht _ w_2095, w_2098, ht _ w_155, lk_X13_leftIn⟩ w_2097 w_103 rfl rfl rfl hl rfl rfl dX13_left_26 rfl rfl rfl rfl (fun H locs hI => ?_)
  obtain ⟨r_3, md_4, hc_, hf⟩ := bd2_some hf
  refine call_Vi X hI (Cj.keep Cj.nil) (c_X13_good l g a_md (some (a_tn 0)) q_md_read md_1 r_2 r_3 md_4 hc_) ⟨rfl, rfl⟩ ⟨ht _ w_1998, w_2001, ht _ w_155, lk_X13_good⟩ w_2000 w_92 rfl rfl rfl hl rfl rfl dX13_left_29 rfl rfl rfl rfl (fun H locs hI => ?_)
  cases hf
  exact end_i hQ hA X hI dX13_left_32
abbrev rm_X13_loose : Room := { frames := 2, cells := 0, slots := 0, locals := 46 }
set_option maxRecDepth 20000 in
theorem c_X13_loose (l : Launch) (g : GT) (a_md : Nat → Nat) (a_tn : Nat → Nat) (q_md_read : Option Nat) (md : MdS) (tn : TnS) (r_ : Int32) (o_md : MdS) (hf : f_X13_loose md tn = some (r_, o_md)) : CI l yX13_loose cX13_loose 1 (some .int) rm_X13_loose g [.ref (a_md 0)] (wMd g a_md (some (a_tn 0)) q_md_read md ++ (wTn g a_tn tn ++ [])) (wMd g a_md (some (a_tn 0)) q_md_read o_md ++ (wTn g a_tn tn ++ [])) r_ := by
  refine start2 (y := yX13_loose) (cc := cX13_loose) (n := 1) (av := [.ref (a_md 0)]) (ws := (wMd g a_md (some (a_tn 0)) q_md_read md ++ (wTn g a_tn tn ++ []))) (Qc := fun sz => QI g (wMd g a_md (some (a_tn 0)) q_md_read md ++ (wTn g a_tn tn ++ [])) (wMd g a_md (some (a_tn 0)) q_md_read o_md ++ (wTn g a_tn tn ++ [])) r_ sz) (by decide) rfl ?_
  intro p e s m args below meth c ls Q A ha hQ hA X hl hI hin
  have X : Cx p s m args meth c cX13_loose 1 RX13 (some .int) := X
  have hl : lv_has ls 1 [(0, .ref (a_md 0))] := hl
  obtain ⟨hx, hb, hml, hown, ht, hr, hlk⟩ := id X
  clear ha hin
  have L_37 : ∀ (t1i : Int32) (md : MdS) (H : Heap) (locs : List Loc) (ls : Array Slot), lv_has ls 1 [] → In g A s.heap s (wMd g a_md (some (a_tn 0)) q_md_read md ++ (wTn g a_tn tn ++ [])) H locs → f_X13_loose_L37 t1i md = some (r_, o_md) → W p l e rm_X13_loose s m args below meth c H locs 0 0 Q (F0 m 37 ls [.int t1i, .ref (a_md 0)]) := by
    intro t1i md H locs ls hl hI hf
    unfold f_X13_loose_L37 at hf
    obtain ⟨r_3, md_4, hc_, hf⟩ := bd2_some hf
    refine call_Vi X hI (Cj.keep Cj.nil) (c_X13_good l g a_md (some (a_tn 0)) q_md_read md t1i r_3 md_4 hc_) ⟨rfl, rfl⟩ ⟨ht _ w_1998, w_2001, ht _ w_155, lk_X13_good⟩ w_2000 w_92 rfl rfl rfl hl rfl rfl dX13_loose_37 rfl rfl rfl rfl (fun H locs hI => ?_)
    cases hf
    exact end_i hQ hA X hI dX13_loose_40
  unfold f_X13_loose at hf
  refine lv_aload_n hx hb dX13_loose_0 rfl (lv_at hl 0 rfl) ?_
  refine lv_iconst (v := 0) hx hb dX13_loose_1 (by decide) ?_
  refine p_Md_thrown X hI up_Md_thrown.l (X.fl w_1583) dX13_loose_2 (fun H locs hI => ?_)
  generalize hz_ : (Md_thrown' md (0 : Int32)) = md_1 at hI hf
  clear hz_
  replace hf := lt_e hf
  refine lv_aload_n hx hb dX13_loose_5 rfl (lv_at hl 0 rfl) ?_
  refine g_Md_tangle_S X hI has_Md.l (X.fl w_1586) dX13_loose_6 ?_
  refine lv_ifnonnull (tgt := 20) hx hb dX13_loose_9 (by decide) ?_
  refine lv_aload_n hx hb dX13_loose_20 rfl (lv_at hl 0 rfl) ?_
  refine lv_aload_n hx hb dX13_loose_21 rfl (lv_at hl 0 rfl) ?_
  refine lv_aload_n hx hb dX13_loose_22 rfl (lv_at hl 0 rfl) ?_
  refine g_Md_now X hI has_Md.l (X.fl w_1598) dX13_loose_23 ?_
  obtain ⟨r_2, hc_, hf⟩ := bd1_some hf
  refine call_Vi X hI (Cj.keep (Cj.keep Cj.id)) (c_X13_leftIn l g a_md a_tn q_md_read md_1 tn (Md_now md_1) r_2 hc_) ⟨rfl, rfl⟩ ⟨ht _ w_2095, w_2098, ht _ w_155, lk_X13_leftIn⟩ w_2097 w_103 rfl rfl rfl hl rfl rfl dX13_loose_26 rfl rfl rfl rfl (fun H locs hI => ?_)
  refine lv_if_ne (tgt := 36) hx hb dX13_loose_29 (by decide) (fun h_ => ?_) (fun h_ => ?_)
  · replace hf := if_f h_ hf
    refine lv_iconst (v := 0) hx hb dX13_loose_36 (by decide) ?_
    exact L_37 (0 : Int32) md_1 _ _ _ (lv_sub hl [] rfl) hI hf
  · replace hf := if_t h_ hf
    refine lv_iconst (v := 1) hx hb dX13_loose_32 (by decide) ?_
    refine lv_goto (tgt := 37) hx hb dX13_loose_33 (by decide) ?_
    exact L_37 (1 : Int32) md_1 _ _ _ (lv_sub hl [] rfl) hI hf
abbrev rm_X13_may : Room := { frames := 4, cells := 0, slots := 0, locals := 89 }
set_option maxRecDepth 20000 in
theorem c_X13_may (l : Launch) (g : GT) (a_md : Nat → Nat) (a_tn : Nat → Nat) (q_md_read : Option Nat) (md : MdS) (tn : TnS) (p1 : Int32) (r_ : Int32) (o_md : MdS) (hf : f_X13_may md tn p1 = some (r_, o_md)) : CI l yX13_may cX13_may 2 (some .int) rm_X13_may g [.ref (a_md 0), .int p1] (wMd g a_md (some (a_tn 0)) q_md_read md ++ (wTn g a_tn tn ++ [])) (wMd g a_md (some (a_tn 0)) q_md_read o_md ++ (wTn g a_tn tn ++ [])) r_ := by
  refine start2 (y := yX13_may) (cc := cX13_may) (n := 2) (av := [.ref (a_md 0), .int p1]) (ws := (wMd g a_md (some (a_tn 0)) q_md_read md ++ (wTn g a_tn tn ++ []))) (Qc := fun sz => QI g (wMd g a_md (some (a_tn 0)) q_md_read md ++ (wTn g a_tn tn ++ [])) (wMd g a_md (some (a_tn 0)) q_md_read o_md ++ (wTn g a_tn tn ++ [])) r_ sz) (by decide) rfl ?_
  intro p e s m args below meth c ls Q A ha hQ hA X hl hI hin
  have X : Cx p s m args meth c cX13_may 2 RX13 (some .int) := X
  have hl : lv_has ls 2 [(0, .ref (a_md 0)), (1, .int p1)] := hl
  obtain ⟨hx, hb, hml, hown, ht, hr, hlk⟩ := id X
  clear ha hin
  have L_41 : ∀ (t1i : Int32) (md : MdS) (H : Heap) (locs : List Loc) (ls : Array Slot), lv_has ls 2 [] → In g A s.heap s (wMd g a_md (some (a_tn 0)) q_md_read md ++ (wTn g a_tn tn ++ [])) H locs → f_X13_may_L41 t1i md = some (r_, o_md) → W p l e rm_X13_may s m args below meth c H locs 0 0 Q (F0 m 41 ls [.int t1i, .ref (a_md 0)]) := by
    intro t1i md H locs ls hl hI hf
    unfold f_X13_may_L41 at hf
    obtain ⟨r_7, md_8, hc_, hf⟩ := bd2_some hf
    refine call_Vi X hI (Cj.keep Cj.nil) (c_X13_good l g a_md (some (a_tn 0)) q_md_read md t1i r_7 md_8 hc_) ⟨rfl, rfl⟩ ⟨ht _ w_1998, w_2001, ht _ w_155, lk_X13_good⟩ w_2000 w_92 rfl rfl rfl hl rfl rfl dX13_may_41 rfl rfl rfl rfl (fun H locs hI => ?_)
    cases hf
    exact end_i hQ hA X hI dX13_may_44
  unfold f_X13_may at hf
  refine lv_aload_n hx hb dX13_may_0 rfl (lv_at hl 0 rfl) ?_
  refine lv_iconst (v := 0) hx hb dX13_may_1 (by decide) ?_
  refine p_Md_thrown X hI up_Md_thrown.l (X.fl w_1583) dX13_may_2 (fun H locs hI => ?_)
  generalize hz_ : (Md_thrown' md (0 : Int32)) = md_1 at hI hf
  clear hz_
  replace hf := lt_e hf
  refine lv_aload_n hx hb dX13_may_5 rfl (lv_at hl 0 rfl) ?_
  refine lv_iload_n hx hb dX13_may_6 rfl (lv_at hl 1 rfl) ?_
  obtain ⟨r_2, hc_, hf⟩ := bd1_some hf
  refine call_Vi X hI (Cj.keep (Cj.keep Cj.id)) (c_X13_isMove l g a_md a_tn q_md_read md_1 tn p1 r_2 hc_) ⟨rfl, rfl⟩ ⟨ht _ w_2107, w_2110, ht _ w_155, lk_X13_isMove⟩ w_2109 w_104 rfl rfl rfl hl rfl rfl dX13_may_7 rfl rfl rfl rfl (fun H locs hI => ?_)
  refine lv_if_ne (tgt := 19) hx hb dX13_may_10 (by decide) (fun h_ => ?_) (fun h_ => ?_)
  · replace hf := if_f h_ hf
    refine lv_aload_n hx hb dX13_may_19 rfl (lv_at hl 0 rfl) ?_
    refine lv_aload_n hx hb dX13_may_20 rfl (lv_at hl 0 rfl) ?_
    refine g_Md_now X hI has_Md.l (X.fl w_1598) dX13_may_21 ?_
    obtain ⟨md_3, hc_, hf⟩ := bd1_some hf
    refine call_Vv X hI (Cj.keep (Cj.keep Cj.id)) (c_X13_looks l g a_md a_tn q_md_read md_1 tn (Md_now md_1) md_3 hc_) ⟨rfl, rfl⟩ ⟨ht _ w_2071, w_2074, ht _ w_155, lk_X13_looks⟩ w_2073 w_99 rfl rfl rfl hl rfl rfl dX13_may_24 rfl rfl rfl rfl (fun H locs hI => ?_)
    refine lv_aload_n hx hb dX13_may_27 rfl (lv_at hl 0 rfl) ?_
    refine lv_aload_n hx hb dX13_may_28 rfl (lv_at hl 0 rfl) ?_
    refine lv_iload_n hx hb dX13_may_29 rfl (lv_at hl 1 rfl) ?_
    obtain ⟨r_4, hc_, hf⟩ := bd1_some hf
    refine call_Vi X hI (Cj.keep (Cj.keep Cj.id)) (c_X13_mayMove l g a_md a_tn q_md_read md_3 tn p1 r_4 hc_) ⟨rfl, rfl⟩ ⟨ht _ w_2114, w_2117, ht _ w_155, lk_X13_mayMove⟩ w_2116 w_105 rfl rfl rfl hl rfl rfl dX13_may_30 rfl rfl rfl rfl (fun H locs hI => ?_)
    refine lv_if_eq (tgt := 40) hx hb dX13_may_33 (by decide) (fun h_ => ?_) (fun h_ => ?_)
    · replace hf := if_t h_ hf
      refine lv_iconst (v := 0) hx hb dX13_may_40 (by decide) ?_
      exact L_41 (0 : Int32) md_3 _ _ _ (lv_sub hl [] rfl) hI hf
    · replace hf := if_f h_ hf
      refine lv_iconst (v := 1) hx hb dX13_may_36 (by decide) ?_
      refine lv_goto (tgt := 41) hx hb dX13_may_37 (by decide) ?_
      exact L_41 (1 : Int32) md_3 _ _ _ (lv_sub hl [] rfl) hI hf
  · replace hf := if_t h_ hf
    refine lv_aload_n hx hb dX13_may_13 rfl (lv_at hl 0 rfl) ?_
    refine lv_iconst (v := 1) hx hb dX13_may_14 (by decide) ?_
    obtain ⟨r_5, md_6, hc_, hf⟩ := bd2_some hf
    refine call_Vi X hI (Cj.keep Cj.nil) (c_X13_refused l g a_md (some (a_tn 0)) q_md_read md_1 (1 : Int32) r_5 md_6 hc_) ⟨rfl, rfl⟩ ⟨ht _ w_1719, w_1722, ht _ w_155, lk_X13_refused⟩ w_1721 w_65 rfl rfl rfl hl rfl rfl dX13_may_15 rfl rfl rfl rfl (fun H locs hI => ?_)
    cases hf
    exact end_i hQ hA X hI dX13_may_18
abbrev rm_X13_goer : Room := { frames := 3, cells := 0, slots := 0, locals := 71 }
set_option maxRecDepth 20000 in
theorem c_X13_goer (l : Launch) (g : GT) (a_md : Nat → Nat) (a_tn : Nat → Nat) (q_md_read : Option Nat) (md : MdS) (tn : TnS) (p1 : Int32) (r_ : Int32) (o_md : MdS) (hf : f_X13_goer md tn p1 = some (r_, o_md)) : CI l yX13_goer cX13_goer 2 (some .int) rm_X13_goer g [.ref (a_md 0), .int p1] (wMd g a_md (some (a_tn 0)) q_md_read md ++ (wTn g a_tn tn ++ [])) (wMd g a_md (some (a_tn 0)) q_md_read o_md ++ (wTn g a_tn tn ++ [])) r_ := by
  refine start2 (y := yX13_goer) (cc := cX13_goer) (n := 2) (av := [.ref (a_md 0), .int p1]) (ws := (wMd g a_md (some (a_tn 0)) q_md_read md ++ (wTn g a_tn tn ++ []))) (Qc := fun sz => QI g (wMd g a_md (some (a_tn 0)) q_md_read md ++ (wTn g a_tn tn ++ [])) (wMd g a_md (some (a_tn 0)) q_md_read o_md ++ (wTn g a_tn tn ++ [])) r_ sz) (by decide) rfl ?_
  intro p e s m args below meth c ls Q A ha hQ hA X hl hI hin
  have X : Cx p s m args meth c cX13_goer 2 RX13 (some .int) := X
  have hl : lv_has ls 2 [(0, .ref (a_md 0)), (1, .int p1)] := hl
  obtain ⟨hx, hb, hml, hown, ht, hr, hlk⟩ := id X
  clear ha hin
  unfold f_X13_goer at hf
  refine lv_aload_n hx hb dX13_goer_0 rfl (lv_at hl 0 rfl) ?_
  refine lv_iconst (v := 0) hx hb dX13_goer_1 (by decide) ?_
  refine p_Md_thrown X hI up_Md_thrown.l (X.fl w_1583) dX13_goer_2 (fun H locs hI => ?_)
  generalize hz_ : (Md_thrown' md (0 : Int32)) = md_1 at hI hf
  clear hz_
  replace hf := lt_e hf
  refine lv_aload_n hx hb dX13_goer_5 rfl (lv_at hl 0 rfl) ?_
  refine lv_iload_n hx hb dX13_goer_6 rfl (lv_at hl 1 rfl) ?_
  obtain ⟨r_2, hc_, hf⟩ := bd1_some hf
  refine call_Vi X hI (Cj.keep (Cj.keep Cj.id)) (c_X13_isMove l g a_md a_tn q_md_read md_1 tn p1 r_2 hc_) ⟨rfl, rfl⟩ ⟨ht _ w_2107, w_2110, ht _ w_155, lk_X13_isMove⟩ w_2109 w_104 rfl rfl rfl hl rfl rfl dX13_goer_7 rfl rfl rfl rfl (fun H locs hI => ?_)
  refine lv_if_ne (tgt := 19) hx hb dX13_goer_10 (by decide) (fun h_ => ?_) (fun h_ => ?_)
  · replace hf := if_f h_ hf
    refine lv_aload_n hx hb dX13_goer_19 rfl (lv_at hl 0 rfl) ?_
    refine lv_aload_n hx hb dX13_goer_20 rfl (lv_at hl 0 rfl) ?_
    refine g_Md_now X hI has_Md.l (X.fl w_1598) dX13_goer_21 ?_
    obtain ⟨md_3, hc_, hf⟩ := bd1_some hf
    refine call_Vv X hI (Cj.keep (Cj.keep Cj.id)) (c_X13_looks l g a_md a_tn q_md_read md_1 tn (Md_now md_1) md_3 hc_) ⟨rfl, rfl⟩ ⟨ht _ w_2071, w_2074, ht _ w_155, lk_X13_looks⟩ w_2073 w_99 rfl rfl rfl hl rfl rfl dX13_goer_24 rfl rfl rfl rfl (fun H locs hI => ?_)
    refine lv_aload_n hx hb dX13_goer_27 rfl (lv_at hl 0 rfl) ?_
    refine lv_iload_n hx hb dX13_goer_28 rfl (lv_at hl 1 rfl) ?_
    obtain ⟨r_4, hc_, hf⟩ := bd1_some hf
    refine call_Vi X hI (Cj.keep (Cj.keep Cj.id)) (c_X13_can l g a_md a_tn q_md_read md_3 tn p1 r_4 hc_) ⟨rfl, rfl⟩ ⟨ht _ w_2118, w_2121, ht _ w_155, lk_X13_can⟩ w_2120 w_106 rfl rfl rfl hl rfl rfl dX13_goer_29 rfl rfl rfl rfl (fun H locs hI => ?_)
    refine lv_if_eq (tgt := 47) hx hb dX13_goer_32 (by decide) (fun h_ => ?_) (fun h_ => ?_)
    · replace hf := if_t h_ hf
      refine lv_aload_n hx hb dX13_goer_47 rfl (lv_at hl 0 rfl) ?_
      refine lv_iconst (v := 5) hx hb dX13_goer_48 (by decide) ?_
      obtain ⟨r_5, md_6, hc_, hf⟩ := bd2_some hf
      refine call_Vi X hI (Cj.keep Cj.nil) (c_X13_refused l g a_md (some (a_tn 0)) q_md_read md_3 (5 : Int32) r_5 md_6 hc_) ⟨rfl, rfl⟩ ⟨ht _ w_1719, w_1722, ht _ w_155, lk_X13_refused⟩ w_1721 w_65 rfl rfl rfl hl rfl rfl dX13_goer_49 rfl rfl rfl rfl (fun H locs hI => ?_)
      cases hf
      exact end_i hQ hA X hI dX13_goer_52
    · replace hf := if_f h_ hf
      refine lv_aload_n hx hb dX13_goer_35 rfl (lv_at hl 0 rfl) ?_
      refine lv_aload_n hx hb dX13_goer_36 rfl (lv_at hl 0 rfl) ?_
      refine lv_iload_n hx hb dX13_goer_37 rfl (lv_at hl 1 rfl) ?_
      obtain ⟨r_7, hc_, hf⟩ := bd1_some hf
      refine call_Vi X hI (Cj.keep (Cj.keep Cj.id)) (c_X13_goerOf l g a_md a_tn q_md_read md_3 tn p1 r_7 hc_) ⟨rfl, rfl⟩ ⟨ht _ w_2126, w_2129, ht _ w_155, lk_X13_goerOf⟩ w_2128 w_108 rfl rfl rfl hl rfl rfl dX13_goer_38 rfl rfl rfl rfl (fun H locs hI => ?_)
      obtain ⟨r_8, md_9, hc_, hf⟩ := bd2_some hf
      refine call_Vi X hI (Cj.keep Cj.nil) (c_X13_good l g a_md (some (a_tn 0)) q_md_read md_3 r_7 r_8 md_9 hc_) ⟨rfl, rfl⟩ ⟨ht _ w_1998, w_2001, ht _ w_155, lk_X13_good⟩ w_2000 w_92 rfl rfl rfl hl rfl rfl dX13_goer_41 rfl rfl rfl rfl (fun H locs hI => ?_)
      refine lv_goto (tgt := 52) hx hb dX13_goer_44 (by decide) ?_
      cases hf
      exact end_i hQ hA X hI dX13_goer_52
  · replace hf := if_t h_ hf
    refine lv_aload_n hx hb dX13_goer_13 rfl (lv_at hl 0 rfl) ?_
    refine lv_iconst (v := 1) hx hb dX13_goer_14 (by decide) ?_
    obtain ⟨r_10, md_11, hc_, hf⟩ := bd2_some hf
    refine call_Vi X hI (Cj.keep Cj.nil) (c_X13_refused l g a_md (some (a_tn 0)) q_md_read md_1 (1 : Int32) r_10 md_11 hc_) ⟨rfl, rfl⟩ ⟨ht _ w_1719, w_1722, ht _ w_155, lk_X13_refused⟩ w_1721 w_65 rfl rfl rfl hl rfl rfl dX13_goer_15 rfl rfl rfl rfl (fun H locs hI => ?_)
    cases hf
    exact end_i hQ hA X hI dX13_goer_18
abbrev rm_X13_moves : Room := { frames := 5, cells := 0, slots := 0, locals := 111 }
set_option maxRecDepth 20000 in
theorem c_X13_moves (l : Launch) (g : GT) (a_md : Nat → Nat) (a_tn : Nat → Nat) (q_md_read : Option Nat) (md : MdS) (tn : TnS) (r_ : Int32) (o_md : MdS) (hf : f_X13_moves md tn = some (r_, o_md)) : CI l yX13_moves cX13_moves 3 (some .int) rm_X13_moves g [.ref (a_md 0)] (wMd g a_md (some (a_tn 0)) q_md_read md ++ (wTn g a_tn tn ++ [])) (wMd g a_md (some (a_tn 0)) q_md_read o_md ++ (wTn g a_tn tn ++ [])) r_ := by
  refine start2 (y := yX13_moves) (cc := cX13_moves) (n := 3) (av := [.ref (a_md 0)]) (ws := (wMd g a_md (some (a_tn 0)) q_md_read md ++ (wTn g a_tn tn ++ []))) (Qc := fun sz => QI g (wMd g a_md (some (a_tn 0)) q_md_read md ++ (wTn g a_tn tn ++ [])) (wMd g a_md (some (a_tn 0)) q_md_read o_md ++ (wTn g a_tn tn ++ [])) r_ sz) (by decide) rfl ?_
  intro p e s m args below meth c ls Q A ha hQ hA X hl hI hin
  have X : Cx p s m args meth c cX13_moves 3 RX13 (some .int) := X
  have hl : lv_has ls 3 [(0, .ref (a_md 0))] := hl
  obtain ⟨hx, hb, hml, hown, ht, hr, hlk⟩ := id X
  clear ha hin
  have L_34 : ∀ (n_ : Nat) (x1 : Int32) (x2 : Int32) (md : MdS) (H : Heap) (locs : List Loc) (ls : Array Slot), lv_has ls 3 [(0, .ref (a_md 0)), (1, .int x1), (2, .int x2)] → In g A s.heap s (wMd g a_md (some (a_tn 0)) q_md_read md ++ (wTn g a_tn tn ++ [])) H locs → f_X13_moves_L34 n_ x1 x2 md tn = some (r_, o_md) → W p l e rm_X13_moves s m args below meth c H locs 0 0 Q (F0 m 34 ls []) := by
    intro n_
    induction n_ with
    | zero =>
      intro x1 x2 md H locs ls hl hI hf
      rw [f_X13_moves_L34] at hf
      cases hf
    | succ n_ ih =>
      intro x1 x2 md H locs ls hl hI hf
      rw [f_X13_moves_L34] at hf
      refine lv_iload_n hx hb dX13_moves_34 rfl (lv_at hl 2 rfl) ?_
      refine lv_sipush (v := 2000) hx hb dX13_moves_35 (by decide) ?_
      refine lv_icmp_ge (tgt := 53) hx hb dX13_moves_38 (by decide) (fun h_ => ?_) (fun h_ => ?_)
      · replace hf := if_t h_ hf
        refine lv_aload_n hx hb dX13_moves_53 rfl (lv_at hl 0 rfl) ?_
        refine lv_iload_n hx hb dX13_moves_54 rfl (lv_at hl 1 rfl) ?_
        obtain ⟨r_4, md_5, hc_, hf⟩ := bd2_some hf
        refine call_Vi X hI (Cj.keep Cj.nil) (c_X13_good l g a_md (some (a_tn 0)) q_md_read md x1 r_4 md_5 hc_) ⟨rfl, rfl⟩ ⟨ht _ w_1998, w_2001, ht _ w_155, lk_X13_good⟩ w_2000 w_92 rfl rfl rfl hl rfl rfl dX13_moves_55 rfl rfl rfl rfl (fun H locs hI => ?_)
        cases hf
        exact end_i hQ hA X hI dX13_moves_58
      · replace hf := if_f h_ hf
        obtain ⟨v_6, e_⟩ : ∃ y : Int32, y = (x1 + (1 : Int32)) := ⟨_, rfl⟩
        replace hf := lt_to e_ hf
        refine lv_iinc (v := v_6) (lv' := [(1, .int v_6), (0, .ref (a_md 0)), (2, .int x2)]) hx hb dX13_moves_41 hl (k := 1) rfl (by rw [e_]; rfl) (by decide) rfl (fun ls hl => ?_)
        clear e_
        refine lv_aload_n hx hb dX13_moves_44 rfl (lv_at hl 1 rfl) ?_
        refine lv_iload_n hx hb dX13_moves_45 rfl (lv_at hl 2 rfl) ?_
        obtain ⟨r_7, hc_, hf⟩ := bd1_some hf
        refine call_Vi X hI (Cj.keep (Cj.keep Cj.id)) (c_X13_nextMay l g a_md a_tn q_md_read md tn x2 r_7 hc_) ⟨rfl, rfl⟩ ⟨ht _ w_2138, w_2141, ht _ w_155, lk_X13_nextMay⟩ w_2140 w_109 rfl rfl rfl hl rfl rfl dX13_moves_46 rfl rfl rfl rfl (fun H locs hI => ?_)
        refine lv_istore_n (lv' := [(2, .int r_7), (1, .int v_6), (0, .ref (a_md 0))]) hx hb dX13_moves_49 rfl hl (by decide) rfl (fun ls hl => ?_)
        refine lv_goto (tgt := 34) hx hb dX13_moves_50 (by decide) ?_
        exact ih v_6 r_7 md _ _ _ (lv_sub hl [2, 1, 0] rfl) hI hf
  unfold f_X13_moves at hf
  refine lv_aload_n hx hb dX13_moves_0 rfl (lv_at hl 0 rfl) ?_
  refine lv_iconst (v := 0) hx hb dX13_moves_1 (by decide) ?_
  refine p_Md_thrown X hI up_Md_thrown.l (X.fl w_1583) dX13_moves_2 (fun H locs hI => ?_)
  generalize hz_ : (Md_thrown' md (0 : Int32)) = md_1 at hI hf
  clear hz_
  replace hf := lt_e hf
  refine lv_aload_n hx hb dX13_moves_5 rfl (lv_at hl 0 rfl) ?_
  refine g_Md_tangle_S X hI has_Md.l (X.fl w_1586) dX13_moves_6 ?_
  refine lv_ifnonnull (tgt := 18) hx hb dX13_moves_9 (by decide) ?_
  refine lv_aload_n hx hb dX13_moves_18 rfl (lv_at hl 0 rfl) ?_
  refine lv_aload_n hx hb dX13_moves_19 rfl (lv_at hl 0 rfl) ?_
  refine g_Md_now X hI has_Md.l (X.fl w_1598) dX13_moves_20 ?_
  obtain ⟨md_2, hc_, hf⟩ := bd1_some hf
  refine call_Vv X hI (Cj.keep (Cj.keep Cj.id)) (c_X13_looks l g a_md a_tn q_md_read md_1 tn (Md_now md_1) md_2 hc_) ⟨rfl, rfl⟩ ⟨ht _ w_2071, w_2074, ht _ w_155, lk_X13_looks⟩ w_2073 w_99 rfl rfl rfl hl rfl rfl dX13_moves_23 rfl rfl rfl rfl (fun H locs hI => ?_)
  refine lv_iconst (v := 0) hx hb dX13_moves_26 (by decide) ?_
  refine lv_istore_n (lv' := [(1, .int (0 : Int32)), (0, .ref (a_md 0))]) hx hb dX13_moves_27 rfl hl (by decide) rfl (fun ls hl => ?_)
  refine lv_aload_n hx hb dX13_moves_28 rfl (lv_at hl 1 rfl) ?_
  refine lv_iconst (v := (-1)) hx hb dX13_moves_29 (by decide) ?_
  obtain ⟨r_3, hc_, hf⟩ := bd1_some hf
  refine call_Vi X hI (Cj.keep (Cj.keep Cj.id)) (c_X13_nextMay l g a_md a_tn q_md_read md_2 tn (-1 : Int32) r_3 hc_) ⟨rfl, rfl⟩ ⟨ht _ w_2138, w_2141, ht _ w_155, lk_X13_nextMay⟩ w_2140 w_109 rfl rfl rfl hl rfl rfl dX13_moves_30 rfl rfl rfl rfl (fun H locs hI => ?_)
  refine lv_istore_n (lv' := [(2, .int r_3), (1, .int (0 : Int32)), (0, .ref (a_md 0))]) hx hb dX13_moves_33 rfl hl (by decide) rfl (fun ls hl => ?_)
  exact L_34 FU (0 : Int32) r_3 md_2 _ _ _ (lv_sub hl [2, 1, 0] rfl) hI hf
