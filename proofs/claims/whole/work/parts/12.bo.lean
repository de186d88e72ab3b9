abbrev rm_X0_firstOf : Room := { frames := 0, cells := 0, slots := 0, locals := 0 }
set_option maxRecDepth 20000 in
theorem c_X0_firstOf (l : Launch) (g : GT) (p0 : Int32) (r_ : Int32) (hf : f_X0_firstOf p0 = some (r_)) : CI l yX0_firstOf cX0_firstOf 1 (some .int) rm_X0_firstOf g [.int p0] ([]) ([]) r_ := by
  refine start2 (y := yX0_firstOf) (cc := cX0_firstOf) (n := 1) (av := [.int p0]) (ws := ([])) (Qc := fun sz => QI g ([]) ([]) r_ sz) (by decide) rfl ?_
  intro p e s m args below meth c ls Q A ha hQ hA X hl hI hin
  have X : Cx p s m args meth c cX0_firstOf 1 RX0 (some .int) := X
  have hl : lv_has ls 1 [(0, .int p0)] := hl
  obtain ⟨hx, hb, hml, hown, ht, hr, hlk⟩ := id X
  clear ha hin
  unfold f_X0_firstOf at hf
  refine lv_iload_n hx hb dX0_firstOf_0 rfl (lv_at hl 0 rfl) ?_
  refine lv_bipush (v := 100) hx hb dX0_firstOf_1 (by decide) ?_
  refine lv_icmp_ge (tgt := 10) hx hb dX0_firstOf_3 (by decide) (fun h_ => ?_) (fun h_ => ?_)
  · replace hf := if_t h_ hf
    refine lv_iload_n hx hb dX0_firstOf_10 rfl (lv_at hl 0 rfl) ?_
    refine lv_sipush (v := 1000) hx hb dX0_firstOf_11 (by decide) ?_
    refine lv_icmp_ge (tgt := 27) hx hb dX0_firstOf_14 (by decide) (fun h_ => ?_) (fun h_ => ?_)
    · replace hf := if_t h_ hf
      refine lv_iload_n hx hb dX0_firstOf_27 rfl (lv_at hl 0 rfl) ?_
      refine lv_bipush (v := 100) hx hb dX0_firstOf_28 (by decide) ?_
      refine lv_idiv hx hb dX0_firstOf_30 (by decide) ?_
      refine lv_bipush (v := 10) hx hb dX0_firstOf_31 (by decide) ?_
      refine lv_irem hx hb dX0_firstOf_33 (by decide) ?_
      cases hf
      exact end_i hQ hA X hI dX0_firstOf_34
    · replace hf := if_f h_ hf
      refine lv_iload_n hx hb dX0_firstOf_17 rfl (lv_at hl 0 rfl) ?_
      refine lv_bipush (v := 100) hx hb dX0_firstOf_18 (by decide) ?_
      refine lv_isub hx hb dX0_firstOf_20 ?_
      refine lv_bipush (v := 10) hx hb dX0_firstOf_21 (by decide) ?_
      refine lv_idiv hx hb dX0_firstOf_23 (by decide) ?_
      refine lv_goto (tgt := 34) hx hb dX0_firstOf_24 (by decide) ?_
      cases hf
      exact end_i hQ hA X hI dX0_firstOf_34
  · replace hf := if_f h_ hf
    refine lv_iload_n hx hb dX0_firstOf_6 rfl (lv_at hl 0 rfl) ?_
    refine lv_goto (tgt := 34) hx hb dX0_firstOf_7 (by decide) ?_
    cases hf
    exact end_i hQ hA X hI dX0_firstOf_34
abbrev rm_X0_secondOf : Room := { frames := 0, cells := 0, slots := 0, locals := 0 }
set_option maxRecDepth 20000 in
theorem c_X0_secondOf (l : Launch) (g : GT) (p0 : Int32) (r_ : Int32) (hf : f_X0_secondOf p0 = some (r_)) : CI l yX0_secondOf cX0_secondOf 1 (some .int) rm_X0_secondOf g [.int p0] ([]) ([]) r_ := by
  refine start2 (y := yX0_secondOf) (cc := cX0_secondOf) (n := 1) (av := [.int p0]) (ws := ([])) (Qc := fun sz => QI g ([]) ([]) r_ sz) (by decide) rfl ?_
  intro p e s m args below meth c ls Q A ha hQ hA X hl hI hin
  have X : Cx p s m args meth c cX0_secondOf 1 RX0 (some .int) := X
  have hl : lv_has ls 1 [(0, .int p0)] := hl
  obtain ⟨hx, hb, hml, hown, ht, hr, hlk⟩ := id X
  clear ha hin
  unfold f_X0_secondOf at hf
  refine lv_iload_n hx hb dX0_secondOf_0 rfl (lv_at hl 0 rfl) ?_
  refine lv_sipush (v := 1000) hx hb dX0_secondOf_1 (by decide) ?_
  refine lv_icmp_ge (tgt := 14) hx hb dX0_secondOf_4 (by decide) (fun h_ => ?_) (fun h_ => ?_)
  · replace hf := if_t h_ hf
    refine lv_iload_n hx hb dX0_secondOf_14 rfl (lv_at hl 0 rfl) ?_
    refine lv_bipush (v := 10) hx hb dX0_secondOf_15 (by decide) ?_
    refine lv_idiv hx hb dX0_secondOf_17 (by decide) ?_
    refine lv_bipush (v := 10) hx hb dX0_secondOf_18 (by decide) ?_
    refine lv_irem hx hb dX0_secondOf_20 (by decide) ?_
    cases hf
    exact end_i hQ hA X hI dX0_secondOf_21
  · replace hf := if_f h_ hf
    refine lv_iload_n hx hb dX0_secondOf_7 rfl (lv_at hl 0 rfl) ?_
    refine lv_bipush (v := 10) hx hb dX0_secondOf_8 (by decide) ?_
    refine lv_irem hx hb dX0_secondOf_10 (by decide) ?_
    refine lv_goto (tgt := 21) hx hb dX0_secondOf_11 (by decide) ?_
    cases hf
    exact end_i hQ hA X hI dX0_secondOf_21
abbrev rm_X0_thirdOf : Room := { frames := 0, cells := 0, slots := 0, locals := 0 }
set_option maxRecDepth 20000 in
theorem c_X0_thirdOf (l : Launch) (g : GT) (p0 : Int32) (r_ : Int32) (hf : f_X0_thirdOf p0 = some (r_)) : CI l yX0_thirdOf cX0_thirdOf 1 (some .int) rm_X0_thirdOf g [.int p0] ([]) ([]) r_ := by
  refine start2 (y := yX0_thirdOf) (cc := cX0_thirdOf) (n := 1) (av := [.int p0]) (ws := ([])) (Qc := fun sz => QI g ([]) ([]) r_ sz) (by decide) rfl ?_
  intro p e s m args below meth c ls Q A ha hQ hA X hl hI hin
  have X : Cx p s m args meth c cX0_thirdOf 1 RX0 (some .int) := X
  have hl : lv_has ls 1 [(0, .int p0)] := hl
  obtain ⟨hx, hb, hml, hown, ht, hr, hlk⟩ := id X
  clear ha hin
  unfold f_X0_thirdOf at hf
  refine lv_iload_n hx hb dX0_thirdOf_0 rfl (lv_at hl 0 rfl) ?_
  refine lv_bipush (v := 10) hx hb dX0_thirdOf_1 (by decide) ?_
  refine lv_irem hx hb dX0_thirdOf_3 (by decide) ?_
  cases hf
  exact end_i hQ hA X hI dX0_thirdOf_4
abbrev rm_X0_isNumber : Room := { frames := 1, cells := 0, slots := 0, locals := 20 }
set_option maxRecDepth 20000 in
theorem c_X0_isNumber (l : Launch) (g : GT) (p0 : Int32) (p1 : Int32) (r_ : Int32) (hf : f_X0_isNumber p0 p1 = some (r_)) : CI l yX0_isNumber cX0_isNumber 5 (some .boolean) rm_X0_isNumber g [.int p0, .int p1] ([]) ([]) r_ := by
  refine start2 (y := yX0_isNumber) (cc := cX0_isNumber) (n := 5) (av := [.int p0, .int p1]) (ws := ([])) (Qc := fun sz => QI g ([]) ([]) r_ sz) (by decide) rfl ?_
  intro p e s m args below meth c ls Q A ha hQ hA X hl hI hin
  have X : Cx p s m args meth c cX0_isNumber 5 RX0 (some .boolean) := X
  have hl : lv_has ls 5 [(0, .int p0), (1, .int p1)] := hl
  obtain ⟨hx, hb, hml, hown, ht, hr, hlk⟩ := id X
  clear ha hin
  unfold f_X0_isNumber at hf
  refine lv_iload_n hx hb dX0_isNumber_0 rfl (lv_at hl 0 rfl) ?_
  refine lv_if_lt (tgt := 11) hx hb dX0_isNumber_1 (by decide) (fun h_ => ?_) (fun h_ => ?_)
  · replace hf := if_t h_ hf
    refine lv_iconst (v := 0) hx hb dX0_isNumber_11 (by decide) ?_
    cases hf
    exact end_z hQ hA X hI rfl dX0_isNumber_12
  · replace hf := if_f h_ hf
    refine lv_iload_n hx hb dX0_isNumber_4 rfl (lv_at hl 0 rfl) ?_
    refine lv_sipush (v := 2000) hx hb dX0_isNumber_5 (by decide) ?_
    refine lv_icmp_lt (tgt := 13) hx hb dX0_isNumber_8 (by decide) (fun h_ => ?_) (fun h_ => ?_)
    · replace hf := if_t h_ hf
      refine lv_iload_n hx hb dX0_isNumber_13 rfl (lv_at hl 0 rfl) ?_
      refine lv_bipush (v := 100) hx hb dX0_isNumber_14 (by decide) ?_
      refine lv_icmp_ge (tgt := 30) hx hb dX0_isNumber_16 (by decide) (fun h_ => ?_) (fun h_ => ?_)
      · replace hf := if_t h_ hf
        refine lv_iload_n hx hb dX0_isNumber_30 rfl (lv_at hl 0 rfl) ?_
        obtain ⟨r_1, hc_, hf⟩ := bd1_some hf
        refine call_Si X hI Cj.nil (c_X0_firstOf l g p0 r_1 hc_) ⟨rfl, rfl⟩ ⟨ht _ w_1096, w_1098, ht _ w_150, lk_X0_firstOf⟩ w_1097 rfl hl rfl rfl dX0_isNumber_31 rfl rfl rfl rfl (fun H locs hI => ?_)
        refine lv_istore_n (lv' := [(2, .int r_1), (0, .int p0), (1, .int p1)]) hx hb dX0_isNumber_34 rfl hl (by decide) rfl (fun ls hl => ?_)
        refine lv_iload_n hx hb dX0_isNumber_35 rfl (lv_at hl 1 rfl) ?_
        obtain ⟨r_2, hc_, hf⟩ := bd1_some hf
        refine call_Si X hI Cj.nil (c_X0_secondOf l g p0 r_2 hc_) ⟨rfl, rfl⟩ ⟨ht _ w_1099, w_1101, ht _ w_150, lk_X0_secondOf⟩ w_1100 rfl hl rfl rfl dX0_isNumber_36 rfl rfl rfl rfl (fun H locs hI => ?_)
        refine lv_istore_n (lv' := [(3, .int r_2), (2, .int r_1), (0, .int p0), (1, .int p1)]) hx hb dX0_isNumber_39 rfl hl (by decide) rfl (fun ls hl => ?_)
        refine lv_iload_n hx hb dX0_isNumber_40 rfl (lv_at hl 2 rfl) ?_
        refine lv_sipush (v := 1000) hx hb dX0_isNumber_41 (by decide) ?_
        refine lv_icmp_ge (tgt := 63) hx hb dX0_isNumber_44 (by decide) (fun h_ => ?_) (fun h_ => ?_)
        · replace hf := if_t h_ hf
          refine lv_iload_n hx hb dX0_isNumber_63 rfl (lv_at hl 2 rfl) ?_
          obtain ⟨r_3, hc_, hf⟩ := bd1_some hf
          refine call_Si X hI Cj.nil (c_X0_thirdOf l g p0 r_3 hc_) ⟨rfl, rfl⟩ ⟨ht _ w_1102, w_1104, ht _ w_150, lk_X0_thirdOf⟩ w_1103 rfl hl rfl rfl dX0_isNumber_64 rfl rfl rfl rfl (fun H locs hI => ?_)
          refine lv_istore (lv' := [(4, .int r_3), (3, .int r_2), (2, .int r_1), (0, .int p0), (1, .int p1)]) hx hb dX0_isNumber_67 hl (by decide) rfl (fun ls hl => ?_)
          refine lv_iload_n hx hb dX0_isNumber_69 rfl (lv_at hl 2 rfl) ?_
          refine lv_iload_n hx hb dX0_isNumber_70 rfl (lv_at hl 4 rfl) ?_
          refine lv_icmp_ge (tgt := 106) hx hb dX0_isNumber_71 (by decide) (fun h_ => ?_) (fun h_ => ?_)
          · replace hf := if_t h_ hf
            refine lv_iconst (v := 0) hx hb dX0_isNumber_106 (by decide) ?_
            cases hf
            exact end_z hQ hA X hI rfl dX0_isNumber_107
          · replace hf := if_f h_ hf
            refine lv_iload_n hx hb dX0_isNumber_74 rfl (lv_at hl 1 rfl) ?_
            refine lv_iload_n hx hb dX0_isNumber_75 rfl (lv_at hl 4 rfl) ?_
            refine lv_icmp_ge (tgt := 106) hx hb dX0_isNumber_76 (by decide) (fun h_ => ?_) (fun h_ => ?_)
            · replace hf := if_t h_ hf
              refine lv_iconst (v := 0) hx hb dX0_isNumber_106 (by decide) ?_
              cases hf
              exact end_z hQ hA X hI rfl dX0_isNumber_107
            · replace hf := if_f h_ hf
              refine lv_iload hx hb dX0_isNumber_79 (lv_at hl 0 rfl) ?_
              refine lv_iload_n hx hb dX0_isNumber_81 rfl (lv_at hl 4 rfl) ?_
              refine lv_icmp_ge (tgt := 106) hx hb dX0_isNumber_82 (by decide) (fun h_ => ?_) (fun h_ => ?_)
              · replace hf := if_t h_ hf
                refine lv_iconst (v := 0) hx hb dX0_isNumber_106 (by decide) ?_
                cases hf
                exact end_z hQ hA X hI rfl dX0_isNumber_107
              · replace hf := if_f h_ hf
                refine lv_iload_n hx hb dX0_isNumber_85 rfl (lv_at hl 2 rfl) ?_
                refine lv_iload_n hx hb dX0_isNumber_86 rfl (lv_at hl 1 rfl) ?_
                refine lv_icmp_eq (tgt := 106) hx hb dX0_isNumber_87 (by decide) (fun h_ => ?_) (fun h_ => ?_)
                · replace hf := if_t h_ hf
                  refine lv_iconst (v := 0) hx hb dX0_isNumber_106 (by decide) ?_
                  cases hf
                  exact end_z hQ hA X hI rfl dX0_isNumber_107
                · replace hf := if_f h_ hf
                  refine lv_iload_n hx hb dX0_isNumber_90 rfl (lv_at hl 2 rfl) ?_
                  refine lv_iload hx hb dX0_isNumber_91 (lv_at hl 0 rfl) ?_
                  refine lv_icmp_eq (tgt := 106) hx hb dX0_isNumber_93 (by decide) (fun h_ => ?_) (fun h_ => ?_)
                  · replace hf := if_t h_ hf
                    refine lv_iconst (v := 0) hx hb dX0_isNumber_106 (by decide) ?_
                    cases hf
                    exact end_z hQ hA X hI rfl dX0_isNumber_107
                  · replace hf := if_f h_ hf
                    refine lv_iload_n hx hb dX0_isNumber_96 rfl (lv_at hl 1 rfl) ?_
                    refine lv_iload hx hb dX0_isNumber_97 (lv_at hl 0 rfl) ?_
                    refine lv_icmp_eq (tgt := 106) hx hb dX0_isNumber_99 (by decide) (fun h_ => ?_) (fun h_ => ?_)
                    · replace hf := if_t h_ hf
                      refine lv_iconst (v := 0) hx hb dX0_isNumber_106 (by decide) ?_
                      cases hf
                      exact end_z hQ hA X hI rfl dX0_isNumber_107
                    · replace hf := if_f h_ hf
                      refine lv_iconst (v := 1) hx hb dX0_isNumber_102 (by decide) ?_
                      refine lv_goto (tgt := 107) hx hb dX0_isNumber_103 (by decide) ?_
                      cases hf
                      exact end_z hQ hA X hI rfl dX0_isNumber_107
        · replace hf := if_f h_ hf
          refine lv_iload_n hx hb dX0_isNumber_47 rfl (lv_at hl 1 rfl) ?_
          refine lv_iload_n hx hb dX0_isNumber_48 rfl (lv_at hl 0 rfl) ?_
          refine lv_icmp_ge (tgt := 61) hx hb dX0_isNumber_49 (by decide) (fun h_ => ?_) (fun h_ => ?_)
          · replace hf := if_t h_ hf
            refine lv_iconst (v := 0) hx hb dX0_isNumber_61 (by decide) ?_
            cases hf
            exact end_z hQ hA X hI rfl dX0_isNumber_62
          · replace hf := if_f h_ hf
            refine lv_iload_n hx hb dX0_isNumber_52 rfl (lv_at hl 0 rfl) ?_
            refine lv_iload_n hx hb dX0_isNumber_53 rfl (lv_at hl 3 rfl) ?_
            refine lv_icmp_ge (tgt := 61) hx hb dX0_isNumber_54 (by decide) (fun h_ => ?_) (fun h_ => ?_)
            · replace hf := if_t h_ hf
              refine lv_iconst (v := 0) hx hb dX0_isNumber_61 (by decide) ?_
              cases hf
              exact end_z hQ hA X hI rfl dX0_isNumber_62
            · replace hf := if_f h_ hf
              refine lv_iconst (v := 1) hx hb dX0_isNumber_57 (by decide) ?_
              refine lv_goto (tgt := 62) hx hb dX0_isNumber_58 (by decide) ?_
              cases hf
              exact end_z hQ hA X hI rfl dX0_isNumber_62
      · replace hf := if_f h_ hf
        refine lv_iload_n hx hb dX0_isNumber_19 rfl (lv_at hl 0 rfl) ?_
        refine lv_iload_n hx hb dX0_isNumber_20 rfl (lv_at hl 1 rfl) ?_
        refine lv_icmp_ge (tgt := 28) hx hb dX0_isNumber_21 (by decide) (fun h_ => ?_) (fun h_ => ?_)
        · replace hf := if_t h_ hf
          refine lv_iconst (v := 0) hx hb dX0_isNumber_28 (by decide) ?_
          cases hf
          exact end_z hQ hA X hI rfl dX0_isNumber_29
        · replace hf := if_f h_ hf
          refine lv_iconst (v := 1) hx hb dX0_isNumber_24 (by decide) ?_
          refine lv_goto (tgt := 29) hx hb dX0_isNumber_25 (by decide) ?_
          cases hf
          exact end_z hQ hA X hI rfl dX0_isNumber_29
    · replace hf := if_f h_ hf
      refine lv_iconst (v := 0) hx hb dX0_isNumber_11 (by decide) ?_
      cases hf
      exact end_z hQ hA X hI rfl dX0_isNumber_12
abbrev rm_X0_touchedBy : Room := { frames := 1, cells := 0, slots := 0, locals := 20 }
set_option maxRecDepth 20000 in
theorem c_X0_touchedBy (l : Launch) (g : GT) (p0 : Int32) (r_ : Int32) (hf : f_X0_touchedBy p0 = some (r_)) : CI l yX0_touchedBy cX0_touchedBy 2 (some .int) rm_X0_touchedBy g [.int p0] ([]) ([]) r_ := by
  refine start2 (y := yX0_touchedBy) (cc := cX0_touchedBy) (n := 2) (av := [.int p0]) (ws := ([])) (Qc := fun sz => QI g ([]) ([]) r_ sz) (by decide) rfl ?_
  intro p e s m args below meth c ls Q A ha hQ hA X hl hI hin
  have X : Cx p s m args meth c cX0_touchedBy 2 RX0 (some .int) := X
  have hl : lv_has ls 2 [(0, .int p0)] := hl
  obtain ⟨hx, hb, hml, hown, ht, hr, hlk⟩ := id X
  clear ha hin
  have L_22 : ∀ (x0 : Int32) (x1 : Int32) (H : Heap) (locs : List Loc) (ls : Array Slot), lv_has ls 2 [(0, .int x0), (1, .int x1)] → In g A s.heap s ([]) H locs → f_X0_touchedBy_L22 x0 x1 = some (r_) → W p l e rm_X0_touchedBy s m args below meth c H locs 0 0 Q (F0 m 22 ls []) := by
    intro x0 x1 H locs ls hl hI hf
    unfold f_X0_touchedBy_L22 at hf
    refine lv_iload_n hx hb dX0_touchedBy_22 rfl (lv_at hl 0 rfl) ?_
    refine lv_sipush (v := 1000) hx hb dX0_touchedBy_23 (by decide) ?_
    refine lv_icmp_lt (tgt := 38) hx hb dX0_touchedBy_26 (by decide) (fun h_ => ?_) (fun h_ => ?_)
    · replace hf := if_t h_ hf
      refine lv_iload_n hx hb dX0_touchedBy_38 rfl (lv_at hl 1 rfl) ?_
      cases hf
      exact end_i hQ hA X hI dX0_touchedBy_39
    · replace hf := if_f h_ hf
      refine lv_iload_n hx hb dX0_touchedBy_29 rfl (lv_at hl 1 rfl) ?_
      refine lv_iconst (v := 1) hx hb dX0_touchedBy_30 (by decide) ?_
      refine lv_iload_n hx hb dX0_touchedBy_31 rfl (lv_at hl 0 rfl) ?_
      obtain ⟨r_5, hc_, hf⟩ := bd1_some hf
      refine call_Si X hI Cj.nil (c_X0_thirdOf l g x0 r_5 hc_) ⟨rfl, rfl⟩ ⟨ht _ w_1102, w_1104, ht _ w_150, lk_X0_thirdOf⟩ w_1103 rfl hl rfl rfl dX0_touchedBy_32 rfl rfl rfl rfl (fun H locs hI => ?_)
      refine lv_ishl hx hb dX0_touchedBy_35 ?_
      refine lv_ior hx hb dX0_touchedBy_36 ?_
      refine lv_topi (fun v_6 e_ => ?_)
      replace hf := lt_to e_ hf
      clear e_
      refine lv_istore_n (lv' := [(1, .int v_6), (0, .int x0)]) hx hb dX0_touchedBy_37 rfl hl (by decide) rfl (fun ls hl => ?_)
      refine lv_iload_n hx hb dX0_touchedBy_38 rfl (lv_at hl 0 rfl) ?_
      cases hf
      exact end_i hQ hA X hI dX0_touchedBy_39
  unfold f_X0_touchedBy at hf
  refine lv_iconst (v := 1) hx hb dX0_touchedBy_0 (by decide) ?_
  refine lv_iload_n hx hb dX0_touchedBy_1 rfl (lv_at hl 0 rfl) ?_
  obtain ⟨r_1, hc_, hf⟩ := bd1_some hf
  refine call_Si X hI Cj.nil (c_X0_firstOf l g p0 r_1 hc_) ⟨rfl, rfl⟩ ⟨ht _ w_1096, w_1098, ht _ w_150, lk_X0_firstOf⟩ w_1097 rfl hl rfl rfl dX0_touchedBy_2 rfl rfl rfl rfl (fun H locs hI => ?_)
  refine lv_ishl hx hb dX0_touchedBy_5 ?_
  refine lv_topi (fun v_2 e_ => ?_)
  replace hf := lt_to e_ hf
  clear e_
  refine lv_istore_n (lv' := [(1, .int v_2), (0, .int p0)]) hx hb dX0_touchedBy_6 rfl hl (by decide) rfl (fun ls hl => ?_)
  refine lv_iload_n hx hb dX0_touchedBy_7 rfl (lv_at hl 1 rfl) ?_
  refine lv_bipush (v := 100) hx hb dX0_touchedBy_8 (by decide) ?_
  refine lv_icmp_lt (tgt := 22) hx hb dX0_touchedBy_10 (by decide) (fun h_ => ?_) (fun h_ => ?_)
  · replace hf := if_t h_ hf
    exact L_22 p0 v_2 _ _ _ (lv_sub hl [1, 0] rfl) hI hf
  · replace hf := if_f h_ hf
    refine lv_iload_n hx hb dX0_touchedBy_13 rfl (lv_at hl 0 rfl) ?_
    refine lv_iconst (v := 1) hx hb dX0_touchedBy_14 (by decide) ?_
    refine lv_iload_n hx hb dX0_touchedBy_15 rfl (lv_at hl 1 rfl) ?_
    obtain ⟨r_3, hc_, hf⟩ := bd1_some hf
    refine call_Si X hI Cj.nil (c_X0_secondOf l g p0 r_3 hc_) ⟨rfl, rfl⟩ ⟨ht _ w_1099, w_1101, ht _ w_150, lk_X0_secondOf⟩ w_1100 rfl hl rfl rfl dX0_touchedBy_16 rfl rfl rfl rfl (fun H locs hI => ?_)
    refine lv_ishl hx hb dX0_touchedBy_19 ?_
    refine lv_ior hx hb dX0_touchedBy_20 ?_
    refine lv_topi (fun v_4 e_ => ?_)
    replace hf := lt_to e_ hf
    clear e_
    refine lv_istore_n (lv' := [(1, .int v_4), (0, .int p0)]) hx hb dX0_touchedBy_21 rfl hl (by decide) rfl (fun ls hl => ?_)
    exact L_22 p0 v_4 _ _ _ (lv_sub hl [1, 0] rfl) hI hf
abbrev rm_X0_isOpen : Room := { frames := 0, cells := 0, slots := 0, locals := 0 }
set_option maxRecDepth 20000 in
theorem c_X0_isOpen (l : Launch) (g : GT) (a_bo : Nat → Nat) (a_ri : Nat → Nat) (bo : BoS) (ri : RiS) (p1 : Int32) (r_ : Int32) (hf : f_X0_isOpen bo ri p1 = some (r_)) : CI l yX0_isOpen cX0_isOpen 2 (some .boolean) rm_X0_isOpen g [.ref (a_bo 0), .int p1] (wBo g a_bo (a_ri 0) bo ++ (wRi g a_ri ri ++ [])) (wBo g a_bo (a_ri 0) bo ++ (wRi g a_ri ri ++ [])) r_ := by
  refine start2 (y := yX0_isOpen) (cc := cX0_isOpen) (n := 2) (av := [.ref (a_bo 0), .int p1]) (ws := (wBo g a_bo (a_ri 0) bo ++ (wRi g a_ri ri ++ []))) (Qc := fun sz => QI g (wBo g a_bo (a_ri 0) bo ++ (wRi g a_ri ri ++ [])) (wBo g a_bo (a_ri 0) bo ++ (wRi g a_ri ri ++ [])) r_ sz) (by decide) rfl ?_
  intro p e s m args below meth c ls Q A ha hQ hA X hl hI hin
  have X : Cx p s m args meth c cX0_isOpen 2 RX0 (some .boolean) := X
  have hl : lv_has ls 2 [(0, .ref (a_bo 0)), (1, .int p1)] := hl
  obtain ⟨hx, hb, hml, hown, ht, hr, hlk⟩ := id X
  clear ha hin
  unfold f_X0_isOpen at hf
  refine lv_aload_n hx hb dX0_isOpen_0 rfl (lv_at hl 0 rfl) ?_
  refine g_Bo_parted X hI has_Bo.l (X.fl w_541) dX0_isOpen_1 ?_
  refine lv_if_lt (tgt := 36) hx hb dX0_isOpen_4 (by decide) (fun h_ => ?_) (fun h_ => ?_)
  · replace hf := if_t h_ hf
    refine lv_iconst (v := 0) hx hb dX0_isOpen_36 (by decide) ?_
    cases hf
    exact end_z hQ hA X hI rfl dX0_isOpen_37
  · replace hf := if_f h_ hf
    refine lv_aload_n hx hb dX0_isOpen_7 rfl (lv_at hl 0 rfl) ?_
    refine g_Bo_parted X hI has_Bo.l (X.fl w_541) dX0_isOpen_8 ?_
    refine lv_bipush (v := 8) hx hb dX0_isOpen_11 (by decide) ?_
    refine lv_icmp_ge (tgt := 36) hx hb dX0_isOpen_13 (by decide) (fun h_ => ?_) (fun h_ => ?_)
    · replace hf := if_t h_ hf
      refine lv_iconst (v := 0) hx hb dX0_isOpen_36 (by decide) ?_
      cases hf
      exact end_z hQ hA X hI rfl dX0_isOpen_37
    · replace hf := if_f h_ hf
      refine lv_aload_n hx hb dX0_isOpen_16 rfl (lv_at hl 0 rfl) ?_
      refine g_Bo_rings X hI has_Bo.l (X.fl w_537) dX0_isOpen_17 ?_
      refine g_Ri_linkRing X hI has_Ri.l.r (hI.fn (List.mem_of_getElem? (i := 47) rfl)) dX0_isOpen_20 ?_
      refine lv_aload_n hx hb dX0_isOpen_23 rfl (lv_at hl 0 rfl) ?_
      refine g_Bo_parted X hI has_Bo.l (X.fl w_541) dX0_isOpen_24 ?_
      obtain ⟨h_, hf⟩ := ck_someM hf
      refine ld_I X hI has_Ri_linkRing.l.r h_ dX0_isOpen_27 ?_
      refine lv_iload_n hx hb dX0_isOpen_28 rfl (lv_at hl 1 rfl) ?_
      refine lv_icmp_ne (tgt := 36) hx hb dX0_isOpen_29 (by decide) (fun h_ => ?_) (fun h_ => ?_)
      · replace hf := if_f h_ hf
        refine lv_iconst (v := 0) hx hb dX0_isOpen_36 (by decide) ?_
        cases hf
        exact end_z hQ hA X hI rfl dX0_isOpen_37
      · replace hf := if_t h_ hf
        refine lv_iconst (v := 1) hx hb dX0_isOpen_32 (by decide) ?_
        refine lv_goto (tgt := 37) hx hb dX0_isOpen_33 (by decide) ?_
        cases hf
        exact end_z hQ hA X hI rfl dX0_isOpen_37
abbrev rm_X0_join : Room := { frames := 0, cells := 0, slots := 0, locals := 0 }
set_option maxRecDepth 20000 in
theorem c_X0_join (l : Launch) (g : GT) (a_bo : Nat → Nat) (q_bo_rings : Nat) (bo : BoS) (p1 : Int32) (p2 : Int32) (o_bo : BoS) (hf : f_X0_join bo p1 p2 = some (o_bo)) : CV l yX0_join cX0_join 7 none rm_X0_join g [.ref (a_bo 0), .int p1, .int p2] (wBo g a_bo q_bo_rings bo ++ []) (wBo g a_bo q_bo_rings o_bo ++ []) := by
  refine start2 (y := yX0_join) (cc := cX0_join) (n := 7) (av := [.ref (a_bo 0), .int p1, .int p2]) (ws := (wBo g a_bo q_bo_rings bo ++ [])) (Qc := fun sz => QV g (wBo g a_bo q_bo_rings bo ++ []) (wBo g a_bo q_bo_rings o_bo ++ []) sz) (by decide) rfl ?_
  intro p e s m args below meth c ls Q A ha hQ hA X hl hI hin
  have X : Cx p s m args meth c cX0_join 7 RX0 none := X
  have hl : lv_has ls 7 [(0, .ref (a_bo 0)), (1, .int p1), (2, .int p2)] := hl
  obtain ⟨hx, hb, hml, hown, ht, hr, hlk⟩ := id X
  clear ha hin
  have L_113 : ∀ (x3 : Int32) (x4 : Int32) (x5 : Int32) (bo : BoS) (H : Heap) (locs : List Loc) (ls : Array Slot), lv_has ls 7 [(0, .ref (a_bo 0)), (3, .int x3), (4, .int x4), (5, .int x5)] → In g A s.heap s (wBo g a_bo q_bo_rings bo ++ []) H locs → f_X0_join_L113 x3 x4 x5 bo = some (o_bo) → W p l e rm_X0_join s m args below meth c H locs 0 0 Q (F0 m 113 ls []) := by
    intro x3 x4 x5 bo H locs ls hl hI hf
    unfold f_X0_join_L113 at hf
    refine lv_iload hx hb dX0_join_113 (lv_at hl 3 rfl) ?_
    refine lv_if_eq (tgt := 134) hx hb dX0_join_115 (by decide) (fun h_ => ?_) (fun h_ => ?_)
    · replace hf := if_t h_ hf
      refine lv_aload_n hx hb dX0_join_134 rfl (lv_at hl 0 rfl) ?_
      refine g_Bo_overByUnder X hI has_Bo.l (X.fl w_551) dX0_join_135 ?_
      refine lv_iload_n hx hb dX0_join_138 rfl (lv_at hl 1 rfl) ?_
      refine lv_dup2_11 hx hb dX0_join_139 rfl rfl ?_
      obtain ⟨h_, hf⟩ := ck_someM hf
      refine ld_I X hI has_Bo_overByUnder.l h_ dX0_join_140 ?_
      refine lv_iconst (v := 1) hx hb dX0_join_141 (by decide) ?_
      refine lv_iload hx hb dX0_join_142 (lv_at hl 2 rfl) ?_
      refine lv_ishl hx hb dX0_join_144 ?_
      refine lv_ior hx hb dX0_join_145 ?_
      obtain ⟨h_, hf⟩ := ck_someM hf
      refine st_I X hI up_Bo_overByUnder.l h_ dX0_join_146 (fun H locs hI => ?_)
      generalize hz_ : (Bo_overByUnder' bo (upd (Bo_overByUnder bo) (Int32.toNatClampNeg x3) ((Bo_overByUnder bo (Int32.toNatClampNeg x3)) ||| ((1 : Int32) <<< (x4 &&& 31))))) = bo_7 at hI hf
      clear hz_
      replace hf := lt_e hf
      cases hf
      exact end_v hQ hA X hI dX0_join_147
    · replace hf := if_f h_ hf
      refine lv_aload_n hx hb dX0_join_118 rfl (lv_at hl 0 rfl) ?_
      refine g_Bo_overByUnder X hI has_Bo.l (X.fl w_551) dX0_join_119 ?_
      refine lv_iload hx hb dX0_join_122 (lv_at hl 2 rfl) ?_
      refine lv_dup2_11 hx hb dX0_join_124 rfl rfl ?_
      obtain ⟨h_, hf⟩ := ck_someM hf
      refine ld_I X hI has_Bo_overByUnder.l h_ dX0_join_125 ?_
      refine lv_iconst (v := 1) hx hb dX0_join_126 (by decide) ?_
      refine lv_iload_n hx hb dX0_join_127 rfl (lv_at hl 1 rfl) ?_
      refine lv_ishl hx hb dX0_join_128 ?_
      refine lv_ior hx hb dX0_join_129 ?_
      obtain ⟨h_, hf⟩ := ck_someM hf
      refine st_I X hI up_Bo_overByUnder.l h_ dX0_join_130 (fun H locs hI => ?_)
      generalize hz_ : (Bo_overByUnder' bo (upd (Bo_overByUnder bo) (Int32.toNatClampNeg x4) ((Bo_overByUnder bo (Int32.toNatClampNeg x4)) ||| ((1 : Int32) <<< (x3 &&& 31))))) = bo_8 at hI hf
      clear hz_
      replace hf := lt_e hf
      refine lv_goto (tgt := 147) hx hb dX0_join_131 (by decide) ?_
      cases hf
      exact end_v hQ hA X hI dX0_join_147
  have L_74 : ∀ (x3 : Int32) (x4 : Int32) (x5 : Int32) (x6 : Int32) (bo : BoS) (H : Heap) (locs : List Loc) (ls : Array Slot), lv_has ls 7 [(0, .ref (a_bo 0)), (3, .int x3), (4, .int x4), (5, .int x5), (6, .int x6)] → In g A s.heap s (wBo g a_bo q_bo_rings bo ++ []) H locs → f_X0_join_L74 x3 x4 x5 x6 bo = some (o_bo) → W p l e rm_X0_join s m args below meth c H locs 0 0 Q (F0 m 74 ls []) := by
    intro x3 x4 x5 x6 bo H locs ls hl hI hf
    unfold f_X0_join_L74 at hf
    refine lv_iload hx hb dX0_join_74 (lv_at hl 3 rfl) ?_
    refine lv_if_ne (tgt := 113) hx hb dX0_join_76 (by decide) (fun h_ => ?_) (fun h_ => ?_)
    · replace hf := if_f h_ hf
      exact L_113 x3 x4 x5 bo _ _ _ (lv_sub hl [0, 1, 2, 3] rfl) hI hf
    · replace hf := if_t h_ hf
      refine lv_iload hx hb dX0_join_79 (lv_at hl 4 rfl) ?_
      refine lv_if_ne (tgt := 113) hx hb dX0_join_81 (by decide) (fun h_ => ?_) (fun h_ => ?_)
      · replace hf := if_f h_ hf
        exact L_113 x3 x4 x5 bo _ _ _ (lv_sub hl [0, 1, 2, 3] rfl) hI hf
      · replace hf := if_t h_ hf
        refine lv_aload_n hx hb dX0_join_84 rfl (lv_at hl 0 rfl) ?_
        refine g_Bo_underByUnder X hI has_Bo.l (X.fl w_552) dX0_join_85 ?_
        refine lv_iload_n hx hb dX0_join_88 rfl (lv_at hl 1 rfl) ?_
        refine lv_dup2_11 hx hb dX0_join_89 rfl rfl ?_
        obtain ⟨h_, hf⟩ := ck_someM hf
        refine ld_I X hI has_Bo_underByUnder.l h_ dX0_join_90 ?_
        refine lv_iconst (v := 1) hx hb dX0_join_91 (by decide) ?_
        refine lv_iload hx hb dX0_join_92 (lv_at hl 2 rfl) ?_
        refine lv_ishl hx hb dX0_join_94 ?_
        refine lv_ior hx hb dX0_join_95 ?_
        obtain ⟨h_, hf⟩ := ck_someM hf
        refine st_I X hI up_Bo_underByUnder.l h_ dX0_join_96 (fun H locs hI => ?_)
        generalize hz_ : (Bo_underByUnder' bo (upd (Bo_underByUnder bo) (Int32.toNatClampNeg x3) ((Bo_underByUnder bo (Int32.toNatClampNeg x3)) ||| ((1 : Int32) <<< (x4 &&& 31))))) = bo_5 at hI hf
        clear hz_
        replace hf := lt_e hf
        refine lv_aload_n hx hb dX0_join_97 rfl (lv_at hl 0 rfl) ?_
        refine g_Bo_underByUnder X hI has_Bo.l (X.fl w_552) dX0_join_98 ?_
        refine lv_iload hx hb dX0_join_101 (lv_at hl 2 rfl) ?_
        refine lv_dup2_11 hx hb dX0_join_103 rfl rfl ?_
        obtain ⟨h_, hf⟩ := ck_someM hf
        refine ld_I X hI has_Bo_underByUnder.l h_ dX0_join_104 ?_
        refine lv_iconst (v := 1) hx hb dX0_join_105 (by decide) ?_
        refine lv_iload_n hx hb dX0_join_106 rfl (lv_at hl 1 rfl) ?_
        refine lv_ishl hx hb dX0_join_107 ?_
        refine lv_ior hx hb dX0_join_108 ?_
        obtain ⟨h_, hf⟩ := ck_someM hf
        refine st_I X hI up_Bo_underByUnder.l h_ dX0_join_109 (fun H locs hI => ?_)
        generalize hz_ : (Bo_underByUnder' bo_5 (upd (Bo_underByUnder bo_5) (Int32.toNatClampNeg x4) ((Bo_underByUnder bo_5 (Int32.toNatClampNeg x4)) ||| ((1 : Int32) <<< (x3 &&& 31))))) = bo_6 at hI hf
        clear hz_
        replace hf := lt_e hf
        refine lv_goto (tgt := 147) hx hb dX0_join_110 (by decide) ?_
        cases hf
        exact end_v hQ hA X hI dX0_join_147
  have L_33 : ∀ (x3 : Int32) (x4 : Int32) (x5 : Int32) (t0i : Int32) (bo : BoS) (H : Heap) (locs : List Loc) (ls : Array Slot), lv_has ls 7 [(0, .ref (a_bo 0)), (3, .int x3), (4, .int x4), (5, .int x5)] → In g A s.heap s (wBo g a_bo q_bo_rings bo ++ []) H locs → f_X0_join_L33 x3 x4 x5 t0i bo = some (o_bo) → W p l e rm_X0_join s m args below meth c H locs 0 0 Q (F0 m 33 ls [.int t0i]) := by
    intro x3 x4 x5 t0i bo H locs ls hl hI hf
    unfold f_X0_join_L33 at hf
    refine lv_istore (lv' := [(6, .int t0i), (0, .ref (a_bo 0)), (3, .int x3), (4, .int x4), (5, .int x5)]) hx hb dX0_join_33 hl (by decide) rfl (fun ls hl => ?_)
    refine lv_iload hx hb dX0_join_35 (lv_at hl 4 rfl) ?_
    refine lv_if_eq (tgt := 74) hx hb dX0_join_37 (by decide) (fun h_ => ?_) (fun h_ => ?_)
    · replace hf := if_t h_ hf
      exact L_74 x3 x4 x5 t0i bo _ _ _ (lv_sub hl [1, 2, 3, 4, 0] rfl) hI hf
    · replace hf := if_f h_ hf
      refine lv_iload hx hb dX0_join_40 (lv_at hl 0 rfl) ?_
      refine lv_if_eq (tgt := 74) hx hb dX0_join_42 (by decide) (fun h_ => ?_) (fun h_ => ?_)
      · replace hf := if_t h_ hf
        exact L_74 x3 x4 x5 t0i bo _ _ _ (lv_sub hl [1, 2, 3, 4, 0] rfl) hI hf
      · replace hf := if_f h_ hf
        refine lv_aload_n hx hb dX0_join_45 rfl (lv_at hl 1 rfl) ?_
        refine g_Bo_overByOver X hI has_Bo.l (X.fl w_550) dX0_join_46 ?_
        refine lv_iload_n hx hb dX0_join_49 rfl (lv_at hl 2 rfl) ?_
        refine lv_dup2_11 hx hb dX0_join_50 rfl rfl ?_
        obtain ⟨h_, hf⟩ := ck_someM hf
        refine ld_I X hI has_Bo_overByOver.l h_ dX0_join_51 ?_
        refine lv_iconst (v := 1) hx hb dX0_join_52 (by decide) ?_
        refine lv_iload hx hb dX0_join_53 (lv_at hl 3 rfl) ?_
        refine lv_ishl hx hb dX0_join_55 ?_
        refine lv_ior hx hb dX0_join_56 ?_
        obtain ⟨h_, hf⟩ := ck_someM hf
        refine st_I X hI up_Bo_overByOver.l h_ dX0_join_57 (fun H locs hI => ?_)
        generalize hz_ : (Bo_overByOver' bo (upd (Bo_overByOver bo) (Int32.toNatClampNeg x3) ((Bo_overByOver bo (Int32.toNatClampNeg x3)) ||| ((1 : Int32) <<< (x4 &&& 31))))) = bo_3 at hI hf
        clear hz_
        replace hf := lt_e hf
        refine lv_aload_n hx hb dX0_join_58 rfl (lv_at hl 1 rfl) ?_
        refine g_Bo_overByOver X hI has_Bo.l (X.fl w_550) dX0_join_59 ?_
        refine lv_iload hx hb dX0_join_62 (lv_at hl 3 rfl) ?_
        refine lv_dup2_11 hx hb dX0_join_64 rfl rfl ?_
        obtain ⟨h_, hf⟩ := ck_someM hf
        refine ld_I X hI has_Bo_overByOver.l h_ dX0_join_65 ?_
        refine lv_iconst (v := 1) hx hb dX0_join_66 (by decide) ?_
        refine lv_iload_n hx hb dX0_join_67 rfl (lv_at hl 2 rfl) ?_
        refine lv_ishl hx hb dX0_join_68 ?_
        refine lv_ior hx hb dX0_join_69 ?_
        obtain ⟨h_, hf⟩ := ck_someM hf
        refine st_I X hI up_Bo_overByOver.l h_ dX0_join_70 (fun H locs hI => ?_)
        generalize hz_ : (Bo_overByOver' bo_3 (upd (Bo_overByOver bo_3) (Int32.toNatClampNeg x4) ((Bo_overByOver bo_3 (Int32.toNatClampNeg x4)) ||| ((1 : Int32) <<< (x3 &&& 31))))) = bo_4 at hI hf
        clear hz_
        replace hf := lt_e hf
        refine lv_goto (tgt := 147) hx hb dX0_join_71 (by decide) ?_
        cases hf
        exact end_v hQ hA X hI dX0_join_147
  have L_20 : ∀ (x2 : Int32) (x3 : Int32) (x4 : Int32) (t0i : Int32) (bo : BoS) (H : Heap) (locs : List Loc) (ls : Array Slot), lv_has ls 7 [(0, .ref (a_bo 0)), (2, .int x2), (3, .int x3), (4, .int x4)] → In g A s.heap s (wBo g a_bo q_bo_rings bo ++ []) H locs → f_X0_join_L20 x2 x3 x4 t0i bo = some (o_bo) → W p l e rm_X0_join s m args below meth c H locs 0 0 Q (F0 m 20 ls [.int t0i]) := by
    intro x2 x3 x4 t0i bo H locs ls hl hI hf
    unfold f_X0_join_L20 at hf
    refine lv_istore (lv' := [(5, .int t0i), (0, .ref (a_bo 0)), (2, .int x2), (3, .int x3), (4, .int x4)]) hx hb dX0_join_20 hl (by decide) rfl (fun ls hl => ?_)
    refine lv_iload_n hx hb dX0_join_22 rfl (lv_at hl 2 rfl) ?_
    refine lv_iconst (v := 1) hx hb dX0_join_23 (by decide) ?_
    refine lv_iand hx hb dX0_join_24 ?_
    refine lv_if_eq (tgt := 32) hx hb dX0_join_25 (by decide) (fun h_ => ?_) (fun h_ => ?_)
    · replace hf := if_t h_ hf
      refine lv_iconst (v := 0) hx hb dX0_join_32 (by decide) ?_
      exact L_33 x3 x4 t0i (0 : Int32) bo _ _ _ (lv_sub hl [1, 3, 4, 0] rfl) hI hf
    · replace hf := if_f h_ hf
      refine lv_iconst (v := 1) hx hb dX0_join_28 (by decide) ?_
      refine lv_goto (tgt := 33) hx hb dX0_join_29 (by decide) ?_
      exact L_33 x3 x4 t0i (1 : Int32) bo _ _ _ (lv_sub hl [1, 3, 4, 0] rfl) hI hf
  unfold f_X0_join at hf
  refine lv_iload_n hx hb dX0_join_0 rfl (lv_at hl 1 rfl) ?_
  refine lv_iconst (v := 2) hx hb dX0_join_1 (by decide) ?_
  refine lv_idiv hx hb dX0_join_2 (by decide) ?_
  refine lv_topi (fun v_1 e_ => ?_)
  replace hf := lt_to e_ hf
  clear e_
  refine lv_istore_n (lv' := [(3, .int v_1), (0, .ref (a_bo 0)), (1, .int p1), (2, .int p2)]) hx hb dX0_join_3 rfl hl (by decide) rfl (fun ls hl => ?_)
  refine lv_iload_n hx hb dX0_join_4 rfl (lv_at hl 3 rfl) ?_
  refine lv_iconst (v := 2) hx hb dX0_join_5 (by decide) ?_
  refine lv_idiv hx hb dX0_join_6 (by decide) ?_
  refine lv_topi (fun v_2 e_ => ?_)
  replace hf := lt_to e_ hf
  clear e_
  refine lv_istore (lv' := [(4, .int v_2), (3, .int v_1), (0, .ref (a_bo 0)), (1, .int p1), (2, .int p2)]) hx hb dX0_join_7 hl (by decide) rfl (fun ls hl => ?_)
  refine lv_iload_n hx hb dX0_join_9 rfl (lv_at hl 3 rfl) ?_
  refine lv_iconst (v := 1) hx hb dX0_join_10 (by decide) ?_
  refine lv_iand hx hb dX0_join_11 ?_
  refine lv_if_eq (tgt := 19) hx hb dX0_join_12 (by decide) (fun h_ => ?_) (fun h_ => ?_)
  · replace hf := if_t h_ hf
    refine lv_iconst (v := 0) hx hb dX0_join_19 (by decide) ?_
    exact L_20 p2 v_1 v_2 (0 : Int32) bo _ _ _ (lv_sub hl [2, 4, 1, 0] rfl) hI hf
  · replace hf := if_f h_ hf
    refine lv_iconst (v := 1) hx hb dX0_join_15 (by decide) ?_
    refine lv_goto (tgt := 20) hx hb dX0_join_16 (by decide) ?_
    exact L_20 p2 v_1 v_2 (1 : Int32) bo _ _ _ (lv_sub hl [2, 4, 1, 0] rfl) hI hf
abbrev rm_X0_walkRound : Room := { frames := 1, cells := 0, slots := 0, locals := 26 }
set_option maxRecDepth 20000 in
theorem c_X0_walkRound (l : Launch) (g : GT) (a_bo : Nat → Nat) (a_ri : Nat → Nat) (bo : BoS) (ri : RiS) (p1 : Int32) (p2 : Int32) (r_ : Int32) (o_bo : BoS) (hf : f_X0_walkRound bo ri p1 p2 = some (r_, o_bo)) : CI l yX0_walkRound cX0_walkRound 10 (some .int) rm_X0_walkRound g [.ref (a_bo 0), .int p1, .int p2] (wBo g a_bo (a_ri 0) bo ++ (wRi g a_ri ri ++ [])) (wBo g a_bo (a_ri 0) o_bo ++ (wRi g a_ri ri ++ [])) r_ := by
  refine start2 (y := yX0_walkRound) (cc := cX0_walkRound) (n := 10) (av := [.ref (a_bo 0), .int p1, .int p2]) (ws := (wBo g a_bo (a_ri 0) bo ++ (wRi g a_ri ri ++ []))) (Qc := fun sz => QI g (wBo g a_bo (a_ri 0) bo ++ (wRi g a_ri ri ++ [])) (wBo g a_bo (a_ri 0) o_bo ++ (wRi g a_ri ri ++ [])) r_ sz) (by decide) rfl ?_
  intro p e s m args below meth c ls Q A ha hQ hA X hl hI hin
  have X : Cx p s m args meth c cX0_walkRound 10 RX0 (some .int) := X
  have hl : lv_has ls 10 [(0, .ref (a_bo 0)), (1, .int p1), (2, .int p2)] := hl
  obtain ⟨hx, hb, hml, hown, ht, hr, hlk⟩ := id X
  clear ha hin
  have L_135 : ∀ (x2 : Int32) (x3 : Int32) (x4 : Int32) (x5 : Int32) (x6 : Int32) (x7 : Int32) (x8 : Int32) (bo : BoS) (k59 : (Int32) → (Int32) → (Int32) → (Int32) → (Int32) → (Int32) → (Int32) → (BoS) → Option (Int32 × (BoS))) (H : Heap) (locs : List Loc) (ls : Array Slot), lv_has ls 10 [(0, .ref (a_bo 0)), (2, .int x2), (3, .int x3), (4, .int x4), (5, .int x5), (6, .int x6), (7, .int x7), (8, .int x8)] → In g A s.heap s (wBo g a_bo (a_ri 0) bo ++ (wRi g a_ri ri ++ [])) H locs → f_X0_walkRound_L135 x2 x3 x4 x5 x6 x7 x8 bo k59 = some (r_, o_bo) → (∀ (x2 : Int32) (x3 : Int32) (x4 : Int32) (x5 : Int32) (x6 : Int32) (x7 : Int32) (x8 : Int32) (bo : BoS) (H : Heap) (locs : List Loc) (ls : Array Slot), lv_has ls 10 [(0, .ref (a_bo 0)), (2, .int x2), (3, .int x3), (4, .int x4), (5, .int x5), (6, .int x6), (7, .int x7), (8, .int x8)] → In g A s.heap s (wBo g a_bo (a_ri 0) bo ++ (wRi g a_ri ri ++ [])) H locs → k59 x2 x3 x4 x5 x6 x7 x8 bo = some (r_, o_bo) → W p l e rm_X0_walkRound s m args below meth c H locs 0 0 Q (F0 m 59 ls [])) → W p l e rm_X0_walkRound s m args below meth c H locs 0 0 Q (F0 m 135 ls []) := by
    intro x2 x3 x4 x5 x6 x7 x8 bo k59 H locs ls hl hI hf hk59
    unfold f_X0_walkRound_L135 at hf
    obtain ⟨v_9, e_⟩ : ∃ y : Int32, y = (x6 + (1 : Int32)) := ⟨_, rfl⟩
    replace hf := lt_to e_ hf
    refine lv_iinc (v := v_9) (lv' := [(6, .int v_9), (0, .ref (a_bo 0)), (2, .int x2), (3, .int x3), (4, .int x4), (5, .int x5), (7, .int x7), (8, .int x8)]) hx hb dX0_walkRound_135 hl (k := 5) rfl (by rw [e_]; rfl) (by decide) rfl (fun ls hl => ?_)
    clear e_
    obtain ⟨v_10, e_⟩ : ∃ y : Int32, y = (x8 + (1 : Int32)) := ⟨_, rfl⟩
    replace hf := lt_to e_ hf
    refine lv_iinc (v := v_10) (lv' := [(8, .int v_10), (6, .int v_9), (0, .ref (a_bo 0)), (2, .int x2), (3, .int x3), (4, .int x4), (5, .int x5), (7, .int x7)]) hx hb dX0_walkRound_138 hl (k := 7) rfl (by rw [e_]; rfl) (by decide) rfl (fun ls hl => ?_)
    clear e_
    refine lv_goto (tgt := 59) hx hb dX0_walkRound_141 (by decide) ?_
    exact hk59 x2 x3 x4 x5 v_9 x7 v_10 bo _ _ _ (lv_sub hl [2, 3, 4, 5, 6, 1, 7, 0] rfl) hI hf
  have L_132 : ∀ (x2 : Int32) (x3 : Int32) (x4 : Int32) (x5 : Int32) (x6 : Int32) (x7 : Int32) (x8 : Int32) (bo : BoS) (k59 : (Int32) → (Int32) → (Int32) → (Int32) → (Int32) → (Int32) → (Int32) → (BoS) → Option (Int32 × (BoS))) (H : Heap) (locs : List Loc) (ls : Array Slot), lv_has ls 10 [(0, .ref (a_bo 0)), (2, .int x2), (3, .int x3), (4, .int x4), (5, .int x5), (6, .int x6), (7, .int x7), (8, .int x8)] → In g A s.heap s (wBo g a_bo (a_ri 0) bo ++ (wRi g a_ri ri ++ [])) H locs → f_X0_walkRound_L132 x2 x3 x4 x5 x6 x7 x8 bo k59 = some (r_, o_bo) → (∀ (x2 : Int32) (x3 : Int32) (x4 : Int32) (x5 : Int32) (x6 : Int32) (x7 : Int32) (x8 : Int32) (bo : BoS) (H : Heap) (locs : List Loc) (ls : Array Slot), lv_has ls 10 [(0, .ref (a_bo 0)), (2, .int x2), (3, .int x3), (4, .int x4), (5, .int x5), (6, .int x6), (7, .int x7), (8, .int x8)] → In g A s.heap s (wBo g a_bo (a_ri 0) bo ++ (wRi g a_ri ri ++ [])) H locs → k59 x2 x3 x4 x5 x6 x7 x8 bo = some (r_, o_bo) → W p l e rm_X0_walkRound s m args below meth c H locs 0 0 Q (F0 m 59 ls [])) → W p l e rm_X0_walkRound s m args below meth c H locs 0 0 Q (F0 m 132 ls []) := by
    intro x2 x3 x4 x5 x6 x7 x8 bo k59 H locs ls hl hI hf hk59
    unfold f_X0_walkRound_L132 at hf
    obtain ⟨v_11, e_⟩ : ∃ y : Int32, y = (x7 + (1 : Int32)) := ⟨_, rfl⟩
    replace hf := lt_to e_ hf
    refine lv_iinc (v := v_11) (lv' := [(7, .int v_11), (0, .ref (a_bo 0)), (2, .int x2), (3, .int x3), (4, .int x4), (5, .int x5), (6, .int x6), (8, .int x8)]) hx hb dX0_walkRound_132 hl (k := 6) rfl (by rw [e_]; rfl) (by decide) rfl (fun ls hl => ?_)
    clear e_
    exact L_135 x2 x3 x4 x5 x6 v_11 x8 bo _ _ _ _ (lv_sub hl [1, 2, 3, 4, 5, 6, 0, 7] rfl) hI hf hk59
  have L_76 : ∀ (x2 : Int32) (x3 : Int32) (x4 : Int32) (x5 : Int32) (x6 : Int32) (x7 : Int32) (x8 : Int32) (bo : BoS) (k59 : (Int32) → (Int32) → (Int32) → (Int32) → (Int32) → (Int32) → (Int32) → (BoS) → Option (Int32 × (BoS))) (H : Heap) (locs : List Loc) (ls : Array Slot), lv_has ls 10 [(0, .ref (a_bo 0)), (2, .int x2), (3, .int x3), (4, .int x4), (5, .int x5), (6, .int x6), (7, .int x7), (8, .int x8)] → In g A s.heap s (wBo g a_bo (a_ri 0) bo ++ (wRi g a_ri ri ++ [])) H locs → f_X0_walkRound_L76 x2 x3 x4 x5 x6 x7 x8 bo k59 = some (r_, o_bo) → (∀ (x2 : Int32) (x3 : Int32) (x4 : Int32) (x5 : Int32) (x6 : Int32) (x7 : Int32) (x8 : Int32) (bo : BoS) (H : Heap) (locs : List Loc) (ls : Array Slot), lv_has ls 10 [(0, .ref (a_bo 0)), (2, .int x2), (3, .int x3), (4, .int x4), (5, .int x5), (6, .int x6), (7, .int x7), (8, .int x8)] → In g A s.heap s (wBo g a_bo (a_ri 0) bo ++ (wRi g a_ri ri ++ [])) H locs → k59 x2 x3 x4 x5 x6 x7 x8 bo = some (r_, o_bo) → W p l e rm_X0_walkRound s m args below meth c H locs 0 0 Q (F0 m 59 ls [])) → W p l e rm_X0_walkRound s m args below meth c H locs 0 0 Q (F0 m 76 ls []) := by
    intro x2 x3 x4 x5 x6 x7 x8 bo k59 H locs ls hl hI hf hk59
    unfold f_X0_walkRound_L76 at hf
    refine lv_aload_n hx hb dX0_walkRound_76 rfl (lv_at hl 0 rfl) ?_
    refine g_Bo_key X hI has_Bo.l (X.fl w_539) dX0_walkRound_77 ?_
    refine lv_iload hx hb dX0_walkRound_80 (lv_at hl 5 rfl) ?_
    obtain ⟨r_5, hc_, hf⟩ := bd1_some hf
    refine call_Si X hI Cj.nil (c_X4_passAt l g (Bo_key bo) x6 r_5 hc_) ⟨rfl, rfl⟩ ⟨ht _ w_952, w_954, ht _ w_148, lk_X4_passAt⟩ w_953 rfl hl rfl rfl dX0_walkRound_82 rfl rfl rfl rfl (fun H locs hI => ?_)
    refine lv_istore (lv' := [(9, .int r_5), (0, .ref (a_bo 0)), (2, .int x2), (3, .int x3), (4, .int x4), (5, .int x5), (6, .int x6), (7, .int x7), (8, .int x8)]) hx hb dX0_walkRound_85 hl (by decide) rfl (fun ls hl => ?_)
    refine lv_iload hx hb dX0_walkRound_87 (lv_at hl 0 rfl) ?_
    refine lv_iconst (v := (-1)) hx hb dX0_walkRound_89 (by decide) ?_
    refine lv_icmp_eq (tgt := 135) hx hb dX0_walkRound_90 (by decide) (fun h_ => ?_) (fun h_ => ?_)
    · replace hf := if_t h_ hf
      exact L_135 x2 x3 x4 x5 x6 x7 x8 bo _ _ _ _ (lv_sub hl [1, 2, 3, 4, 5, 6, 7, 8] rfl) hI hf hk59
    · replace hf := if_f h_ hf
      refine lv_aload_n hx hb dX0_walkRound_93 rfl (lv_at hl 1 rfl) ?_
      refine g_Bo_standing X hI has_Bo.l (X.fl w_545) dX0_walkRound_94 ?_
      refine lv_iload hx hb dX0_walkRound_97 (lv_at hl 0 rfl) ?_
      refine lv_iload hx hb dX0_walkRound_99 (lv_at hl 6 rfl) ?_
      obtain ⟨h_, hf⟩ := ck_someM hf
      refine st_I X hI up_Bo_standing.l h_ dX0_walkRound_101 (fun H locs hI => ?_)
      generalize hz_ : (Bo_standing' bo (upd (Bo_standing bo) (Int32.toNatClampNeg r_5) x6)) = bo_6 at hI hf
      clear hz_
      replace hf := lt_e hf
      refine lv_aload_n hx hb dX0_walkRound_102 rfl (lv_at hl 1 rfl) ?_
      refine g_Bo_walk X hI has_Bo.l (X.fl w_546) dX0_walkRound_103 ?_
      refine lv_iload hx hb dX0_walkRound_106 (lv_at hl 7 rfl) ?_
      refine lv_iload hx hb dX0_walkRound_108 (lv_at hl 0 rfl) ?_
      obtain ⟨h_, hf⟩ := ck_someM hf
      refine st_I X hI up_Bo_walk.l h_ dX0_walkRound_110 (fun H locs hI => ?_)
      generalize hz_ : (Bo_walk' bo_6 (upd (Bo_walk bo_6) (Int32.toNatClampNeg x7) r_5)) = bo_7 at hI hf
      clear hz_
      replace hf := lt_e hf
      refine lv_iload hx hb dX0_walkRound_111 (lv_at hl 7 rfl) ?_
      refine lv_iload_n hx hb dX0_walkRound_113 rfl (lv_at hl 2 rfl) ?_
      refine lv_icmp_le (tgt := 132) hx hb dX0_walkRound_114 (by decide) (fun h_ => ?_) (fun h_ => ?_)
      · replace hf := if_t h_ hf
        exact L_132 x2 x3 x4 x5 x6 x7 x8 bo_7 _ _ _ _ (lv_sub hl [1, 2, 3, 4, 5, 6, 7, 8] rfl) hI hf hk59
      · replace hf := if_f h_ hf
        refine lv_aload_n hx hb dX0_walkRound_117 rfl (lv_at hl 1 rfl) ?_
        refine lv_aload_n hx hb dX0_walkRound_118 rfl (lv_at hl 1 rfl) ?_
        refine g_Bo_walk X hI has_Bo.l (X.fl w_546) dX0_walkRound_119 ?_
        refine lv_iload hx hb dX0_walkRound_122 (lv_at hl 7 rfl) ?_
        refine lv_iconst (v := 1) hx hb dX0_walkRound_124 (by decide) ?_
        refine lv_isub hx hb dX0_walkRound_125 ?_
        obtain ⟨h_, hf⟩ := ck_someM hf
        refine ld_I X hI has_Bo_walk.l h_ dX0_walkRound_126 ?_
        refine lv_iload hx hb dX0_walkRound_127 (lv_at hl 0 rfl) ?_
        obtain ⟨bo_8, hc_, hf⟩ := bd1_some hf
        refine call_Vv X hI (Cj.keep Cj.nil) (c_X0_join l g a_bo (a_ri 0) bo_7 (Bo_walk bo_7 (Int32.toNatClampNeg (x7 - (1 : Int32)))) r_5 bo_8 hc_) ⟨rfl, rfl⟩ ⟨ht _ w_956, w_959, ht _ w_150, lk_X0_join⟩ w_958 w_28 rfl rfl rfl hl rfl rfl dX0_walkRound_129 rfl rfl rfl rfl (fun H locs hI => ?_)
        exact L_132 x2 x3 x4 x5 x6 x7 x8 bo_8 _ _ _ _ (lv_sub hl [1, 2, 3, 4, 5, 6, 7, 8] rfl) hI hf hk59
  have L_59 : ∀ (n_ : Nat) (x2 : Int32) (x3 : Int32) (x4 : Int32) (x5 : Int32) (x6 : Int32) (x7 : Int32) (x8 : Int32) (bo : BoS) (H : Heap) (locs : List Loc) (ls : Array Slot), lv_has ls 10 [(0, .ref (a_bo 0)), (2, .int x2), (3, .int x3), (4, .int x4), (5, .int x5), (6, .int x6), (7, .int x7), (8, .int x8)] → In g A s.heap s (wBo g a_bo (a_ri 0) bo ++ (wRi g a_ri ri ++ [])) H locs → f_X0_walkRound_L59 n_ x2 x3 x4 x5 x6 x7 x8 bo = some (r_, o_bo) → W p l e rm_X0_walkRound s m args below meth c H locs 0 0 Q (F0 m 59 ls []) := by
    intro n_
    induction n_ with
    | zero =>
      intro x2 x3 x4 x5 x6 x7 x8 bo H locs ls hl hI hf
      rw [f_X0_walkRound_L59] at hf
      cases hf
    | succ n_ ih =>
      intro x2 x3 x4 x5 x6 x7 x8 bo H locs ls hl hI hf
      rw [f_X0_walkRound_L59] at hf
      refine lv_iload hx hb dX0_walkRound_59 (lv_at hl 7 rfl) ?_
      refine lv_iload hx hb dX0_walkRound_61 (lv_at hl 3 rfl) ?_
      refine lv_icmp_ge (tgt := 144) hx hb dX0_walkRound_63 (by decide) (fun h_ => ?_) (fun h_ => ?_)
      · replace hf := if_t h_ hf
        refine lv_iload hx hb dX0_walkRound_144 (lv_at hl 4 rfl) ?_
        refine lv_if_ne (tgt := 176) hx hb dX0_walkRound_146 (by decide) (fun h_ => ?_) (fun h_ => ?_)
        · replace hf := if_f h_ hf
          refine lv_iload hx hb dX0_walkRound_176 (lv_at hl 6 rfl) ?_
          cases hf
          exact end_i hQ hA X hI dX0_walkRound_178
        · replace hf := if_t h_ hf
          refine lv_iload hx hb dX0_walkRound_149 (lv_at hl 6 rfl) ?_
          refine lv_iload_n hx hb dX0_walkRound_151 rfl (lv_at hl 1 rfl) ?_
          refine lv_isub hx hb dX0_walkRound_152 ?_
          refine lv_iconst (v := 1) hx hb dX0_walkRound_153 (by decide) ?_
          refine lv_icmp_le (tgt := 176) hx hb dX0_walkRound_154 (by decide) (fun h_ => ?_) (fun h_ => ?_)
          · replace hf := if_t h_ hf
            refine lv_iload hx hb dX0_walkRound_176 (lv_at hl 6 rfl) ?_
            cases hf
            exact end_i hQ hA X hI dX0_walkRound_178
          · replace hf := if_f h_ hf
            refine lv_aload_n hx hb dX0_walkRound_157 rfl (lv_at hl 0 rfl) ?_
            refine lv_aload_n hx hb dX0_walkRound_158 rfl (lv_at hl 0 rfl) ?_
            refine g_Bo_walk X hI has_Bo.l (X.fl w_546) dX0_walkRound_159 ?_
            refine lv_iload hx hb dX0_walkRound_162 (lv_at hl 6 rfl) ?_
            refine lv_iconst (v := 1) hx hb dX0_walkRound_164 (by decide) ?_
            refine lv_isub hx hb dX0_walkRound_165 ?_
            obtain ⟨h_, hf⟩ := ck_someM hf
            refine ld_I X hI has_Bo_walk.l h_ dX0_walkRound_166 ?_
            refine lv_aload_n hx hb dX0_walkRound_167 rfl (lv_at hl 0 rfl) ?_
            refine g_Bo_walk X hI has_Bo.l (X.fl w_546) dX0_walkRound_168 ?_
            refine lv_iload_n hx hb dX0_walkRound_171 rfl (lv_at hl 1 rfl) ?_
            obtain ⟨h_, hf⟩ := ck_someM hf
            refine ld_I X hI has_Bo_walk.l h_ dX0_walkRound_172 ?_
            obtain ⟨bo_4, hc_, hf⟩ := bd1_some hf
            refine call_Vv X hI (Cj.keep Cj.nil) (c_X0_join l g a_bo (a_ri 0) bo (Bo_walk bo (Int32.toNatClampNeg (x7 - (1 : Int32)))) (Bo_walk bo (Int32.toNatClampNeg x2)) bo_4 hc_) ⟨rfl, rfl⟩ ⟨ht _ w_956, w_959, ht _ w_150, lk_X0_join⟩ w_958 w_28 rfl rfl rfl hl rfl rfl dX0_walkRound_173 rfl rfl rfl rfl (fun H locs hI => ?_)
            refine lv_iload hx hb dX0_walkRound_176 (lv_at hl 6 rfl) ?_
            cases hf
            exact end_i hQ hA X hI dX0_walkRound_178
      · replace hf := if_f h_ hf
        refine lv_iload hx hb dX0_walkRound_66 (lv_at hl 5 rfl) ?_
        refine lv_iload hx hb dX0_walkRound_68 (lv_at hl 3 rfl) ?_
        refine lv_icmp_lt (tgt := 76) hx hb dX0_walkRound_70 (by decide) (fun h_ => ?_) (fun h_ => ?_)
        · replace hf := if_t h_ hf
          exact L_76 x2 x3 x4 x5 x6 x7 x8 bo _ _ _ _ hl hI hf (fun z_0 z_1 z_2 z_3 z_4 z_5 z_6 z_7 _ _ _ hl hI hf => ih z_0 z_1 z_2 z_3 z_4 z_5 z_6 z_7 _ _ _ hl hI hf)
        · replace hf := if_f h_ hf
          refine lv_iload_n hx hb dX0_walkRound_73 rfl (lv_at hl 2 rfl) ?_
          refine lv_istore (lv' := [(6, .int x3), (0, .ref (a_bo 0)), (2, .int x2), (3, .int x3), (4, .int x4), (5, .int x5), (7, .int x7), (8, .int x8)]) hx hb dX0_walkRound_74 hl (by decide) rfl (fun ls hl => ?_)
          exact L_76 x2 x3 x4 x5 x3 x7 x8 bo _ _ _ _ (lv_sub hl [1, 2, 3, 4, 5, 0, 6, 7] rfl) hI hf (fun z_0 z_1 z_2 z_3 z_4 z_5 z_6 z_7 _ _ _ hl hI hf => ih z_0 z_1 z_2 z_3 z_4 z_5 z_6 z_7 _ _ _ hl hI hf)
  have L_51 : ∀ (x2 : Int32) (x3 : Int32) (x4 : Int32) (x5 : Int32) (t0i : Int32) (bo : BoS) (H : Heap) (locs : List Loc) (ls : Array Slot), lv_has ls 10 [(0, .ref (a_bo 0)), (2, .int x2), (3, .int x3), (4, .int x4), (5, .int x5)] → In g A s.heap s (wBo g a_bo (a_ri 0) bo ++ (wRi g a_ri ri ++ [])) H locs → f_X0_walkRound_L51 x2 x3 x4 x5 t0i bo = some (r_, o_bo) → W p l e rm_X0_walkRound s m args below meth c H locs 0 0 Q (F0 m 51 ls [.int t0i]) := by
    intro x2 x3 x4 x5 t0i bo H locs ls hl hI hf
    unfold f_X0_walkRound_L51 at hf
    refine lv_istore (lv' := [(6, .int t0i), (0, .ref (a_bo 0)), (2, .int x2), (3, .int x3), (4, .int x4), (5, .int x5)]) hx hb dX0_walkRound_51 hl (by decide) rfl (fun ls hl => ?_)
    refine lv_iload_n hx hb dX0_walkRound_53 rfl (lv_at hl 2 rfl) ?_
    refine lv_istore (lv' := [(7, .int x2), (6, .int t0i), (0, .ref (a_bo 0)), (2, .int x2), (3, .int x3), (4, .int x4), (5, .int x5)]) hx hb dX0_walkRound_54 hl (by decide) rfl (fun ls hl => ?_)
    refine lv_iload_n hx hb dX0_walkRound_56 rfl (lv_at hl 4 rfl) ?_
    refine lv_istore (lv' := [(8, .int x3), (7, .int x2), (6, .int t0i), (0, .ref (a_bo 0)), (2, .int x2), (3, .int x3), (4, .int x4), (5, .int x5)]) hx hb dX0_walkRound_57 hl (by decide) rfl (fun ls hl => ?_)
    exact L_59 FU x2 x3 x4 x5 t0i x2 x3 bo _ _ _ (lv_sub hl [3, 4, 5, 6, 7, 2, 1, 0] rfl) hI hf
  unfold f_X0_walkRound at hf
  refine lv_aload_n hx hb dX0_walkRound_0 rfl (lv_at hl 0 rfl) ?_
  refine g_Bo_rings X hI has_Bo.l (X.fl w_537) dX0_walkRound_1 ?_
  refine g_Ri_firstStanding X hI has_Ri.l.r (hI.fn (List.mem_of_getElem? (i := 43) rfl)) dX0_walkRound_4 ?_
  refine lv_iload_n hx hb dX0_walkRound_7 rfl (lv_at hl 1 rfl) ?_
  obtain ⟨h_, hf⟩ := ck_someM hf
  refine ld_I X hI has_Ri_firstStanding.l.r h_ dX0_walkRound_8 ?_
  refine lv_topi (fun v_1 e_ => ?_)
  replace hf := lt_to e_ hf
  clear e_
  refine lv_istore_n (lv' := [(3, .int v_1), (0, .ref (a_bo 0)), (1, .int p1), (2, .int p2)]) hx hb dX0_walkRound_9 rfl hl (by decide) rfl (fun ls hl => ?_)
  refine lv_aload_n hx hb dX0_walkRound_10 rfl (lv_at hl 1 rfl) ?_
  refine g_Bo_rings X hI has_Bo.l (X.fl w_537) dX0_walkRound_11 ?_
  refine g_Ri_firstStanding X hI has_Ri.l.r (hI.fn (List.mem_of_getElem? (i := 43) rfl)) dX0_walkRound_14 ?_
  refine lv_iload_n hx hb dX0_walkRound_17 rfl (lv_at hl 2 rfl) ?_
  refine lv_iconst (v := 1) hx hb dX0_walkRound_18 (by decide) ?_
  refine lv_iadd hx hb dX0_walkRound_19 ?_
  obtain ⟨h_, hf⟩ := ck_someM hf
  refine ld_I X hI has_Ri_firstStanding.l.r h_ dX0_walkRound_20 ?_
  refine lv_topi (fun v_2 e_ => ?_)
  replace hf := lt_to e_ hf
  clear e_
  refine lv_istore (lv' := [(4, .int v_2), (3, .int v_1), (0, .ref (a_bo 0)), (1, .int p1), (2, .int p2)]) hx hb dX0_walkRound_21 hl (by decide) rfl (fun ls hl => ?_)
  refine lv_aload_n hx hb dX0_walkRound_23 rfl (lv_at hl 2 rfl) ?_
  refine lv_iload_n hx hb dX0_walkRound_24 rfl (lv_at hl 3 rfl) ?_
  obtain ⟨r_3, hc_, hf⟩ := bd1_some hf
  refine call_Vi X hI (Cj.keep (Cj.keep Cj.id)) (c_X0_isOpen l g a_bo a_ri bo ri p1 r_3 hc_) ⟨rfl, rfl⟩ ⟨ht _ w_948, w_951, ht _ w_150, lk_X0_isOpen⟩ w_949 w_950 rfl rfl rfl hl rfl rfl dX0_walkRound_25 rfl rfl rfl rfl (fun H locs hI => ?_)
  refine lv_istore (lv' := [(5, .int r_3), (4, .int v_2), (3, .int v_1), (0, .ref (a_bo 0)), (1, .int p1), (2, .int p2)]) hx hb dX0_walkRound_28 hl (by decide) rfl (fun ls hl => ?_)
  refine lv_iload hx hb dX0_walkRound_30 (lv_at hl 0 rfl) ?_
  refine lv_if_eq (tgt := 50) hx hb dX0_walkRound_32 (by decide) (fun h_ => ?_) (fun h_ => ?_)
  · replace hf := if_t h_ hf
    refine lv_iload_n hx hb dX0_walkRound_50 rfl (lv_at hl 2 rfl) ?_
    exact L_51 p2 v_1 v_2 r_3 v_1 bo _ _ _ (lv_sub hl [3, 5, 2, 1, 0] rfl) hI hf
  · replace hf := if_f h_ hf
    refine lv_aload_n hx hb dX0_walkRound_35 rfl (lv_at hl 3 rfl) ?_
    refine g_Bo_rings X hI has_Bo.l (X.fl w_537) dX0_walkRound_36 ?_
    refine g_Ri_linkStart X hI has_Ri.l.r (hI.fn (List.mem_of_getElem? (i := 49) rfl)) dX0_walkRound_39 ?_
    refine lv_aload_n hx hb dX0_walkRound_42 rfl (lv_at hl 3 rfl) ?_
    refine g_Bo_parted X hI has_Bo.l (X.fl w_541) dX0_walkRound_43 ?_
    obtain ⟨h_, hf⟩ := ck_someM hf
    refine ld_I X hI has_Ri_linkStart.l.r h_ dX0_walkRound_46 ?_
    refine lv_goto (tgt := 51) hx hb dX0_walkRound_47 (by decide) ?_
    exact L_51 p2 v_1 v_2 r_3 (Ri_linkStart ri (Int32.toNatClampNeg (Bo_parted bo))) bo _ _ _ (lv_sub hl [3, 5, 2, 1, 0] rfl) hI hf
abbrev rm_X0_has : Room := { frames := 0, cells := 0, slots := 0, locals := 0 }
set_option maxRecDepth 20000 in
theorem c_X0_has (l : Launch) (g : GT) (p0 : Int32) (p1 : Int32) (r_ : Int32) (hf : f_X0_has p0 p1 = some (r_)) : CI l yX0_has cX0_has 2 (some .boolean) rm_X0_has g [.int p0, .int p1] ([]) ([]) r_ := by
  refine start2 (y := yX0_has) (cc := cX0_has) (n := 2) (av := [.int p0, .int p1]) (ws := ([])) (Qc := fun sz => QI g ([]) ([]) r_ sz) (by decide) rfl ?_
  intro p e s m args below meth c ls Q A ha hQ hA X hl hI hin
  have X : Cx p s m args meth c cX0_has 2 RX0 (some .boolean) := X
  have hl : lv_has ls 2 [(0, .int p0), (1, .int p1)] := hl
  obtain ⟨hx, hb, hml, hown, ht, hr, hlk⟩ := id X
  clear ha hin
  unfold f_X0_has at hf
  refine lv_iload_n hx hb dX0_has_0 rfl (lv_at hl 0 rfl) ?_
  refine lv_iload_n hx hb dX0_has_1 rfl (lv_at hl 1 rfl) ?_
  refine lv_ishr hx hb dX0_has_2 ?_
  refine lv_iconst (v := 1) hx hb dX0_has_3 (by decide) ?_
  refine lv_iand hx hb dX0_has_4 ?_
  refine lv_if_eq (tgt := 12) hx hb dX0_has_5 (by decide) (fun h_ => ?_) (fun h_ => ?_)
  · replace hf := if_t h_ hf
    refine lv_iconst (v := 0) hx hb dX0_has_12 (by decide) ?_
    cases hf
    exact end_z hQ hA X hI rfl dX0_has_13
  · replace hf := if_f h_ hf
    refine lv_iconst (v := 1) hx hb dX0_has_8 (by decide) ?_
    refine lv_goto (tgt := 13) hx hb dX0_has_9 (by decide) ?_
    cases hf
    exact end_z hQ hA X hI rfl dX0_has_13
abbrev rm_X0_addNumber : Room := { frames := 0, cells := 0, slots := 0, locals := 0 }
set_option maxRecDepth 20000 in
theorem c_X0_addNumber (l : Launch) (g : GT) (a_bo : Nat → Nat) (q_bo_rings : Nat) (bo : BoS) (p1 : Int32) (o_bo : BoS) (hf : f_X0_addNumber bo p1 = some (o_bo)) : CV l yX0_addNumber cX0_addNumber 2 none rm_X0_addNumber g [.ref (a_bo 0), .int p1] (wBo g a_bo q_bo_rings bo ++ []) (wBo g a_bo q_bo_rings o_bo ++ []) := by
  refine start2 (y := yX0_addNumber) (cc := cX0_addNumber) (n := 2) (av := [.ref (a_bo 0), .int p1]) (ws := (wBo g a_bo q_bo_rings bo ++ [])) (Qc := fun sz => QV g (wBo g a_bo q_bo_rings bo ++ []) (wBo g a_bo q_bo_rings o_bo ++ []) sz) (by decide) rfl ?_
  intro p e s m args below meth c ls Q A ha hQ hA X hl hI hin
  have X : Cx p s m args meth c cX0_addNumber 2 RX0 none := X
  have hl : lv_has ls 2 [(0, .ref (a_bo 0)), (1, .int p1)] := hl
  obtain ⟨hx, hb, hml, hown, ht, hr, hlk⟩ := id X
  clear ha hin
  unfold f_X0_addNumber at hf
  refine lv_aload_n hx hb dX0_addNumber_0 rfl (lv_at hl 0 rfl) ?_
  refine g_Bo_count X hI has_Bo.l (X.fl w_559) dX0_addNumber_1 ?_
  refine lv_sipush (v := 256) hx hb dX0_addNumber_4 (by decide) ?_
  refine lv_icmp_ge (tgt := 30) hx hb dX0_addNumber_7 (by decide) (fun h_ => ?_) (fun h_ => ?_)
  · replace hf := if_t h_ hf
    cases hf
    exact end_v hQ hA X hI dX0_addNumber_30
  · replace hf := if_f h_ hf
    refine lv_aload_n hx hb dX0_addNumber_10 rfl (lv_at hl 0 rfl) ?_
    refine g_Bo_numbers X hI has_Bo.l (X.fl w_553) dX0_addNumber_11 ?_
    refine lv_aload_n hx hb dX0_addNumber_14 rfl (lv_at hl 0 rfl) ?_
    refine g_Bo_count X hI has_Bo.l (X.fl w_559) dX0_addNumber_15 ?_
    refine lv_iload_n hx hb dX0_addNumber_18 rfl (lv_at hl 1 rfl) ?_
    obtain ⟨h_, hf⟩ := ck_someM hf
    refine st_I X hI up_Bo_numbers.l h_ dX0_addNumber_19 (fun H locs hI => ?_)
    generalize hz_ : (Bo_numbers' bo (upd (Bo_numbers bo) (Int32.toNatClampNeg (Bo_count bo)) p1)) = bo_1 at hI hf
    clear hz_
    replace hf := lt_e hf
    refine lv_aload_n hx hb dX0_addNumber_20 rfl (lv_at hl 0 rfl) ?_
    refine lv_dup hx hb dX0_addNumber_21 rfl ?_
    refine g_Bo_count X hI has_Bo.l (X.fl w_559) dX0_addNumber_22 ?_
    refine lv_iconst (v := 1) hx hb dX0_addNumber_25 (by decide) ?_
    refine lv_iadd hx hb dX0_addNumber_26 ?_
    refine p_Bo_count X hI up_Bo_count.l (X.fl w_559) dX0_addNumber_27 (fun H locs hI => ?_)
    generalize hz_ : (Bo_count' bo_1 ((Bo_count bo_1) + (1 : Int32))) = bo_2 at hI hf
    clear hz_
    replace hf := lt_e hf
    cases hf
    exact end_v hQ hA X hI dX0_addNumber_30
abbrev rm_X0_listTurn : Room := { frames := 1, cells := 0, slots := 0, locals := 21 }
set_option maxRecDepth 20000 in
theorem c_X0_listTurn (l : Launch) (g : GT) (a_bo : Nat → Nat) (q_bo_rings : Nat) (bo : BoS) (p1 : Int32) (o_bo : BoS) (hf : f_X0_listTurn bo p1 = some (o_bo)) : CV l yX0_listTurn cX0_listTurn 2 none rm_X0_listTurn g [.ref (a_bo 0), .int p1] (wBo g a_bo q_bo_rings bo ++ []) (wBo g a_bo q_bo_rings o_bo ++ []) := by
  refine start2 (y := yX0_listTurn) (cc := cX0_listTurn) (n := 2) (av := [.ref (a_bo 0), .int p1]) (ws := (wBo g a_bo q_bo_rings bo ++ [])) (Qc := fun sz => QV g (wBo g a_bo q_bo_rings bo ++ []) (wBo g a_bo q_bo_rings o_bo ++ []) sz) (by decide) rfl ?_
  intro p e s m args below meth c ls Q A ha hQ hA X hl hI hin
  have X : Cx p s m args meth c cX0_listTurn 2 RX0 none := X
  have hl : lv_has ls 2 [(0, .ref (a_bo 0)), (1, .int p1)] := hl
  obtain ⟨hx, hb, hml, hown, ht, hr, hlk⟩ := id X
  clear ha hin
  unfold f_X0_listTurn at hf
  refine lv_aload_n hx hb dX0_listTurn_0 rfl (lv_at hl 0 rfl) ?_
  refine g_Bo_overByUnder X hI has_Bo.l (X.fl w_551) dX0_listTurn_1 ?_
  refine lv_iload_n hx hb dX0_listTurn_4 rfl (lv_at hl 1 rfl) ?_
  obtain ⟨h_, hf⟩ := ck_someM hf
  refine ld_I X hI has_Bo_overByUnder.l h_ dX0_listTurn_5 ?_
  refine lv_iload_n hx hb dX0_listTurn_6 rfl (lv_at hl 1 rfl) ?_
  obtain ⟨r_1, hc_, hf⟩ := bd1_some hf
  refine call_Si X hI Cj.nil (c_X0_has l g (Bo_overByUnder bo (Int32.toNatClampNeg p1)) p1 r_1 hc_) ⟨rfl, rfl⟩ ⟨ht _ w_964, w_966, ht _ w_150, lk_X0_has⟩ w_965 rfl hl rfl rfl dX0_listTurn_7 rfl rfl rfl rfl (fun H locs hI => ?_)
  refine lv_if_eq (tgt := 18) hx hb dX0_listTurn_10 (by decide) (fun h_ => ?_) (fun h_ => ?_)
  · replace hf := if_t h_ hf
    cases hf
    exact end_v hQ hA X hI dX0_listTurn_18
  · replace hf := if_f h_ hf
    refine lv_aload_n hx hb dX0_listTurn_13 rfl (lv_at hl 0 rfl) ?_
    refine lv_iload_n hx hb dX0_listTurn_14 rfl (lv_at hl 1 rfl) ?_
    obtain ⟨bo_2, hc_, hf⟩ := bd1_some hf
    refine call_Vv X hI (Cj.keep Cj.id) (c_X0_addNumber l g a_bo q_bo_rings bo p1 bo_2 hc_) ⟨rfl, rfl⟩ ⟨ht _ w_967, w_970, ht _ w_150, lk_X0_addNumber⟩ w_969 w_30 rfl rfl rfl hl rfl rfl dX0_listTurn_15 rfl rfl rfl rfl (fun H locs hI => ?_)
    cases hf
    exact end_v hQ hA X hI dX0_listTurn_18
abbrev rm_X0_slipsWith : Room := { frames := 1, cells := 0, slots := 0, locals := 21 }
set_option maxRecDepth 20000 in
theorem c_X0_slipsWith (l : Launch) (g : GT) (a_bo : Nat → Nat) (q_bo_rings : Nat) (bo : BoS) (p1 : Int32) (r_ : Int32) (hf : f_X0_slipsWith bo p1 = some (r_)) : CI l yX0_slipsWith cX0_slipsWith 3 (some .int) rm_X0_slipsWith g [.ref (a_bo 0), .int p1] (wBo g a_bo q_bo_rings bo ++ []) (wBo g a_bo q_bo_rings bo ++ []) r_ := by
  refine start2 (y := yX0_slipsWith) (cc := cX0_slipsWith) (n := 3) (av := [.ref (a_bo 0), .int p1]) (ws := (wBo g a_bo q_bo_rings bo ++ [])) (Qc := fun sz => QI g (wBo g a_bo q_bo_rings bo ++ []) (wBo g a_bo q_bo_rings bo ++ []) r_ sz) (by decide) rfl ?_
  intro p e s m args below meth c ls Q A ha hQ hA X hl hI hin
  have X : Cx p s m args meth c cX0_slipsWith 3 RX0 (some .int) := X
  have hl : lv_has ls 3 [(0, .ref (a_bo 0)), (1, .int p1)] := hl
  obtain ⟨hx, hb, hml, hown, ht, hr, hlk⟩ := id X
  clear ha hin
  have L_24 : ∀ (x1 : Int32) (t0i : Int32) (H : Heap) (locs : List Loc) (ls : Array Slot), lv_has ls 3 [(0, .ref (a_bo 0)), (1, .int x1)] → In g A s.heap s (wBo g a_bo q_bo_rings bo ++ []) H locs → f_X0_slipsWith_L24 x1 t0i bo = some (r_) → W p l e rm_X0_slipsWith s m args below meth c H locs 0 0 Q (F0 m 24 ls [.int t0i]) := by
    intro x1 t0i H locs ls hl hI hf
    unfold f_X0_slipsWith_L24 at hf
    refine lv_istore_n (lv' := [(2, .int t0i), (0, .ref (a_bo 0)), (1, .int x1)]) hx hb dX0_slipsWith_24 rfl hl (by decide) rfl (fun ls hl => ?_)
    refine lv_aload_n hx hb dX0_slipsWith_25 rfl (lv_at hl 1 rfl) ?_
    refine g_Bo_overByOver X hI has_Bo.l (X.fl w_550) dX0_slipsWith_26 ?_
    refine lv_iload_n hx hb dX0_slipsWith_29 rfl (lv_at hl 2 rfl) ?_
    obtain ⟨h_, hf⟩ := ck_someM hf
    refine ld_I X hI has_Bo_overByOver.l h_ dX0_slipsWith_30 ?_
    refine lv_aload_n hx hb dX0_slipsWith_31 rfl (lv_at hl 1 rfl) ?_
    refine g_Bo_underByUnder X hI has_Bo.l (X.fl w_552) dX0_slipsWith_32 ?_
    refine lv_iload_n hx hb dX0_slipsWith_35 rfl (lv_at hl 2 rfl) ?_
    obtain ⟨h_, hf⟩ := ck_someM hf
    refine ld_I X hI has_Bo_underByUnder.l h_ dX0_slipsWith_36 ?_
    refine lv_iand hx hb dX0_slipsWith_37 ?_
    refine lv_iload_n hx hb dX0_slipsWith_38 rfl (lv_at hl 0 rfl) ?_
    refine lv_iand hx hb dX0_slipsWith_39 ?_
    cases hf
    exact end_i hQ hA X hI dX0_slipsWith_40
  unfold f_X0_slipsWith at hf
  refine lv_aload_n hx hb dX0_slipsWith_0 rfl (lv_at hl 0 rfl) ?_
  refine g_Bo_plus X hI has_Bo.l (X.fl w_540) dX0_slipsWith_1 ?_
  refine lv_iload_n hx hb dX0_slipsWith_4 rfl (lv_at hl 1 rfl) ?_
  obtain ⟨r_1, hc_, hf⟩ := bd1_some hf
  refine call_Si X hI Cj.nil (c_X0_has l g (Bo_plus bo) p1 r_1 hc_) ⟨rfl, rfl⟩ ⟨ht _ w_964, w_966, ht _ w_150, lk_X0_has⟩ w_965 rfl hl rfl rfl dX0_slipsWith_5 rfl rfl rfl rfl (fun H locs hI => ?_)
  refine lv_if_eq (tgt := 20) hx hb dX0_slipsWith_8 (by decide) (fun h_ => ?_) (fun h_ => ?_)
  · replace hf := if_t h_ hf
    refine lv_aload_n hx hb dX0_slipsWith_20 rfl (lv_at hl 0 rfl) ?_
    refine g_Bo_plus X hI has_Bo.l (X.fl w_540) dX0_slipsWith_21 ?_
    exact L_24 p1 (Bo_plus bo) _ _ _ hl hI hf
  · replace hf := if_f h_ hf
    refine lv_aload_n hx hb dX0_slipsWith_11 rfl (lv_at hl 0 rfl) ?_
    refine g_Bo_plus X hI has_Bo.l (X.fl w_540) dX0_slipsWith_12 ?_
    refine lv_iconst (v := (-1)) hx hb dX0_slipsWith_15 (by decide) ?_
    refine lv_ixor hx hb dX0_slipsWith_16 ?_
    refine lv_goto (tgt := 24) hx hb dX0_slipsWith_17 (by decide) ?_
    exact L_24 p1 ((Bo_plus bo) ^^^ (-1 : Int32)) _ _ _ hl hI hf
abbrev rm_X0_lowLink : Room := { frames := 0, cells := 0, slots := 0, locals := 0 }
set_option maxRecDepth 20000 in
theorem c_X0_lowLink (l : Launch) (g : GT) (a_bo : Nat → Nat) (a_ri : Nat → Nat) (bo : BoS) (ri : RiS) (p1 : Int32) (p2 : Int32) (r_ : Int32) (hf : f_X0_lowLink bo ri p1 p2 = some (r_)) : CI l yX0_lowLink cX0_lowLink 5 (some .int) rm_X0_lowLink g [.ref (a_bo 0), .int p1, .int p2] (wBo g a_bo (a_ri 0) bo ++ (wRi g a_ri ri ++ [])) (wBo g a_bo (a_ri 0) bo ++ (wRi g a_ri ri ++ [])) r_ := by
  refine start2 (y := yX0_lowLink) (cc := cX0_lowLink) (n := 5) (av := [.ref (a_bo 0), .int p1, .int p2]) (ws := (wBo g a_bo (a_ri 0) bo ++ (wRi g a_ri ri ++ []))) (Qc := fun sz => QI g (wBo g a_bo (a_ri 0) bo ++ (wRi g a_ri ri ++ [])) (wBo g a_bo (a_ri 0) bo ++ (wRi g a_ri ri ++ [])) r_ sz) (by decide) rfl ?_
  intro p e s m args below meth c ls Q A ha hQ hA X hl hI hin
  have X : Cx p s m args meth c cX0_lowLink 5 RX0 (some .int) := X
  have hl : lv_has ls 5 [(0, .ref (a_bo 0)), (1, .int p1), (2, .int p2)] := hl
  obtain ⟨hx, hb, hml, hown, ht, hr, hlk⟩ := id X
  clear ha hin
  have L_38 : ∀ (t1i : Int32) (H : Heap) (locs : List Loc) (ls : Array Slot), lv_has ls 5 [] → In g A s.heap s (wBo g a_bo (a_ri 0) bo ++ (wRi g a_ri ri ++ [])) H locs → f_X0_lowLink_L38 t1i ri = some (r_) → W p l e rm_X0_lowLink s m args below meth c H locs 0 0 Q (F0 m 38 ls [.int t1i, .ref (a_ri 10)]) := by
    intro t1i H locs ls hl hI hf
    unfold f_X0_lowLink_L38 at hf
    obtain ⟨h_, hf⟩ := ck_someM hf
    refine ld_I X hI has_Ri_standingLink.l.r h_ dX0_lowLink_38 ?_
    cases hf
    exact end_i hQ hA X hI dX0_lowLink_39
  unfold f_X0_lowLink at hf
  refine lv_aload_n hx hb dX0_lowLink_0 rfl (lv_at hl 0 rfl) ?_
  refine g_Bo_standing X hI has_Bo.l (X.fl w_545) dX0_lowLink_1 ?_
  refine lv_iconst (v := 2) hx hb dX0_lowLink_4 (by decide) ?_
  refine lv_iload_n hx hb dX0_lowLink_5 rfl (lv_at hl 1 rfl) ?_
  refine lv_imul hx hb dX0_lowLink_6 ?_
  obtain ⟨h_, hf⟩ := ck_someM hf
  refine ld_I X hI has_Bo_standing.l h_ dX0_lowLink_7 ?_
  refine lv_topi (fun v_1 e_ => ?_)
  replace hf := lt_to e_ hf
  clear e_
  refine lv_istore_n (lv' := [(3, .int v_1), (0, .ref (a_bo 0)), (1, .int p1), (2, .int p2)]) hx hb dX0_lowLink_8 rfl hl (by decide) rfl (fun ls hl => ?_)
  refine lv_aload_n hx hb dX0_lowLink_9 rfl (lv_at hl 1 rfl) ?_
  refine g_Bo_standing X hI has_Bo.l (X.fl w_545) dX0_lowLink_10 ?_
  refine lv_iconst (v := 2) hx hb dX0_lowLink_13 (by decide) ?_
  refine lv_iload_n hx hb dX0_lowLink_14 rfl (lv_at hl 3 rfl) ?_
  refine lv_imul hx hb dX0_lowLink_15 ?_
  obtain ⟨h_, hf⟩ := ck_someM hf
  refine ld_I X hI has_Bo_standing.l h_ dX0_lowLink_16 ?_
  refine lv_topi (fun v_2 e_ => ?_)
  replace hf := lt_to e_ hf
  clear e_
  refine lv_istore (lv' := [(4, .int v_2), (3, .int v_1), (0, .ref (a_bo 0)), (1, .int p1), (2, .int p2)]) hx hb dX0_lowLink_17 hl (by decide) rfl (fun ls hl => ?_)
  refine lv_aload_n hx hb dX0_lowLink_19 rfl (lv_at hl 2 rfl) ?_
  refine g_Bo_rings X hI has_Bo.l (X.fl w_537) dX0_lowLink_20 ?_
  refine g_Ri_standingLink X hI has_Ri.l.r (hI.fn (List.mem_of_getElem? (i := 52) rfl)) dX0_lowLink_23 ?_
  refine lv_iload_n hx hb dX0_lowLink_26 rfl (lv_at hl 1 rfl) ?_
  refine lv_iload hx hb dX0_lowLink_27 (lv_at hl 0 rfl) ?_
  refine lv_icmp_ge (tgt := 36) hx hb dX0_lowLink_29 (by decide) (fun h_ => ?_) (fun h_ => ?_)
  · replace hf := if_t h_ hf
    refine lv_iload hx hb dX0_lowLink_36 (lv_at hl 0 rfl) ?_
    exact L_38 v_2 _ _ _ (lv_sub hl [] rfl) hI hf
  · replace hf := if_f h_ hf
    refine lv_iload_n hx hb dX0_lowLink_32 rfl (lv_at hl 1 rfl) ?_
    refine lv_goto (tgt := 38) hx hb dX0_lowLink_33 (by decide) ?_
    exact L_38 v_1 _ _ _ (lv_sub hl [] rfl) hI hf
abbrev rm_X0_fits : Room := { frames := 1, cells := 0, slots := 0, locals := 24 }
set_option maxRecDepth 20000 in
theorem c_X0_fits (l : Launch) (g : GT) (a_bo : Nat → Nat) (a_ri : Nat → Nat) (bo : BoS) (ri : RiS) (p1 : Int32) (p2 : Int32) (r_ : Int32) (hf : f_X0_fits bo ri p1 p2 = some (r_)) : CI l yX0_fits cX0_fits 3 (some .boolean) rm_X0_fits g [.ref (a_bo 0), .int p1, .int p2] (wBo g a_bo (a_ri 0) bo ++ (wRi g a_ri ri ++ [])) (wBo g a_bo (a_ri 0) bo ++ (wRi g a_ri ri ++ [])) r_ := by
  refine start2 (y := yX0_fits) (cc := cX0_fits) (n := 3) (av := [.ref (a_bo 0), .int p1, .int p2]) (ws := (wBo g a_bo (a_ri 0) bo ++ (wRi g a_ri ri ++ []))) (Qc := fun sz => QI g (wBo g a_bo (a_ri 0) bo ++ (wRi g a_ri ri ++ [])) (wBo g a_bo (a_ri 0) bo ++ (wRi g a_ri ri ++ [])) r_ sz) (by decide) rfl ?_
  intro p e s m args below meth c ls Q A ha hQ hA X hl hI hin
  have X : Cx p s m args meth c cX0_fits 3 RX0 (some .boolean) := X
  have hl : lv_has ls 3 [(0, .ref (a_bo 0)), (1, .int p1), (2, .int p2)] := hl
  obtain ⟨hx, hb, hml, hown, ht, hr, hlk⟩ := id X
  clear ha hin
  unfold f_X0_fits at hf
  refine lv_aload_n hx hb dX0_fits_0 rfl (lv_at hl 0 rfl) ?_
  refine g_Bo_rings X hI has_Bo.l (X.fl w_537) dX0_fits_1 ?_
  refine g_Ri_linkFits X hI has_Ri.l.r (hI.fn (List.mem_of_getElem? (i := 54) rfl)) dX0_fits_4 ?_
  refine lv_aload_n hx hb dX0_fits_7 rfl (lv_at hl 0 rfl) ?_
  refine lv_iload_n hx hb dX0_fits_8 rfl (lv_at hl 1 rfl) ?_
  refine lv_iload_n hx hb dX0_fits_9 rfl (lv_at hl 2 rfl) ?_
  obtain ⟨r_1, hc_, hf⟩ := bd1_some hf
  refine call_Vi X hI (Cj.keep (Cj.keep Cj.id)) (c_X0_lowLink l g a_bo a_ri bo ri p1 p2 r_1 hc_) ⟨rfl, rfl⟩ ⟨ht _ w_983, w_986, ht _ w_150, lk_X0_lowLink⟩ w_985 w_34 rfl rfl rfl hl rfl rfl dX0_fits_10 rfl rfl rfl rfl (fun H locs hI => ?_)
  obtain ⟨h_, hf⟩ := ck_someM hf
  refine ld_Z X hI has_Ri_linkFits.l.r h_ dX0_fits_13 ?_
  obtain ⟨hzb_, hf⟩ := zb_some hf
  cases hf
  exact end_z hQ hA X hI (zb_n hzb_) dX0_fits_14
abbrev rm_X0_listSlips : Room := { frames := 2, cells := 0, slots := 0, locals := 46 }
set_option maxRecDepth 20000 in
theorem c_X0_listSlips (l : Launch) (g : GT) (a_bo : Nat → Nat) (a_ri : Nat → Nat) (bo : BoS) (ri : RiS) (p1 : Int32) (o_bo : BoS) (hf : f_X0_listSlips bo ri p1 = some (o_bo)) : CV l yX0_listSlips cX0_listSlips 4 none rm_X0_listSlips g [.ref (a_bo 0), .int p1] (wBo g a_bo (a_ri 0) bo ++ (wRi g a_ri ri ++ [])) (wBo g a_bo (a_ri 0) o_bo ++ (wRi g a_ri ri ++ [])) := by
  refine start2 (y := yX0_listSlips) (cc := cX0_listSlips) (n := 4) (av := [.ref (a_bo 0), .int p1]) (ws := (wBo g a_bo (a_ri 0) bo ++ (wRi g a_ri ri ++ []))) (Qc := fun sz => QV g (wBo g a_bo (a_ri 0) bo ++ (wRi g a_ri ri ++ [])) (wBo g a_bo (a_ri 0) o_bo ++ (wRi g a_ri ri ++ [])) sz) (by decide) rfl ?_
  intro p e s m args below meth c ls Q A ha hQ hA X hl hI hin
  have X : Cx p s m args meth c cX0_listSlips 4 RX0 none := X
  have hl : lv_has ls 4 [(0, .ref (a_bo 0)), (1, .int p1)] := hl
  obtain ⟨hx, hb, hml, hown, ht, hr, hlk⟩ := id X
  clear ha hin
  have L_55 : ∀ (x1 : Int32) (x2 : Int32) (x3 : Int32) (bo : BoS) (k10 : (Int32) → (Int32) → (Int32) → (BoS) → (RiS) → Option ((BoS))) (H : Heap) (locs : List Loc) (ls : Array Slot), lv_has ls 4 [(0, .ref (a_bo 0)), (1, .int x1), (2, .int x2), (3, .int x3)] → In g A s.heap s (wBo g a_bo (a_ri 0) bo ++ (wRi g a_ri ri ++ [])) H locs → f_X0_listSlips_L55 x1 x2 x3 bo ri k10 = some (o_bo) → (∀ (x1 : Int32) (x2 : Int32) (x3 : Int32) (bo : BoS) (H : Heap) (locs : List Loc) (ls : Array Slot), lv_has ls 4 [(0, .ref (a_bo 0)), (1, .int x1), (2, .int x2), (3, .int x3)] → In g A s.heap s (wBo g a_bo (a_ri 0) bo ++ (wRi g a_ri ri ++ [])) H locs → k10 x1 x2 x3 bo ri = some (o_bo) → W p l e rm_X0_listSlips s m args below meth c H locs 0 0 Q (F0 m 10 ls [])) → W p l e rm_X0_listSlips s m args below meth c H locs 0 0 Q (F0 m 55 ls []) := by
    intro x1 x2 x3 bo k10 H locs ls hl hI hf hk10
    unfold f_X0_listSlips_L55 at hf
    obtain ⟨v_6, e_⟩ : ∃ y : Int32, y = (x3 + (1 : Int32)) := ⟨_, rfl⟩
    replace hf := lt_to e_ hf
    refine lv_iinc (v := v_6) (lv' := [(3, .int v_6), (0, .ref (a_bo 0)), (1, .int x1), (2, .int x2)]) hx hb dX0_listSlips_55 hl (k := 3) rfl (by rw [e_]; rfl) (by decide) rfl (fun ls hl => ?_)
    clear e_
    refine lv_goto (tgt := 10) hx hb dX0_listSlips_58 (by decide) ?_
    exact hk10 x1 x2 v_6 bo _ _ _ (lv_sub hl [1, 2, 3, 0] rfl) hI hf
  have L_10 : ∀ (n_ : Nat) (x1 : Int32) (x2 : Int32) (x3 : Int32) (bo : BoS) (H : Heap) (locs : List Loc) (ls : Array Slot), lv_has ls 4 [(0, .ref (a_bo 0)), (1, .int x1), (2, .int x2), (3, .int x3)] → In g A s.heap s (wBo g a_bo (a_ri 0) bo ++ (wRi g a_ri ri ++ [])) H locs → f_X0_listSlips_L10 n_ x1 x2 x3 bo ri = some (o_bo) → W p l e rm_X0_listSlips s m args below meth c H locs 0 0 Q (F0 m 10 ls []) := by
    intro n_
    induction n_ with
    | zero =>
      intro x1 x2 x3 bo H locs ls hl hI hf
      rw [f_X0_listSlips_L10] at hf
      cases hf
    | succ n_ ih =>
      intro x1 x2 x3 bo H locs ls hl hI hf
      rw [f_X0_listSlips_L10] at hf
      refine lv_iload_n hx hb dX0_listSlips_10 rfl (lv_at hl 2 rfl) ?_
      refine lv_if_eq (tgt := 61) hx hb dX0_listSlips_11 (by decide) (fun h_ => ?_) (fun h_ => ?_)
      · replace hf := if_t h_ hf
        cases hf
        exact end_v hQ hA X hI dX0_listSlips_61
      · replace hf := if_f h_ hf
        refine lv_iload_n hx hb dX0_listSlips_14 rfl (lv_at hl 3 rfl) ?_
        refine lv_aload_n hx hb dX0_listSlips_15 rfl (lv_at hl 0 rfl) ?_
        refine g_Bo_rings X hI has_Bo.l (X.fl w_537) dX0_listSlips_16 ?_
        refine g_Ri_crossings X hI has_Ri.l.r (hI.fn (List.mem_of_getElem? (i := 31) rfl)) dX0_listSlips_19 ?_
        refine lv_icmp_ge (tgt := 61) hx hb dX0_listSlips_22 (by decide) (fun h_ => ?_) (fun h_ => ?_)
        · replace hf := if_t h_ hf
          cases hf
          exact end_v hQ hA X hI dX0_listSlips_61
        · replace hf := if_f h_ hf
          refine lv_iload_n hx hb dX0_listSlips_25 rfl (lv_at hl 2 rfl) ?_
          refine lv_iload_n hx hb dX0_listSlips_26 rfl (lv_at hl 3 rfl) ?_
          obtain ⟨r_3, hc_, hf⟩ := bd1_some hf
          refine call_Si X hI Cj.nil (c_X0_has l g x2 x3 r_3 hc_) ⟨rfl, rfl⟩ ⟨ht _ w_964, w_966, ht _ w_150, lk_X0_has⟩ w_965 rfl hl rfl rfl dX0_listSlips_27 rfl rfl rfl rfl (fun H locs hI => ?_)
          refine lv_if_eq (tgt := 55) hx hb dX0_listSlips_30 (by decide) (fun h_ => ?_) (fun h_ => ?_)
          · replace hf := if_t h_ hf
            exact L_55 x1 x2 x3 bo _ _ _ _ hl hI hf (fun z_0 z_1 z_2 z_3 _ _ _ hl hI hf => ih z_0 z_1 z_2 z_3 _ _ _ hl hI hf)
          · replace hf := if_f h_ hf
            refine lv_aload_n hx hb dX0_listSlips_33 rfl (lv_at hl 0 rfl) ?_
            refine lv_iload_n hx hb dX0_listSlips_34 rfl (lv_at hl 1 rfl) ?_
            refine lv_iload_n hx hb dX0_listSlips_35 rfl (lv_at hl 3 rfl) ?_
            obtain ⟨r_4, hc_, hf⟩ := bd1_some hf
            refine call_Vi X hI (Cj.keep (Cj.keep Cj.id)) (c_X0_fits l g a_bo a_ri bo ri x1 x3 r_4 hc_) ⟨rfl, rfl⟩ ⟨ht _ w_979, w_982, ht _ w_150, lk_X0_fits⟩ w_981 w_33 rfl rfl rfl hl rfl rfl dX0_listSlips_36 rfl rfl rfl rfl (fun H locs hI => ?_)
            refine lv_if_eq (tgt := 55) hx hb dX0_listSlips_39 (by decide) (fun h_ => ?_) (fun h_ => ?_)
            · replace hf := if_t h_ hf
              exact L_55 x1 x2 x3 bo _ _ _ _ hl hI hf (fun z_0 z_1 z_2 z_3 _ _ _ hl hI hf => ih z_0 z_1 z_2 z_3 _ _ _ hl hI hf)
            · replace hf := if_f h_ hf
              refine lv_aload_n hx hb dX0_listSlips_42 rfl (lv_at hl 0 rfl) ?_
              refine lv_bipush (v := 100) hx hb dX0_listSlips_43 (by decide) ?_
              refine lv_bipush (v := 10) hx hb dX0_listSlips_45 (by decide) ?_
              refine lv_iload_n hx hb dX0_listSlips_47 rfl (lv_at hl 1 rfl) ?_
              refine lv_imul hx hb dX0_listSlips_48 ?_
              refine lv_iadd hx hb dX0_listSlips_49 ?_
              refine lv_iload_n hx hb dX0_listSlips_50 rfl (lv_at hl 3 rfl) ?_
              refine lv_iadd hx hb dX0_listSlips_51 ?_
              obtain ⟨bo_5, hc_, hf⟩ := bd1_some hf
              refine call_Vv X hI (Cj.keep Cj.nil) (c_X0_addNumber l g a_bo (a_ri 0) bo (((100 : Int32) + ((10 : Int32) * x1)) + x3) bo_5 hc_) ⟨rfl, rfl⟩ ⟨ht _ w_967, w_970, ht _ w_150, lk_X0_addNumber⟩ w_969 w_30 rfl rfl rfl hl rfl rfl dX0_listSlips_52 rfl rfl rfl rfl (fun H locs hI => ?_)
              exact L_55 x1 x2 x3 bo_5 _ _ _ _ hl hI hf (fun z_0 z_1 z_2 z_3 _ _ _ hl hI hf => ih z_0 z_1 z_2 z_3 _ _ _ hl hI hf)
  unfold f_X0_listSlips at hf
  refine lv_aload_n hx hb dX0_listSlips_0 rfl (lv_at hl 0 rfl) ?_
  refine lv_iload_n hx hb dX0_listSlips_1 rfl (lv_at hl 1 rfl) ?_
  obtain ⟨r_1, hc_, hf⟩ := bd1_some hf
  refine call_Vi X hI (Cj.keep Cj.nil) (c_X0_slipsWith l g a_bo (a_ri 0) bo p1 r_1 hc_) ⟨rfl, rfl⟩ ⟨ht _ w_975, w_978, ht _ w_150, lk_X0_slipsWith⟩ w_977 w_32 rfl rfl rfl hl rfl rfl dX0_listSlips_2 rfl rfl rfl rfl (fun H locs hI => ?_)
  refine lv_istore_n (lv' := [(2, .int r_1), (0, .ref (a_bo 0)), (1, .int p1)]) hx hb dX0_listSlips_5 rfl hl (by decide) rfl (fun ls hl => ?_)
  refine lv_iload_n hx hb dX0_listSlips_6 rfl (lv_at hl 2 rfl) ?_
  refine lv_iconst (v := 1) hx hb dX0_listSlips_7 (by decide) ?_
  refine lv_iadd hx hb dX0_listSlips_8 ?_
  refine lv_topi (fun v_2 e_ => ?_)
  replace hf := lt_to e_ hf
  clear e_
  refine lv_istore_n (lv' := [(3, .int v_2), (2, .int r_1), (0, .ref (a_bo 0)), (1, .int p1)]) hx hb dX0_listSlips_9 rfl hl (by decide) rfl (fun ls hl => ?_)
  exact L_10 FU p1 r_1 v_2 bo _ _ _ (lv_sub hl [2, 3, 1, 0] rfl) hI hf
abbrev rm_X0_stepsWith : Room := { frames := 0, cells := 0, slots := 0, locals := 0 }
set_option maxRecDepth 20000 in
theorem c_X0_stepsWith (l : Launch) (g : GT) (a_bo : Nat → Nat) (q_bo_rings : Nat) (bo : BoS) (p1 : Int32) (p2 : Int32) (r_ : Int32) (hf : f_X0_stepsWith bo p1 p2 = some (r_)) : CI l yX0_stepsWith cX0_stepsWith 3 (some .int) rm_X0_stepsWith g [.ref (a_bo 0), .int p1, .int p2] (wBo g a_bo q_bo_rings bo ++ []) (wBo g a_bo q_bo_rings bo ++ []) r_ := by
  refine start2 (y := yX0_stepsWith) (cc := cX0_stepsWith) (n := 3) (av := [.ref (a_bo 0), .int p1, .int p2]) (ws := (wBo g a_bo q_bo_rings bo ++ [])) (Qc := fun sz => QI g (wBo g a_bo q_bo_rings bo ++ []) (wBo g a_bo q_bo_rings bo ++ []) r_ sz) (by decide) rfl ?_
  intro p e s m args below meth c ls Q A ha hQ hA X hl hI hin
  have X : Cx p s m args meth c cX0_stepsWith 3 RX0 (some .int) := X
  have hl : lv_has ls 3 [(0, .ref (a_bo 0)), (1, .int p1), (2, .int p2)] := hl
  obtain ⟨hx, hb, hml, hown, ht, hr, hlk⟩ := id X
  clear ha hin
  unfold f_X0_stepsWith at hf
  refine lv_aload_n hx hb dX0_stepsWith_0 rfl (lv_at hl 0 rfl) ?_
  refine g_Bo_overByUnder X hI has_Bo.l (X.fl w_551) dX0_stepsWith_1 ?_
  refine lv_iload_n hx hb dX0_stepsWith_4 rfl (lv_at hl 1 rfl) ?_
  obtain ⟨h_, hf⟩ := ck_someM hf
  refine ld_I X hI has_Bo_overByUnder.l h_ dX0_stepsWith_5 ?_
  refine lv_aload_n hx hb dX0_stepsWith_6 rfl (lv_at hl 0 rfl) ?_
  refine g_Bo_underByUnder X hI has_Bo.l (X.fl w_552) dX0_stepsWith_7 ?_
  refine lv_iload_n hx hb dX0_stepsWith_10 rfl (lv_at hl 2 rfl) ?_
  obtain ⟨h_, hf⟩ := ck_someM hf
  refine ld_I X hI has_Bo_underByUnder.l h_ dX0_stepsWith_11 ?_
  refine lv_iand hx hb dX0_stepsWith_12 ?_
  refine lv_iconst (v := 1) hx hb dX0_stepsWith_13 (by decide) ?_
  refine lv_iload_n hx hb dX0_stepsWith_14 rfl (lv_at hl 1 rfl) ?_
  refine lv_ishl hx hb dX0_stepsWith_15 ?_
  refine lv_iconst (v := (-1)) hx hb dX0_stepsWith_16 (by decide) ?_
  refine lv_ixor hx hb dX0_stepsWith_17 ?_
  refine lv_iand hx hb dX0_stepsWith_18 ?_
  refine lv_iconst (v := 1) hx hb dX0_stepsWith_19 (by decide) ?_
  refine lv_iload_n hx hb dX0_stepsWith_20 rfl (lv_at hl 2 rfl) ?_
  refine lv_ishl hx hb dX0_stepsWith_21 ?_
  refine lv_iconst (v := (-1)) hx hb dX0_stepsWith_22 (by decide) ?_
  refine lv_ixor hx hb dX0_stepsWith_23 ?_
  refine lv_iand hx hb dX0_stepsWith_24 ?_
  cases hf
  exact end_i hQ hA X hI dX0_stepsWith_25
abbrev rm_X0_listSteps : Room := { frames := 2, cells := 0, slots := 0, locals := 46 }
set_option maxRecDepth 20000 in
theorem c_X0_listSteps (l : Launch) (g : GT) (a_bo : Nat → Nat) (a_ri : Nat → Nat) (bo : BoS) (ri : RiS) (p1 : Int32) (o_bo : BoS) (hf : f_X0_listSteps bo ri p1 = some (o_bo)) : CV l yX0_listSteps cX0_listSteps 5 none rm_X0_listSteps g [.ref (a_bo 0), .int p1] (wBo g a_bo (a_ri 0) bo ++ (wRi g a_ri ri ++ [])) (wBo g a_bo (a_ri 0) o_bo ++ (wRi g a_ri ri ++ [])) := by
  refine start2 (y := yX0_listSteps) (cc := cX0_listSteps) (n := 5) (av := [.ref (a_bo 0), .int p1]) (ws := (wBo g a_bo (a_ri 0) bo ++ (wRi g a_ri ri ++ []))) (Qc := fun sz => QV g (wBo g a_bo (a_ri 0) bo ++ (wRi g a_ri ri ++ [])) (wBo g a_bo (a_ri 0) o_bo ++ (wRi g a_ri ri ++ [])) sz) (by decide) rfl ?_
  intro p e s m args below meth c ls Q A ha hQ hA X hl hI hin
  have X : Cx p s m args meth c cX0_listSteps 5 RX0 none := X
  have hl : lv_has ls 5 [(0, .ref (a_bo 0)), (1, .int p1)] := hl
  obtain ⟨hx, hb, hml, hown, ht, hr, hlk⟩ := id X
  clear ha hin
  have L_119 : ∀ (x1 : Int32) (x2 : Int32) (x3 : Int32) (x4 : Int32) (bo : BoS) (k64 : (Int32) → (Int32) → (Int32) → (Int32) → (BoS) → (RiS) → Option ((BoS))) (H : Heap) (locs : List Loc) (ls : Array Slot), lv_has ls 5 [(0, .ref (a_bo 0)), (1, .int x1), (2, .int x2), (3, .int x3), (4, .int x4)] → In g A s.heap s (wBo g a_bo (a_ri 0) bo ++ (wRi g a_ri ri ++ [])) H locs → f_X0_listSteps_L119 x1 x2 x3 x4 bo ri k64 = some (o_bo) → (∀ (x1 : Int32) (x2 : Int32) (x3 : Int32) (x4 : Int32) (bo : BoS) (H : Heap) (locs : List Loc) (ls : Array Slot), lv_has ls 5 [(0, .ref (a_bo 0)), (1, .int x1), (2, .int x2), (3, .int x3), (4, .int x4)] → In g A s.heap s (wBo g a_bo (a_ri 0) bo ++ (wRi g a_ri ri ++ [])) H locs → k64 x1 x2 x3 x4 bo ri = some (o_bo) → W p l e rm_X0_listSteps s m args below meth c H locs 0 0 Q (F0 m 64 ls [])) → W p l e rm_X0_listSteps s m args below meth c H locs 0 0 Q (F0 m 119 ls []) := by
    intro x1 x2 x3 x4 bo k64 H locs ls hl hI hf hk64
    unfold f_X0_listSteps_L119 at hf
    obtain ⟨v_7, e_⟩ : ∃ y : Int32, y = (x4 + (1 : Int32)) := ⟨_, rfl⟩
    replace hf := lt_to e_ hf
    refine lv_iinc (v := v_7) (lv' := [(4, .int v_7), (0, .ref (a_bo 0)), (1, .int x1), (2, .int x2), (3, .int x3)]) hx hb dX0_listSteps_119 hl (k := 4) rfl (by rw [e_]; rfl) (by decide) rfl (fun ls hl => ?_)
    clear e_
    refine lv_goto (tgt := 64) hx hb dX0_listSteps_122 (by decide) ?_
    exact hk64 x1 x2 x3 v_7 bo _ _ _ (lv_sub hl [1, 2, 3, 4, 0] rfl) hI hf
  have L_125 : ∀ (x1 : Int32) (x2 : Int32) (bo : BoS) (k21 : (Int32) → (Int32) → (BoS) → (RiS) → Option ((BoS))) (H : Heap) (locs : List Loc) (ls : Array Slot), lv_has ls 5 [(0, .ref (a_bo 0)), (1, .int x1), (2, .int x2)] → In g A s.heap s (wBo g a_bo (a_ri 0) bo ++ (wRi g a_ri ri ++ [])) H locs → f_X0_listSteps_L125 x1 x2 bo ri k21 = some (o_bo) → (∀ (x1 : Int32) (x2 : Int32) (bo : BoS) (H : Heap) (locs : List Loc) (ls : Array Slot), lv_has ls 5 [(0, .ref (a_bo 0)), (1, .int x1), (2, .int x2)] → In g A s.heap s (wBo g a_bo (a_ri 0) bo ++ (wRi g a_ri ri ++ [])) H locs → k21 x1 x2 bo ri = some (o_bo) → W p l e rm_X0_listSteps s m args below meth c H locs 0 0 Q (F0 m 21 ls [])) → W p l e rm_X0_listSteps s m args below meth c H locs 0 0 Q (F0 m 125 ls []) := by
    intro x1 x2 bo k21 H locs ls hl hI hf hk21
    unfold f_X0_listSteps_L125 at hf
    obtain ⟨v_6, e_⟩ : ∃ y : Int32, y = (x2 + (1 : Int32)) := ⟨_, rfl⟩
    replace hf := lt_to e_ hf
    refine lv_iinc (v := v_6) (lv' := [(2, .int v_6), (0, .ref (a_bo 0)), (1, .int x1)]) hx hb dX0_listSteps_125 hl (k := 2) rfl (by rw [e_]; rfl) (by decide) rfl (fun ls hl => ?_)
    clear e_
    refine lv_goto (tgt := 21) hx hb dX0_listSteps_128 (by decide) ?_
    exact hk21 x1 v_6 bo _ _ _ (lv_sub hl [1, 2, 0] rfl) hI hf
  have L_64 : ∀ (n_ : Nat) (x1 : Int32) (x2 : Int32) (x3 : Int32) (x4 : Int32) (bo : BoS) (k21 : (Int32) → (Int32) → (BoS) → (RiS) → Option ((BoS))) (H : Heap) (locs : List Loc) (ls : Array Slot), lv_has ls 5 [(0, .ref (a_bo 0)), (1, .int x1), (2, .int x2), (3, .int x3), (4, .int x4)] → In g A s.heap s (wBo g a_bo (a_ri 0) bo ++ (wRi g a_ri ri ++ [])) H locs → f_X0_listSteps_L64 n_ x1 x2 x3 x4 bo ri k21 = some (o_bo) → (∀ (x1 : Int32) (x2 : Int32) (bo : BoS) (H : Heap) (locs : List Loc) (ls : Array Slot), lv_has ls 5 [(0, .ref (a_bo 0)), (1, .int x1), (2, .int x2)] → In g A s.heap s (wBo g a_bo (a_ri 0) bo ++ (wRi g a_ri ri ++ [])) H locs → k21 x1 x2 bo ri = some (o_bo) → W p l e rm_X0_listSteps s m args below meth c H locs 0 0 Q (F0 m 21 ls [])) → W p l e rm_X0_listSteps s m args below meth c H locs 0 0 Q (F0 m 64 ls []) := by
    intro n_
    induction n_ with
    | zero =>
      intro x1 x2 x3 x4 bo k21 H locs ls hl hI hf hk21
      rw [f_X0_listSteps_L64] at hf
      cases hf
    | succ n_ ih =>
      intro x1 x2 x3 x4 bo k21 H locs ls hl hI hf hk21
      rw [f_X0_listSteps_L64] at hf
      refine lv_iload_n hx hb dX0_listSteps_64 rfl (lv_at hl 3 rfl) ?_
      refine lv_if_eq (tgt := 125) hx hb dX0_listSteps_65 (by decide) (fun h_ => ?_) (fun h_ => ?_)
      · replace hf := if_t h_ hf
        exact L_125 x1 x2 bo _ _ _ _ (lv_sub hl [0, 1, 2] rfl) hI hf hk21
      · replace hf := if_f h_ hf
        refine lv_iload hx hb dX0_listSteps_68 (lv_at hl 4 rfl) ?_
        refine lv_aload_n hx hb dX0_listSteps_70 rfl (lv_at hl 0 rfl) ?_
        refine g_Bo_rings X hI has_Bo.l (X.fl w_537) dX0_listSteps_71 ?_
        refine g_Ri_crossings X hI has_Ri.l.r (hI.fn (List.mem_of_getElem? (i := 31) rfl)) dX0_listSteps_74 ?_
        refine lv_icmp_ge (tgt := 125) hx hb dX0_listSteps_77 (by decide) (fun h_ => ?_) (fun h_ => ?_)
        · replace hf := if_t h_ hf
          exact L_125 x1 x2 bo _ _ _ _ (lv_sub hl [0, 1, 2] rfl) hI hf hk21
        · replace hf := if_f h_ hf
          refine lv_iload_n hx hb dX0_listSteps_80 rfl (lv_at hl 3 rfl) ?_
          refine lv_iload hx hb dX0_listSteps_81 (lv_at hl 4 rfl) ?_
          obtain ⟨r_3, hc_, hf⟩ := bd1_some hf
          refine call_Si X hI Cj.nil (c_X0_has l g x3 x4 r_3 hc_) ⟨rfl, rfl⟩ ⟨ht _ w_964, w_966, ht _ w_150, lk_X0_has⟩ w_965 rfl hl rfl rfl dX0_listSteps_83 rfl rfl rfl rfl (fun H locs hI => ?_)
          refine lv_if_eq (tgt := 119) hx hb dX0_listSteps_86 (by decide) (fun h_ => ?_) (fun h_ => ?_)
          · replace hf := if_t h_ hf
            exact L_119 x1 x2 x3 x4 bo _ _ _ _ hl hI hf (fun z_0 z_1 z_2 z_3 z_4 _ _ _ hl hI hf => ih z_0 z_1 z_2 z_3 z_4 k21 _ _ _ hl hI hf hk21)
          · replace hf := if_f h_ hf
            refine lv_aload_n hx hb dX0_listSteps_89 rfl (lv_at hl 0 rfl) ?_
            refine lv_iload_n hx hb dX0_listSteps_90 rfl (lv_at hl 2 rfl) ?_
            refine lv_iload hx hb dX0_listSteps_91 (lv_at hl 4 rfl) ?_
            obtain ⟨r_4, hc_, hf⟩ := bd1_some hf
            refine call_Vi X hI (Cj.keep (Cj.keep Cj.id)) (c_X0_fits l g a_bo a_ri bo ri x2 x4 r_4 hc_) ⟨rfl, rfl⟩ ⟨ht _ w_979, w_982, ht _ w_150, lk_X0_fits⟩ w_981 w_33 rfl rfl rfl hl rfl rfl dX0_listSteps_93 rfl rfl rfl rfl (fun H locs hI => ?_)
            refine lv_if_eq (tgt := 119) hx hb dX0_listSteps_96 (by decide) (fun h_ => ?_) (fun h_ => ?_)
            · replace hf := if_t h_ hf
              exact L_119 x1 x2 x3 x4 bo _ _ _ _ hl hI hf (fun z_0 z_1 z_2 z_3 z_4 _ _ _ hl hI hf => ih z_0 z_1 z_2 z_3 z_4 k21 _ _ _ hl hI hf hk21)
            · replace hf := if_f h_ hf
              refine lv_aload_n hx hb dX0_listSteps_99 rfl (lv_at hl 0 rfl) ?_
              refine lv_sipush (v := 1000) hx hb dX0_listSteps_100 (by decide) ?_
              refine lv_bipush (v := 100) hx hb dX0_listSteps_103 (by decide) ?_
              refine lv_iload_n hx hb dX0_listSteps_105 rfl (lv_at hl 1 rfl) ?_
              refine lv_imul hx hb dX0_listSteps_106 ?_
              refine lv_iadd hx hb dX0_listSteps_107 ?_
              refine lv_bipush (v := 10) hx hb dX0_listSteps_108 (by decide) ?_
              refine lv_iload_n hx hb dX0_listSteps_110 rfl (lv_at hl 2 rfl) ?_
              refine lv_imul hx hb dX0_listSteps_111 ?_
              refine lv_iadd hx hb dX0_listSteps_112 ?_
              refine lv_iload hx hb dX0_listSteps_113 (lv_at hl 4 rfl) ?_
              refine lv_iadd hx hb dX0_listSteps_115 ?_
              obtain ⟨bo_5, hc_, hf⟩ := bd1_some hf
              refine call_Vv X hI (Cj.keep Cj.nil) (c_X0_addNumber l g a_bo (a_ri 0) bo ((((1000 : Int32) + ((100 : Int32) * x1)) + ((10 : Int32) * x2)) + x4) bo_5 hc_) ⟨rfl, rfl⟩ ⟨ht _ w_967, w_970, ht _ w_150, lk_X0_addNumber⟩ w_969 w_30 rfl rfl rfl hl rfl rfl dX0_listSteps_116 rfl rfl rfl rfl (fun H locs hI => ?_)
              exact L_119 x1 x2 x3 x4 bo_5 _ _ _ _ hl hI hf (fun z_0 z_1 z_2 z_3 z_4 _ _ _ hl hI hf => ih z_0 z_1 z_2 z_3 z_4 k21 _ _ _ hl hI hf hk21)
  have L_60 : ∀ (x1 : Int32) (x2 : Int32) (t0i : Int32) (bo : BoS) (k21 : (Int32) → (Int32) → (BoS) → (RiS) → Option ((BoS))) (H : Heap) (locs : List Loc) (ls : Array Slot), lv_has ls 5 [(0, .ref (a_bo 0)), (1, .int x1), (2, .int x2)] → In g A s.heap s (wBo g a_bo (a_ri 0) bo ++ (wRi g a_ri ri ++ [])) H locs → f_X0_listSteps_L60 x1 x2 t0i bo ri k21 = some (o_bo) → (∀ (x1 : Int32) (x2 : Int32) (bo : BoS) (H : Heap) (locs : List Loc) (ls : Array Slot), lv_has ls 5 [(0, .ref (a_bo 0)), (1, .int x1), (2, .int x2)] → In g A s.heap s (wBo g a_bo (a_ri 0) bo ++ (wRi g a_ri ri ++ [])) H locs → k21 x1 x2 bo ri = some (o_bo) → W p l e rm_X0_listSteps s m args below meth c H locs 0 0 Q (F0 m 21 ls [])) → W p l e rm_X0_listSteps s m args below meth c H locs 0 0 Q (F0 m 60 ls [.int t0i]) := by
    intro x1 x2 t0i bo k21 H locs ls hl hI hf hk21
    unfold f_X0_listSteps_L60 at hf
    refine lv_istore_n (lv' := [(3, .int t0i), (0, .ref (a_bo 0)), (1, .int x1), (2, .int x2)]) hx hb dX0_listSteps_60 rfl hl (by decide) rfl (fun ls hl => ?_)
    refine lv_iconst (v := 0) hx hb dX0_listSteps_61 (by decide) ?_
    refine lv_istore (lv' := [(4, .int (0 : Int32)), (3, .int t0i), (0, .ref (a_bo 0)), (1, .int x1), (2, .int x2)]) hx hb dX0_listSteps_62 hl (by decide) rfl (fun ls hl => ?_)
    exact L_64 FU x1 x2 t0i (0 : Int32) bo _ _ _ _ (lv_sub hl [2, 3, 4, 1, 0] rfl) hI hf hk21
  have L_59 : ∀ (x1 : Int32) (x2 : Int32) (bo : BoS) (k21 : (Int32) → (Int32) → (BoS) → (RiS) → Option ((BoS))) (H : Heap) (locs : List Loc) (ls : Array Slot), lv_has ls 5 [(0, .ref (a_bo 0)), (1, .int x1), (2, .int x2)] → In g A s.heap s (wBo g a_bo (a_ri 0) bo ++ (wRi g a_ri ri ++ [])) H locs → f_X0_listSteps_L59 x1 x2 bo ri k21 = some (o_bo) → (∀ (x1 : Int32) (x2 : Int32) (bo : BoS) (H : Heap) (locs : List Loc) (ls : Array Slot), lv_has ls 5 [(0, .ref (a_bo 0)), (1, .int x1), (2, .int x2)] → In g A s.heap s (wBo g a_bo (a_ri 0) bo ++ (wRi g a_ri ri ++ [])) H locs → k21 x1 x2 bo ri = some (o_bo) → W p l e rm_X0_listSteps s m args below meth c H locs 0 0 Q (F0 m 21 ls [])) → W p l e rm_X0_listSteps s m args below meth c H locs 0 0 Q (F0 m 59 ls []) := by
    intro x1 x2 bo k21 H locs ls hl hI hf hk21
    unfold f_X0_listSteps_L59 at hf
    refine lv_iconst (v := 0) hx hb dX0_listSteps_59 (by decide) ?_
    exact L_60 x1 x2 (0 : Int32) bo _ _ _ _ hl hI hf hk21
  have L_21 : ∀ (n_ : Nat) (x1 : Int32) (x2 : Int32) (bo : BoS) (H : Heap) (locs : List Loc) (ls : Array Slot), lv_has ls 5 [(0, .ref (a_bo 0)), (1, .int x1), (2, .int x2)] → In g A s.heap s (wBo g a_bo (a_ri 0) bo ++ (wRi g a_ri ri ++ [])) H locs → f_X0_listSteps_L21 n_ x1 x2 bo ri = some (o_bo) → W p l e rm_X0_listSteps s m args below meth c H locs 0 0 Q (F0 m 21 ls []) := by
    intro n_
    induction n_ with
    | zero =>
      intro x1 x2 bo H locs ls hl hI hf
      rw [f_X0_listSteps_L21] at hf
      cases hf
    | succ n_ ih =>
      intro x1 x2 bo H locs ls hl hI hf
      rw [f_X0_listSteps_L21] at hf
      refine lv_iload_n hx hb dX0_listSteps_21 rfl (lv_at hl 2 rfl) ?_
      refine lv_aload_n hx hb dX0_listSteps_22 rfl (lv_at hl 0 rfl) ?_
      refine g_Bo_rings X hI has_Bo.l (X.fl w_537) dX0_listSteps_23 ?_
      refine g_Ri_crossings X hI has_Ri.l.r (hI.fn (List.mem_of_getElem? (i := 31) rfl)) dX0_listSteps_26 ?_
      refine lv_icmp_ge (tgt := 131) hx hb dX0_listSteps_29 (by decide) (fun h_ => ?_) (fun h_ => ?_)
      · replace hf := if_t h_ hf
        cases hf
        exact end_v hQ hA X hI dX0_listSteps_131
      · replace hf := if_f h_ hf
        refine lv_aload_n hx hb dX0_listSteps_32 rfl (lv_at hl 0 rfl) ?_
        refine g_Bo_overByOver X hI has_Bo.l (X.fl w_550) dX0_listSteps_33 ?_
        refine lv_iload_n hx hb dX0_listSteps_36 rfl (lv_at hl 1 rfl) ?_
        obtain ⟨h_, hf⟩ := ck_someM hf
        refine ld_I X hI has_Bo_overByOver.l h_ dX0_listSteps_37 ?_
        refine lv_iload_n hx hb dX0_listSteps_38 rfl (lv_at hl 2 rfl) ?_
        obtain ⟨r_1, hc_, hf⟩ := bd1_some hf
        refine call_Si X hI Cj.nil (c_X0_has l g (Bo_overByOver bo (Int32.toNatClampNeg x1)) x2 r_1 hc_) ⟨rfl, rfl⟩ ⟨ht _ w_964, w_966, ht _ w_150, lk_X0_has⟩ w_965 rfl hl rfl rfl dX0_listSteps_39 rfl rfl rfl rfl (fun H locs hI => ?_)
        refine lv_if_eq (tgt := 59) hx hb dX0_listSteps_42 (by decide) (fun h_ => ?_) (fun h_ => ?_)
        · replace hf := if_t h_ hf
          exact L_59 x1 x2 bo _ _ _ _ hl hI hf (fun z_0 z_1 z_2 _ _ _ hl hI hf => ih z_0 z_1 z_2 _ _ _ hl hI hf)
        · replace hf := if_f h_ hf
          refine lv_iload_n hx hb dX0_listSteps_45 rfl (lv_at hl 2 rfl) ?_
          refine lv_iload_n hx hb dX0_listSteps_46 rfl (lv_at hl 1 rfl) ?_
          refine lv_icmp_eq (tgt := 59) hx hb dX0_listSteps_47 (by decide) (fun h_ => ?_) (fun h_ => ?_)
          · replace hf := if_t h_ hf
            exact L_59 x1 x2 bo _ _ _ _ hl hI hf (fun z_0 z_1 z_2 _ _ _ hl hI hf => ih z_0 z_1 z_2 _ _ _ hl hI hf)
          · replace hf := if_f h_ hf
            refine lv_aload_n hx hb dX0_listSteps_50 rfl (lv_at hl 0 rfl) ?_
            refine lv_iload_n hx hb dX0_listSteps_51 rfl (lv_at hl 1 rfl) ?_
            refine lv_iload_n hx hb dX0_listSteps_52 rfl (lv_at hl 2 rfl) ?_
            obtain ⟨r_2, hc_, hf⟩ := bd1_some hf
            refine call_Vi X hI (Cj.keep Cj.nil) (c_X0_stepsWith l g a_bo (a_ri 0) bo x1 x2 r_2 hc_) ⟨rfl, rfl⟩ ⟨ht _ w_991, w_994, ht _ w_150, lk_X0_stepsWith⟩ w_993 w_36 rfl rfl rfl hl rfl rfl dX0_listSteps_53 rfl rfl rfl rfl (fun H locs hI => ?_)
            refine lv_goto (tgt := 60) hx hb dX0_listSteps_56 (by decide) ?_
            exact L_60 x1 x2 r_2 bo _ _ _ _ hl hI hf (fun z_0 z_1 z_2 _ _ _ hl hI hf => ih z_0 z_1 z_2 _ _ _ hl hI hf)
  unfold f_X0_listSteps at hf
  refine lv_aload_n hx hb dX0_listSteps_0 rfl (lv_at hl 0 rfl) ?_
  refine g_Bo_overByOver X hI has_Bo.l (X.fl w_550) dX0_listSteps_1 ?_
  refine lv_iload_n hx hb dX0_listSteps_4 rfl (lv_at hl 1 rfl) ?_
  obtain ⟨h_, hf⟩ := ck_someM hf
  refine ld_I X hI has_Bo_overByOver.l h_ dX0_listSteps_5 ?_
  refine lv_if_eq (tgt := 18) hx hb dX0_listSteps_6 (by decide) (fun h_ => ?_) (fun h_ => ?_)
  · replace hf := if_t h_ hf
    cases hf
    exact end_v hQ hA X hI dX0_listSteps_18
  · replace hf := if_f h_ hf
    refine lv_aload_n hx hb dX0_listSteps_9 rfl (lv_at hl 0 rfl) ?_
    refine g_Bo_overByUnder X hI has_Bo.l (X.fl w_551) dX0_listSteps_10 ?_
    refine lv_iload_n hx hb dX0_listSteps_13 rfl (lv_at hl 1 rfl) ?_
    obtain ⟨h_, hf⟩ := ck_someM hf
    refine ld_I X hI has_Bo_overByUnder.l h_ dX0_listSteps_14 ?_
    refine lv_if_ne (tgt := 19) hx hb dX0_listSteps_15 (by decide) (fun h_ => ?_) (fun h_ => ?_)
    · replace hf := if_f h_ hf
      refine lv_iconst (v := 0) hx hb dX0_listSteps_19 (by decide) ?_
      refine lv_istore_n (lv' := [(2, .int (0 : Int32)), (0, .ref (a_bo 0)), (1, .int p1)]) hx hb dX0_listSteps_20 rfl hl (by decide) rfl (fun ls hl => ?_)
      exact L_21 FU p1 (0 : Int32) bo _ _ _ (lv_sub hl [1, 2, 0] rfl) hI hf
    · replace hf := if_t h_ hf
      cases hf
      exact end_v hQ hA X hI dX0_listSteps_18
abbrev rm_X0_layOut : Room := { frames := 3, cells := 0, slots := 0, locals := 70 }
set_option maxRecDepth 20000 in
theorem c_X0_layOut (l : Launch) (g : GT) (a_bo : Nat → Nat) (a_ri : Nat → Nat) (bo : BoS) (ri : RiS) (p1 : Int64) (p3 : Int32) (p4 : Int32) (o_bo : BoS) (hf : f_X0_layOut bo ri p1 p3 p4 = some (o_bo)) : CV l yX0_layOut cX0_layOut 7 none rm_X0_layOut g [.ref (a_bo 0), .long p1, .int p3, .int p4] (wBo g a_bo (a_ri 0) bo ++ (wRi g a_ri ri ++ [])) (wBo g a_bo (a_ri 0) o_bo ++ (wRi g a_ri ri ++ [])) := by
  refine start2 (y := yX0_layOut) (cc := cX0_layOut) (n := 7) (av := [.ref (a_bo 0), .long p1, .int p3, .int p4]) (ws := (wBo g a_bo (a_ri 0) bo ++ (wRi g a_ri ri ++ []))) (Qc := fun sz => QV g (wBo g a_bo (a_ri 0) bo ++ (wRi g a_ri ri ++ [])) (wBo g a_bo (a_ri 0) o_bo ++ (wRi g a_ri ri ++ [])) sz) (by decide) rfl ?_
  intro p e s m args below meth c ls Q A ha hQ hA X hl hI hin
  have X : Cx p s m args meth c cX0_layOut 7 RX0 none := X
  have hl : lv_has ls 7 [(0, .ref (a_bo 0)), (1, .long p1), (3, .int p3), (4, .int p4)] := hl
  obtain ⟨hx, hb, hml, hown, ht, hr, hlk⟩ := id X
  clear ha hin
  have L_210 : ∀ (n_ : Nat) (x6 : Int32) (bo : BoS) (H : Heap) (locs : List Loc) (ls : Array Slot), lv_has ls 7 [(0, .ref (a_bo 0)), (6, .int x6)] → In g A s.heap s (wBo g a_bo (a_ri 0) bo ++ (wRi g a_ri ri ++ [])) H locs → f_X0_layOut_L210 n_ x6 bo ri = some (o_bo) → W p l e rm_X0_layOut s m args below meth c H locs 0 0 Q (F0 m 210 ls []) := by
    intro n_
    induction n_ with
    | zero =>
      intro x6 bo H locs ls hl hI hf
      rw [f_X0_layOut_L210] at hf
      cases hf
    | succ n_ ih =>
      intro x6 bo H locs ls hl hI hf
      rw [f_X0_layOut_L210] at hf
      refine lv_iload hx hb dX0_layOut_210 (lv_at hl 1 rfl) ?_
      refine lv_aload_n hx hb dX0_layOut_212 rfl (lv_at hl 0 rfl) ?_
      refine g_Bo_rings X hI has_Bo.l (X.fl w_537) dX0_layOut_213 ?_
      refine g_Ri_crossings X hI has_Ri.l.r (hI.fn (List.mem_of_getElem? (i := 31) rfl)) dX0_layOut_216 ?_
      refine lv_icmp_ge (tgt := 234) hx hb dX0_layOut_219 (by decide) (fun h_ => ?_) (fun h_ => ?_)
      · replace hf := if_t h_ hf
        cases hf
        exact end_v hQ hA X hI dX0_layOut_234
      · replace hf := if_f h_ hf
        refine lv_aload_n hx hb dX0_layOut_222 rfl (lv_at hl 0 rfl) ?_
        refine lv_iload hx hb dX0_layOut_223 (lv_at hl 1 rfl) ?_
        obtain ⟨bo_21, hc_, hf⟩ := bd1_some hf
        refine call_Vv X hI (Cj.keep (Cj.keep Cj.id)) (c_X0_listSteps l g a_bo a_ri bo ri x6 bo_21 hc_) ⟨rfl, rfl⟩ ⟨ht _ w_987, w_990, ht _ w_150, lk_X0_listSteps⟩ w_989 w_35 rfl rfl rfl hl rfl rfl dX0_layOut_225 rfl rfl rfl rfl (fun H locs hI => ?_)
        obtain ⟨v_22, e_⟩ : ∃ y : Int32, y = (x6 + (1 : Int32)) := ⟨_, rfl⟩
        replace hf := lt_to e_ hf
        refine lv_iinc (v := v_22) (lv' := [(6, .int v_22), (0, .ref (a_bo 0))]) hx hb dX0_layOut_228 hl (k := 1) rfl (by rw [e_]; rfl) (by decide) rfl (fun ls hl => ?_)
        clear e_
        refine lv_goto (tgt := 210) hx hb dX0_layOut_231 (by decide) ?_
        exact ih v_22 bo_21 _ _ _ (lv_sub hl [1, 0] rfl) hI hf
  have L_183 : ∀ (n_ : Nat) (x6 : Int32) (bo : BoS) (H : Heap) (locs : List Loc) (ls : Array Slot), lv_has ls 7 [(0, .ref (a_bo 0)), (6, .int x6)] → In g A s.heap s (wBo g a_bo (a_ri 0) bo ++ (wRi g a_ri ri ++ [])) H locs → f_X0_layOut_L183 n_ x6 bo ri = some (o_bo) → W p l e rm_X0_layOut s m args below meth c H locs 0 0 Q (F0 m 183 ls []) := by
    intro n_
    induction n_ with
    | zero =>
      intro x6 bo H locs ls hl hI hf
      rw [f_X0_layOut_L183] at hf
      cases hf
    | succ n_ ih =>
      intro x6 bo H locs ls hl hI hf
      rw [f_X0_layOut_L183] at hf
      refine lv_iload hx hb dX0_layOut_183 (lv_at hl 1 rfl) ?_
      refine lv_aload_n hx hb dX0_layOut_185 rfl (lv_at hl 0 rfl) ?_
      refine g_Bo_rings X hI has_Bo.l (X.fl w_537) dX0_layOut_186 ?_
      refine g_Ri_crossings X hI has_Ri.l.r (hI.fn (List.mem_of_getElem? (i := 31) rfl)) dX0_layOut_189 ?_
      refine lv_icmp_ge (tgt := 207) hx hb dX0_layOut_192 (by decide) (fun h_ => ?_) (fun h_ => ?_)
      · replace hf := if_t h_ hf
        refine lv_iconst (v := 0) hx hb dX0_layOut_207 (by decide) ?_
        refine lv_istore (lv' := [(6, .int (0 : Int32)), (0, .ref (a_bo 0))]) hx hb dX0_layOut_208 hl (by decide) rfl (fun ls hl => ?_)
        exact L_210 FU (0 : Int32) bo _ _ _ (lv_sub hl [1, 0] rfl) hI hf
      · replace hf := if_f h_ hf
        refine lv_aload_n hx hb dX0_layOut_195 rfl (lv_at hl 0 rfl) ?_
        refine lv_iload hx hb dX0_layOut_196 (lv_at hl 1 rfl) ?_
        obtain ⟨bo_19, hc_, hf⟩ := bd1_some hf
        refine call_Vv X hI (Cj.keep (Cj.keep Cj.id)) (c_X0_listSlips l g a_bo a_ri bo ri x6 bo_19 hc_) ⟨rfl, rfl⟩ ⟨ht _ w_971, w_974, ht _ w_150, lk_X0_listSlips⟩ w_973 w_31 rfl rfl rfl hl rfl rfl dX0_layOut_198 rfl rfl rfl rfl (fun H locs hI => ?_)
        obtain ⟨v_20, e_⟩ : ∃ y : Int32, y = (x6 + (1 : Int32)) := ⟨_, rfl⟩
        replace hf := lt_to e_ hf
        refine lv_iinc (v := v_20) (lv' := [(6, .int v_20), (0, .ref (a_bo 0))]) hx hb dX0_layOut_201 hl (k := 1) rfl (by rw [e_]; rfl) (by decide) rfl (fun ls hl => ?_)
        clear e_
        refine lv_goto (tgt := 183) hx hb dX0_layOut_204 (by decide) ?_
        exact ih v_20 bo_19 _ _ _ (lv_sub hl [1, 0] rfl) hI hf
  have L_156 : ∀ (n_ : Nat) (x6 : Int32) (bo : BoS) (H : Heap) (locs : List Loc) (ls : Array Slot), lv_has ls 7 [(0, .ref (a_bo 0)), (6, .int x6)] → In g A s.heap s (wBo g a_bo (a_ri 0) bo ++ (wRi g a_ri ri ++ [])) H locs → f_X0_layOut_L156 n_ x6 bo ri = some (o_bo) → W p l e rm_X0_layOut s m args below meth c H locs 0 0 Q (F0 m 156 ls []) := by
    intro n_
    induction n_ with
    | zero =>
      intro x6 bo H locs ls hl hI hf
      rw [f_X0_layOut_L156] at hf
      cases hf
    | succ n_ ih =>
      intro x6 bo H locs ls hl hI hf
      rw [f_X0_layOut_L156] at hf
      refine lv_iload hx hb dX0_layOut_156 (lv_at hl 1 rfl) ?_
      refine lv_aload_n hx hb dX0_layOut_158 rfl (lv_at hl 0 rfl) ?_
      refine g_Bo_rings X hI has_Bo.l (X.fl w_537) dX0_layOut_159 ?_
      refine g_Ri_crossings X hI has_Ri.l.r (hI.fn (List.mem_of_getElem? (i := 31) rfl)) dX0_layOut_162 ?_
      refine lv_icmp_ge (tgt := 180) hx hb dX0_layOut_165 (by decide) (fun h_ => ?_) (fun h_ => ?_)
      · replace hf := if_t h_ hf
        refine lv_iconst (v := 0) hx hb dX0_layOut_180 (by decide) ?_
        refine lv_istore (lv' := [(6, .int (0 : Int32)), (0, .ref (a_bo 0))]) hx hb dX0_layOut_181 hl (by decide) rfl (fun ls hl => ?_)
        exact L_183 FU (0 : Int32) bo _ _ _ (lv_sub hl [1, 0] rfl) hI hf
      · replace hf := if_f h_ hf
        refine lv_aload_n hx hb dX0_layOut_168 rfl (lv_at hl 0 rfl) ?_
        refine lv_iload hx hb dX0_layOut_169 (lv_at hl 1 rfl) ?_
        obtain ⟨bo_17, hc_, hf⟩ := bd1_some hf
        refine call_Vv X hI (Cj.keep Cj.nil) (c_X0_listTurn l g a_bo (a_ri 0) bo x6 bo_17 hc_) ⟨rfl, rfl⟩ ⟨ht _ w_960, w_963, ht _ w_150, lk_X0_listTurn⟩ w_962 w_29 rfl rfl rfl hl rfl rfl dX0_layOut_171 rfl rfl rfl rfl (fun H locs hI => ?_)
        obtain ⟨v_18, e_⟩ : ∃ y : Int32, y = (x6 + (1 : Int32)) := ⟨_, rfl⟩
        replace hf := lt_to e_ hf
        refine lv_iinc (v := v_18) (lv' := [(6, .int v_18), (0, .ref (a_bo 0))]) hx hb dX0_layOut_174 hl (k := 1) rfl (by rw [e_]; rfl) (by decide) rfl (fun ls hl => ?_)
        clear e_
        refine lv_goto (tgt := 156) hx hb dX0_layOut_177 (by decide) ?_
        exact ih v_18 bo_17 _ _ _ (lv_sub hl [1, 0] rfl) hI hf
  have L_89 : ∀ (n_ : Nat) (x5 : Int32) (x6 : Int32) (bo : BoS) (H : Heap) (locs : List Loc) (ls : Array Slot), lv_has ls 7 [(0, .ref (a_bo 0)), (5, .int x5), (6, .int x6)] → In g A s.heap s (wBo g a_bo (a_ri 0) bo ++ (wRi g a_ri ri ++ [])) H locs → f_X0_layOut_L89 n_ x5 x6 bo ri = some (o_bo) → W p l e rm_X0_layOut s m args below meth c H locs 0 0 Q (F0 m 89 ls []) := by
    intro n_
    induction n_ with
    | zero =>
      intro x5 x6 bo H locs ls hl hI hf
      rw [f_X0_layOut_L89] at hf
      cases hf
    | succ n_ ih =>
      intro x5 x6 bo H locs ls hl hI hf
      rw [f_X0_layOut_L89] at hf
      refine lv_iload hx hb dX0_layOut_89 (lv_at hl 2 rfl) ?_
      refine lv_aload_n hx hb dX0_layOut_91 rfl (lv_at hl 0 rfl) ?_
      refine g_Bo_rings X hI has_Bo.l (X.fl w_537) dX0_layOut_92 ?_
      refine g_Ri_count X hI has_Ri.l.r (hI.fn (List.mem_of_getElem? (i := 36) rfl)) dX0_layOut_95 ?_
      refine lv_icmp_ge (tgt := 126) hx hb dX0_layOut_98 (by decide) (fun h_ => ?_) (fun h_ => ?_)
      · replace hf := if_t h_ hf
        refine lv_aload_n hx hb dX0_layOut_126 rfl (lv_at hl 0 rfl) ?_
        refine g_Bo_walkStart X hI has_Bo.l (X.fl w_548) dX0_layOut_127 ?_
        refine lv_aload_n hx hb dX0_layOut_130 rfl (lv_at hl 0 rfl) ?_
        refine g_Bo_rings X hI has_Bo.l (X.fl w_537) dX0_layOut_131 ?_
        refine g_Ri_count X hI has_Ri.l.r (hI.fn (List.mem_of_getElem? (i := 36) rfl)) dX0_layOut_134 ?_
        refine lv_iload hx hb dX0_layOut_137 (lv_at hl 1 rfl) ?_
        obtain ⟨h_, hf⟩ := ck_someM hf
        refine st_I X hI up_Bo_walkStart.l h_ dX0_layOut_139 (fun H locs hI => ?_)
        generalize hz_ : (Bo_walkStart' bo (upd (Bo_walkStart bo) (Int32.toNatClampNeg (Ri_count ri)) x5)) = bo_10 at hI hf
        clear hz_
        replace hf := lt_e hf
        refine lv_aload_n hx hb dX0_layOut_140 rfl (lv_at hl 0 rfl) ?_
        refine lv_iload hx hb dX0_layOut_141 (lv_at hl 1 rfl) ?_
        refine lv_iconst (v := 2) hx hb dX0_layOut_143 (by decide) ?_
        refine lv_idiv hx hb dX0_layOut_144 (by decide) ?_
        refine p_Bo_left X hI up_Bo_left.l (X.fl w_543) dX0_layOut_145 (fun H locs hI => ?_)
        generalize hz_ : (Bo_left' bo_10 (x5 / (2 : Int32))) = bo_11 at hI hf
        clear hz_
        replace hf := lt_e hf
        refine lv_aload_n hx hb dX0_layOut_148 rfl (lv_at hl 0 rfl) ?_
        refine lv_iconst (v := 0) hx hb dX0_layOut_149 (by decide) ?_
        refine p_Bo_count X hI up_Bo_count.l (X.fl w_559) dX0_layOut_150 (fun H locs hI => ?_)
        generalize hz_ : (Bo_count' bo_11 (0 : Int32)) = bo_12 at hI hf
        clear hz_
        replace hf := lt_e hf
        refine lv_iconst (v := 0) hx hb dX0_layOut_153 (by decide) ?_
        refine lv_istore (lv' := [(6, .int (0 : Int32)), (0, .ref (a_bo 0)), (5, .int x5)]) hx hb dX0_layOut_154 hl (by decide) rfl (fun ls hl => ?_)
        exact L_156 FU (0 : Int32) bo_12 _ _ _ (lv_sub hl [1, 0] rfl) hI hf
      · replace hf := if_f h_ hf
        refine lv_aload_n hx hb dX0_layOut_101 rfl (lv_at hl 0 rfl) ?_
        refine g_Bo_walkStart X hI has_Bo.l (X.fl w_548) dX0_layOut_102 ?_
        refine lv_iload hx hb dX0_layOut_105 (lv_at hl 2 rfl) ?_
        refine lv_iload hx hb dX0_layOut_107 (lv_at hl 1 rfl) ?_
        obtain ⟨h_, hf⟩ := ck_someM hf
        refine st_I X hI up_Bo_walkStart.l h_ dX0_layOut_109 (fun H locs hI => ?_)
        generalize hz_ : (Bo_walkStart' bo (upd (Bo_walkStart bo) (Int32.toNatClampNeg x6) x5)) = bo_13 at hI hf
        clear hz_
        replace hf := lt_e hf
        refine lv_aload_n hx hb dX0_layOut_110 rfl (lv_at hl 0 rfl) ?_
        refine lv_iload hx hb dX0_layOut_111 (lv_at hl 2 rfl) ?_
        refine lv_iload hx hb dX0_layOut_113 (lv_at hl 1 rfl) ?_
        obtain ⟨r_14, bo_15, hc_, hf⟩ := bd2_some hf
        refine call_Vi X hI (Cj.keep (Cj.keep Cj.id)) (c_X0_walkRound l g a_bo a_ri bo_13 ri x6 x5 r_14 bo_15 hc_) ⟨rfl, rfl⟩ ⟨ht _ w_944, w_947, ht _ w_150, lk_X0_walkRound⟩ w_946 w_27 rfl rfl rfl hl rfl rfl dX0_layOut_115 rfl rfl rfl rfl (fun H locs hI => ?_)
        refine lv_istore (lv' := [(5, .int r_14), (0, .ref (a_bo 0)), (6, .int x6)]) hx hb dX0_layOut_118 hl (by decide) rfl (fun ls hl => ?_)
        obtain ⟨v_16, e_⟩ : ∃ y : Int32, y = (x6 + (1 : Int32)) := ⟨_, rfl⟩
        replace hf := lt_to e_ hf
        refine lv_iinc (v := v_16) (lv' := [(6, .int v_16), (5, .int r_14), (0, .ref (a_bo 0))]) hx hb dX0_layOut_120 hl (k := 2) rfl (by rw [e_]; rfl) (by decide) rfl (fun ls hl => ?_)
        clear e_
        refine lv_goto (tgt := 89) hx hb dX0_layOut_123 (by decide) ?_
        exact ih r_14 v_16 bo_15 _ _ _ (lv_sub hl [2, 1, 0] rfl) hI hf
  have L_19 : ∀ (n_ : Nat) (x5 : Int32) (bo : BoS) (H : Heap) (locs : List Loc) (ls : Array Slot), lv_has ls 7 [(0, .ref (a_bo 0)), (5, .int x5)] → In g A s.heap s (wBo g a_bo (a_ri 0) bo ++ (wRi g a_ri ri ++ [])) H locs → f_X0_layOut_L19 n_ x5 bo ri = some (o_bo) → W p l e rm_X0_layOut s m args below meth c H locs 0 0 Q (F0 m 19 ls []) := by
    intro n_
    induction n_ with
    | zero =>
      intro x5 bo H locs ls hl hI hf
      rw [f_X0_layOut_L19] at hf
      cases hf
    | succ n_ ih =>
      intro x5 bo H locs ls hl hI hf
      rw [f_X0_layOut_L19] at hf
      refine lv_iload hx hb dX0_layOut_19 (lv_at hl 1 rfl) ?_
      refine lv_aload_n hx hb dX0_layOut_21 rfl (lv_at hl 0 rfl) ?_
      refine g_Bo_rings X hI has_Bo.l (X.fl w_537) dX0_layOut_22 ?_
      refine g_Ri_crossings X hI has_Ri.l.r (hI.fn (List.mem_of_getElem? (i := 31) rfl)) dX0_layOut_25 ?_
      refine lv_icmp_ge (tgt := 83) hx hb dX0_layOut_28 (by decide) (fun h_ => ?_) (fun h_ => ?_)
      · replace hf := if_t h_ hf
        refine lv_iconst (v := 0) hx hb dX0_layOut_83 (by decide) ?_
        refine lv_istore (lv' := [(5, .int (0 : Int32)), (0, .ref (a_bo 0))]) hx hb dX0_layOut_84 hl (by decide) rfl (fun ls hl => ?_)
        refine lv_iconst (v := 0) hx hb dX0_layOut_86 (by decide) ?_
        refine lv_istore (lv' := [(6, .int (0 : Int32)), (5, .int (0 : Int32)), (0, .ref (a_bo 0))]) hx hb dX0_layOut_87 hl (by decide) rfl (fun ls hl => ?_)
        exact L_89 FU (0 : Int32) (0 : Int32) bo _ _ _ (lv_sub hl [2, 1, 0] rfl) hI hf
      · replace hf := if_f h_ hf
        refine lv_aload_n hx hb dX0_layOut_31 rfl (lv_at hl 0 rfl) ?_
        refine g_Bo_standing X hI has_Bo.l (X.fl w_545) dX0_layOut_32 ?_
        refine lv_iconst (v := 2) hx hb dX0_layOut_35 (by decide) ?_
        refine lv_iload hx hb dX0_layOut_36 (lv_at hl 1 rfl) ?_
        refine lv_imul hx hb dX0_layOut_38 ?_
        refine lv_iconst (v := (-1)) hx hb dX0_layOut_39 (by decide) ?_
        obtain ⟨h_, hf⟩ := ck_someM hf
        refine st_I X hI up_Bo_standing.l h_ dX0_layOut_40 (fun H locs hI => ?_)
        generalize hz_ : (Bo_standing' bo (upd (Bo_standing bo) (Int32.toNatClampNeg ((2 : Int32) * x5)) (-1 : Int32))) = bo_4 at hI hf
        clear hz_
        replace hf := lt_e hf
        refine lv_aload_n hx hb dX0_layOut_41 rfl (lv_at hl 0 rfl) ?_
        refine g_Bo_standing X hI has_Bo.l (X.fl w_545) dX0_layOut_42 ?_
        refine lv_iconst (v := 2) hx hb dX0_layOut_45 (by decide) ?_
        refine lv_iload hx hb dX0_layOut_46 (lv_at hl 1 rfl) ?_
        refine lv_imul hx hb dX0_layOut_48 ?_
        refine lv_iconst (v := 1) hx hb dX0_layOut_49 (by decide) ?_
        refine lv_iadd hx hb dX0_layOut_50 ?_
        refine lv_iconst (v := (-1)) hx hb dX0_layOut_51 (by decide) ?_
        obtain ⟨h_, hf⟩ := ck_someM hf
        refine st_I X hI up_Bo_standing.l h_ dX0_layOut_52 (fun H locs hI => ?_)
        generalize hz_ : (Bo_standing' bo_4 (upd (Bo_standing bo_4) (Int32.toNatClampNeg (((2 : Int32) * x5) + (1 : Int32))) (-1 : Int32))) = bo_5 at hI hf
        clear hz_
        replace hf := lt_e hf
        refine lv_aload_n hx hb dX0_layOut_53 rfl (lv_at hl 0 rfl) ?_
        refine g_Bo_overByOver X hI has_Bo.l (X.fl w_550) dX0_layOut_54 ?_
        refine lv_iload hx hb dX0_layOut_57 (lv_at hl 1 rfl) ?_
        refine lv_iconst (v := 0) hx hb dX0_layOut_59 (by decide) ?_
        obtain ⟨h_, hf⟩ := ck_someM hf
        refine st_I X hI up_Bo_overByOver.l h_ dX0_layOut_60 (fun H locs hI => ?_)
        generalize hz_ : (Bo_overByOver' bo_5 (upd (Bo_overByOver bo_5) (Int32.toNatClampNeg x5) (0 : Int32))) = bo_6 at hI hf
        clear hz_
        replace hf := lt_e hf
        refine lv_aload_n hx hb dX0_layOut_61 rfl (lv_at hl 0 rfl) ?_
        refine g_Bo_overByUnder X hI has_Bo.l (X.fl w_551) dX0_layOut_62 ?_
        refine lv_iload hx hb dX0_layOut_65 (lv_at hl 1 rfl) ?_
        refine lv_iconst (v := 0) hx hb dX0_layOut_67 (by decide) ?_
        obtain ⟨h_, hf⟩ := ck_someM hf
        refine st_I X hI up_Bo_overByUnder.l h_ dX0_layOut_68 (fun H locs hI => ?_)
        generalize hz_ : (Bo_overByUnder' bo_6 (upd (Bo_overByUnder bo_6) (Int32.toNatClampNeg x5) (0 : Int32))) = bo_7 at hI hf
        clear hz_
        replace hf := lt_e hf
        refine lv_aload_n hx hb dX0_layOut_69 rfl (lv_at hl 0 rfl) ?_
        refine g_Bo_underByUnder X hI has_Bo.l (X.fl w_552) dX0_layOut_70 ?_
        refine lv_iload hx hb dX0_layOut_73 (lv_at hl 1 rfl) ?_
        refine lv_iconst (v := 0) hx hb dX0_layOut_75 (by decide) ?_
        obtain ⟨h_, hf⟩ := ck_someM hf
        refine st_I X hI up_Bo_underByUnder.l h_ dX0_layOut_76 (fun H locs hI => ?_)
        generalize hz_ : (Bo_underByUnder' bo_7 (upd (Bo_underByUnder bo_7) (Int32.toNatClampNeg x5) (0 : Int32))) = bo_8 at hI hf
        clear hz_
        replace hf := lt_e hf
        obtain ⟨v_9, e_⟩ : ∃ y : Int32, y = (x5 + (1 : Int32)) := ⟨_, rfl⟩
        replace hf := lt_to e_ hf
        refine lv_iinc (v := v_9) (lv' := [(5, .int v_9), (0, .ref (a_bo 0))]) hx hb dX0_layOut_77 hl (k := 1) rfl (by rw [e_]; rfl) (by decide) rfl (fun ls hl => ?_)
        clear e_
        refine lv_goto (tgt := 19) hx hb dX0_layOut_80 (by decide) ?_
        exact ih v_9 bo_8 _ _ _ (lv_sub hl [1, 0] rfl) hI hf
  unfold f_X0_layOut at hf
  refine lv_aload_n hx hb dX0_layOut_0 rfl (lv_at hl 0 rfl) ?_
  refine lv_lload_n hx hb dX0_layOut_1 rfl (lv_at hl 1 rfl) ?_
  refine p_Bo_key X hI up_Bo_key.l (X.fl w_539) dX0_layOut_2 (fun H locs hI => ?_)
  generalize hz_ : (Bo_key' bo p1) = bo_1 at hI hf
  clear hz_
  replace hf := lt_e hf
  refine lv_aload_n hx hb dX0_layOut_5 rfl (lv_at hl 0 rfl) ?_
  refine lv_iload_n hx hb dX0_layOut_6 rfl (lv_at hl 2 rfl) ?_
  refine p_Bo_plus X hI up_Bo_plus.l (X.fl w_540) dX0_layOut_7 (fun H locs hI => ?_)
  generalize hz_ : (Bo_plus' bo_1 p3) = bo_2 at hI hf
  clear hz_
  replace hf := lt_e hf
  refine lv_aload_n hx hb dX0_layOut_10 rfl (lv_at hl 0 rfl) ?_
  refine lv_iload hx hb dX0_layOut_11 (lv_at hl 3 rfl) ?_
  refine p_Bo_parted X hI up_Bo_parted.l (X.fl w_541) dX0_layOut_13 (fun H locs hI => ?_)
  generalize hz_ : (Bo_parted' bo_2 p4) = bo_3 at hI hf
  clear hz_
  replace hf := lt_e hf
  refine lv_iconst (v := 0) hx hb dX0_layOut_16 (by decide) ?_
  refine lv_istore (lv' := [(5, .int (0 : Int32)), (0, .ref (a_bo 0)), (1, .long p1), (3, .int p3), (4, .int p4)]) hx hb dX0_layOut_17 hl (by decide) rfl (fun ls hl => ?_)
  exact L_19 FU (0 : Int32) bo_3 _ _ _ (lv_sub hl [1, 0] rfl) hI hf
abbrev rm_X0_lay : Room := { frames := 4, cells := 0, slots := 0, locals := 96 }
set_option maxRecDepth 20000 in
theorem c_X0_lay (l : Launch) (g : GT) (a_bo : Nat → Nat) (a_mo : Nat → Nat) (a_ri : Nat → Nat) (bo : BoS) (mo : MoS) (ri : RiS) (o_bo : BoS) (hf : f_X0_lay bo mo ri = some (o_bo)) : CV l yX0_lay cX0_lay 2 none rm_X0_lay g [.ref (a_bo 0), .ref (a_mo 0)] (wBo g a_bo (a_ri 0) bo ++ (wMo g a_mo mo ++ (wRi g a_ri ri ++ []))) (wBo g a_bo (a_ri 0) o_bo ++ (wMo g a_mo mo ++ (wRi g a_ri ri ++ []))) := by
  refine start2 (y := yX0_lay) (cc := cX0_lay) (n := 2) (av := [.ref (a_bo 0), .ref (a_mo 0)]) (ws := (wBo g a_bo (a_ri 0) bo ++ (wMo g a_mo mo ++ (wRi g a_ri ri ++ [])))) (Qc := fun sz => QV g (wBo g a_bo (a_ri 0) bo ++ (wMo g a_mo mo ++ (wRi g a_ri ri ++ []))) (wBo g a_bo (a_ri 0) o_bo ++ (wMo g a_mo mo ++ (wRi g a_ri ri ++ []))) sz) (by decide) rfl ?_
  intro p e s m args below meth c ls Q A ha hQ hA X hl hI hin
  have X : Cx p s m args meth c cX0_lay 2 RX0 none := X
  have hl : lv_has ls 2 [(0, .ref (a_bo 0)), (1, .ref (a_mo 0))] := hl
  obtain ⟨hx, hb, hml, hown, ht, hr, hlk⟩ := id X
  clear ha hin
  unfold f_X0_lay at hf
  refine lv_aload_n hx hb dX0_lay_0 rfl (lv_at hl 0 rfl) ?_
  refine lv_aload_n hx hb dX0_lay_1 rfl (lv_at hl 1 rfl) ?_
  refine g_Mo_key X hI has_Mo.l.r (hI.fn (List.mem_of_getElem? (i := 55) rfl)) dX0_lay_2 ?_
  refine lv_aload_n hx hb dX0_lay_5 rfl (lv_at hl 1 rfl) ?_
  refine g_Mo_plus X hI has_Mo.l.r (hI.fn (List.mem_of_getElem? (i := 59) rfl)) dX0_lay_6 ?_
  refine lv_aload_n hx hb dX0_lay_9 rfl (lv_at hl 1 rfl) ?_
  refine g_Mo_parted X hI has_Mo.l.r (hI.fn (List.mem_of_getElem? (i := 62) rfl)) dX0_lay_10 ?_
  obtain ⟨bo_1, hc_, hf⟩ := bd1_some hf
  refine call_Vv X hI (Cj.keep (Cj.skip (Cj.keep Cj.id))) (c_X0_layOut l g a_bo a_ri bo ri (Mo_key mo) (Mo_plus mo) (Mo_parted mo) bo_1 hc_) ⟨rfl, rfl⟩ ⟨ht _ w_940, w_943, ht _ w_150, lk_X0_layOut⟩ w_941 w_942 rfl rfl rfl hl rfl rfl dX0_lay_13 rfl rfl rfl rfl (fun H locs hI => ?_)
  cases hf
  exact end_v hQ hA X hI dX0_lay_16
abbrev rm_X0_isLeft : Room := { frames := 0, cells := 0, slots := 0, locals := 0 }
set_option maxRecDepth 20000 in
theorem c_X0_isLeft (l : Launch) (g : GT) (a_bo : Nat → Nat) (q_bo_rings : Nat) (bo : BoS) (p1 : Int32) (r_ : Int32) (hf : f_X0_isLeft bo p1 = some (r_)) : CI l yX0_isLeft cX0_isLeft 2 (some .boolean) rm_X0_isLeft g [.ref (a_bo 0), .int p1] (wBo g a_bo q_bo_rings bo ++ []) (wBo g a_bo q_bo_rings bo ++ []) r_ := by
  refine start2 (y := yX0_isLeft) (cc := cX0_isLeft) (n := 2) (av := [.ref (a_bo 0), .int p1]) (ws := (wBo g a_bo q_bo_rings bo ++ [])) (Qc := fun sz => QI g (wBo g a_bo q_bo_rings bo ++ []) (wBo g a_bo q_bo_rings bo ++ []) r_ sz) (by decide) rfl ?_
  intro p e s m args below meth c ls Q A ha hQ hA X hl hI hin
  have X : Cx p s m args meth c cX0_isLeft 2 RX0 (some .boolean) := X
  have hl : lv_has ls 2 [(0, .ref (a_bo 0)), (1, .int p1)] := hl
  obtain ⟨hx, hb, hml, hown, ht, hr, hlk⟩ := id X
  clear ha hin
  unfold f_X0_isLeft at hf
  refine lv_aload_n hx hb dX0_isLeft_0 rfl (lv_at hl 0 rfl) ?_
  refine g_Bo_standing X hI has_Bo.l (X.fl w_545) dX0_isLeft_1 ?_
  refine lv_iconst (v := 2) hx hb dX0_isLeft_4 (by decide) ?_
  refine lv_iload_n hx hb dX0_isLeft_5 rfl (lv_at hl 1 rfl) ?_
  refine lv_imul hx hb dX0_isLeft_6 ?_
  obtain ⟨h_, hf⟩ := ck_someM hf
  refine ld_I X hI has_Bo_standing.l h_ dX0_isLeft_7 ?_
  refine lv_iconst (v := (-1)) hx hb dX0_isLeft_8 (by decide) ?_
  refine lv_icmp_eq (tgt := 16) hx hb dX0_isLeft_9 (by decide) (fun h_ => ?_) (fun h_ => ?_)
  · replace hf := if_t h_ hf
    refine lv_iconst (v := 0) hx hb dX0_isLeft_16 (by decide) ?_
    cases hf
    exact end_z hQ hA X hI rfl dX0_isLeft_17
  · replace hf := if_f h_ hf
    refine lv_iconst (v := 1) hx hb dX0_isLeft_12 (by decide) ?_
    refine lv_goto (tgt := 17) hx hb dX0_isLeft_13 (by decide) ?_
    cases hf
    exact end_z hQ hA X hI rfl dX0_isLeft_17
abbrev rm_X0_signOf : Room := { frames := 1, cells := 0, slots := 0, locals := 21 }
set_option maxRecDepth 20000 in
theorem c_X0_signOf (l : Launch) (g : GT) (a_bo : Nat → Nat) (q_bo_rings : Nat) (bo : BoS) (p1 : Int32) (r_ : Int32) (hf : f_X0_signOf bo p1 = some (r_)) : CI l yX0_signOf cX0_signOf 2 (some .int) rm_X0_signOf g [.ref (a_bo 0), .int p1] (wBo g a_bo q_bo_rings bo ++ []) (wBo g a_bo q_bo_rings bo ++ []) r_ := by
  refine start2 (y := yX0_signOf) (cc := cX0_signOf) (n := 2) (av := [.ref (a_bo 0), .int p1]) (ws := (wBo g a_bo q_bo_rings bo ++ [])) (Qc := fun sz => QI g (wBo g a_bo q_bo_rings bo ++ []) (wBo g a_bo q_bo_rings bo ++ []) r_ sz) (by decide) rfl ?_
  intro p e s m args below meth c ls Q A ha hQ hA X hl hI hin
  have X : Cx p s m args meth c cX0_signOf 2 RX0 (some .int) := X
  have hl : lv_has ls 2 [(0, .ref (a_bo 0)), (1, .int p1)] := hl
  obtain ⟨hx, hb, hml, hown, ht, hr, hlk⟩ := id X
  clear ha hin
  unfold f_X0_signOf at hf
  refine lv_aload_n hx hb dX0_signOf_0 rfl (lv_at hl 0 rfl) ?_
  refine lv_iload_n hx hb dX0_signOf_1 rfl (lv_at hl 1 rfl) ?_
  obtain ⟨r_1, hc_, hf⟩ := bd1_some hf
  refine call_Vi X hI (Cj.keep Cj.id) (c_X0_isLeft l g a_bo q_bo_rings bo p1 r_1 hc_) ⟨rfl, rfl⟩ ⟨ht _ w_1069, w_1072, ht _ w_150, lk_X0_isLeft⟩ w_1070 w_1071 rfl rfl rfl hl rfl rfl dX0_signOf_2 rfl rfl rfl rfl (fun H locs hI => ?_)
  refine lv_if_ne (tgt := 10) hx hb dX0_signOf_5 (by decide) (fun h_ => ?_) (fun h_ => ?_)
  · replace hf := if_f h_ hf
    refine lv_aload_n hx hb dX0_signOf_10 rfl (lv_at hl 0 rfl) ?_
    refine g_Bo_plus X hI has_Bo.l (X.fl w_540) dX0_signOf_11 ?_
    refine lv_iload_n hx hb dX0_signOf_14 rfl (lv_at hl 1 rfl) ?_
    obtain ⟨r_2, hc_, hf⟩ := bd1_some hf
    refine call_Si X hI Cj.nil (c_X0_has l g (Bo_plus bo) p1 r_2 hc_) ⟨rfl, rfl⟩ ⟨ht _ w_964, w_966, ht _ w_150, lk_X0_has⟩ w_965 rfl hl rfl rfl dX0_signOf_15 rfl rfl rfl rfl (fun H locs hI => ?_)
    refine lv_if_eq (tgt := 25) hx hb dX0_signOf_18 (by decide) (fun h_ => ?_) (fun h_ => ?_)
    · replace hf := if_t h_ hf
      refine lv_iconst (v := (-1)) hx hb dX0_signOf_25 (by decide) ?_
      cases hf
      exact end_i hQ hA X hI dX0_signOf_26
    · replace hf := if_f h_ hf
      refine lv_iconst (v := 1) hx hb dX0_signOf_21 (by decide) ?_
      refine lv_goto (tgt := 26) hx hb dX0_signOf_22 (by decide) ?_
      cases hf
      exact end_i hQ hA X hI dX0_signOf_26
  · replace hf := if_t h_ hf
    refine lv_iconst (v := 0) hx hb dX0_signOf_8 (by decide) ?_
    cases hf
    exact end_i hQ hA X hI dX0_signOf_9
abbrev rm_X0_ringOfPass : Room := { frames := 0, cells := 0, slots := 0, locals := 0 }
set_option maxRecDepth 20000 in
theorem c_X0_ringOfPass (l : Launch) (g : GT) (a_bo : Nat → Nat) (a_ri : Nat → Nat) (bo : BoS) (ri : RiS) (p1 : Int32) (r_ : Int32) (hf : f_X0_ringOfPass bo ri p1 = some (r_)) : CI l yX0_ringOfPass cX0_ringOfPass 2 (some .int) rm_X0_ringOfPass g [.ref (a_bo 0), .int p1] (wBo g a_bo (a_ri 0) bo ++ (wRi g a_ri ri ++ [])) (wBo g a_bo (a_ri 0) bo ++ (wRi g a_ri ri ++ [])) r_ := by
  refine start2 (y := yX0_ringOfPass) (cc := cX0_ringOfPass) (n := 2) (av := [.ref (a_bo 0), .int p1]) (ws := (wBo g a_bo (a_ri 0) bo ++ (wRi g a_ri ri ++ []))) (Qc := fun sz => QI g (wBo g a_bo (a_ri 0) bo ++ (wRi g a_ri ri ++ [])) (wBo g a_bo (a_ri 0) bo ++ (wRi g a_ri ri ++ [])) r_ sz) (by decide) rfl ?_
  intro p e s m args below meth c ls Q A ha hQ hA X hl hI hin
  have X : Cx p s m args meth c cX0_ringOfPass 2 RX0 (some .int) := X
  have hl : lv_has ls 2 [(0, .ref (a_bo 0)), (1, .int p1)] := hl
  obtain ⟨hx, hb, hml, hown, ht, hr, hlk⟩ := id X
  clear ha hin
  unfold f_X0_ringOfPass at hf
  refine lv_aload_n hx hb dX0_ringOfPass_0 rfl (lv_at hl 0 rfl) ?_
  refine g_Bo_rings X hI has_Bo.l (X.fl w_537) dX0_ringOfPass_1 ?_
  refine g_Ri_linkRing X hI has_Ri.l.r (hI.fn (List.mem_of_getElem? (i := 47) rfl)) dX0_ringOfPass_4 ?_
  refine lv_aload_n hx hb dX0_ringOfPass_7 rfl (lv_at hl 0 rfl) ?_
  refine g_Bo_rings X hI has_Bo.l (X.fl w_537) dX0_ringOfPass_8 ?_
  refine g_Ri_standingLink X hI has_Ri.l.r (hI.fn (List.mem_of_getElem? (i := 52) rfl)) dX0_ringOfPass_11 ?_
  refine lv_aload_n hx hb dX0_ringOfPass_14 rfl (lv_at hl 0 rfl) ?_
  refine g_Bo_standing X hI has_Bo.l (X.fl w_545) dX0_ringOfPass_15 ?_
  refine lv_iload_n hx hb dX0_ringOfPass_18 rfl (lv_at hl 1 rfl) ?_
  obtain ⟨h_, hf⟩ := ck_someM hf
  refine ld_I X hI has_Bo_standing.l h_ dX0_ringOfPass_19 ?_
  obtain ⟨h_, hf⟩ := ck_someM hf
  refine ld_I X hI has_Ri_standingLink.l.r h_ dX0_ringOfPass_20 ?_
  obtain ⟨h_, hf⟩ := ck_someM hf
  refine ld_I X hI has_Ri_linkRing.l.r h_ dX0_ringOfPass_21 ?_
  cases hf
  exact end_i hQ hA X hI dX0_ringOfPass_22
abbrev rm_X0_signsBetween : Room := { frames := 2, cells := 0, slots := 0, locals := 42 }
set_option maxRecDepth 20000 in
theorem c_X0_signsBetween (l : Launch) (g : GT) (a_bo : Nat → Nat) (a_ri : Nat → Nat) (bo : BoS) (ri : RiS) (p1 : Int32) (p2 : Int32) (r_ : Int32) (hf : f_X0_signsBetween bo ri p1 p2 = some (r_)) : CI l yX0_signsBetween cX0_signsBetween 7 (some .int) rm_X0_signsBetween g [.ref (a_bo 0), .int p1, .int p2] (wBo g a_bo (a_ri 0) bo ++ (wRi g a_ri ri ++ [])) (wBo g a_bo (a_ri 0) bo ++ (wRi g a_ri ri ++ [])) r_ := by
  refine start2 (y := yX0_signsBetween) (cc := cX0_signsBetween) (n := 7) (av := [.ref (a_bo 0), .int p1, .int p2]) (ws := (wBo g a_bo (a_ri 0) bo ++ (wRi g a_ri ri ++ []))) (Qc := fun sz => QI g (wBo g a_bo (a_ri 0) bo ++ (wRi g a_ri ri ++ [])) (wBo g a_bo (a_ri 0) bo ++ (wRi g a_ri ri ++ [])) r_ sz) (by decide) rfl ?_
  intro p e s m args below meth c ls Q A ha hQ hA X hl hI hin
  have X : Cx p s m args meth c cX0_signsBetween 7 RX0 (some .int) := X
  have hl : lv_has ls 7 [(0, .ref (a_bo 0)), (1, .int p1), (2, .int p2)] := hl
  obtain ⟨hx, hb, hml, hown, ht, hr, hlk⟩ := id X
  clear ha hin
  have L_81 : ∀ (x1 : Int32) (x2 : Int32) (x3 : Int32) (x4 : Int32) (k5 : (Int32) → (Int32) → (Int32) → (Int32) → (BoS) → (RiS) → Option (Int32)) (H : Heap) (locs : List Loc) (ls : Array Slot), lv_has ls 7 [(0, .ref (a_bo 0)), (1, .int x1), (2, .int x2), (3, .int x3), (4, .int x4)] → In g A s.heap s (wBo g a_bo (a_ri 0) bo ++ (wRi g a_ri ri ++ [])) H locs → f_X0_signsBetween_L81 x1 x2 x3 x4 bo ri k5 = some (r_) → (∀ (x1 : Int32) (x2 : Int32) (x3 : Int32) (x4 : Int32) (H : Heap) (locs : List Loc) (ls : Array Slot), lv_has ls 7 [(0, .ref (a_bo 0)), (1, .int x1), (2, .int x2), (3, .int x3), (4, .int x4)] → In g A s.heap s (wBo g a_bo (a_ri 0) bo ++ (wRi g a_ri ri ++ [])) H locs → k5 x1 x2 x3 x4 bo ri = some (r_) → W p l e rm_X0_signsBetween s m args below meth c H locs 0 0 Q (F0 m 5 ls [])) → W p l e rm_X0_signsBetween s m args below meth c H locs 0 0 Q (F0 m 81 ls []) := by
    intro x1 x2 x3 x4 k5 H locs ls hl hI hf hk5
    unfold f_X0_signsBetween_L81 at hf
    obtain ⟨v_4, e_⟩ : ∃ y : Int32, y = (x4 + (1 : Int32)) := ⟨_, rfl⟩
    replace hf := lt_to e_ hf
    refine lv_iinc (v := v_4) (lv' := [(4, .int v_4), (0, .ref (a_bo 0)), (1, .int x1), (2, .int x2), (3, .int x3)]) hx hb dX0_signsBetween_81 hl (k := 4) rfl (by rw [e_]; rfl) (by decide) rfl (fun ls hl => ?_)
    clear e_
    refine lv_goto (tgt := 5) hx hb dX0_signsBetween_84 (by decide) ?_
    exact hk5 x1 x2 x3 v_4 _ _ _ (lv_sub hl [1, 2, 3, 4, 0] rfl) hI hf
  have L_72 : ∀ (x1 : Int32) (x2 : Int32) (x3 : Int32) (x4 : Int32) (k5 : (Int32) → (Int32) → (Int32) → (Int32) → (BoS) → (RiS) → Option (Int32)) (H : Heap) (locs : List Loc) (ls : Array Slot), lv_has ls 7 [(0, .ref (a_bo 0)), (1, .int x1), (2, .int x2), (3, .int x3), (4, .int x4)] → In g A s.heap s (wBo g a_bo (a_ri 0) bo ++ (wRi g a_ri ri ++ [])) H locs → f_X0_signsBetween_L72 x1 x2 x3 x4 bo ri k5 = some (r_) → (∀ (x1 : Int32) (x2 : Int32) (x3 : Int32) (x4 : Int32) (H : Heap) (locs : List Loc) (ls : Array Slot), lv_has ls 7 [(0, .ref (a_bo 0)), (1, .int x1), (2, .int x2), (3, .int x3), (4, .int x4)] → In g A s.heap s (wBo g a_bo (a_ri 0) bo ++ (wRi g a_ri ri ++ [])) H locs → k5 x1 x2 x3 x4 bo ri = some (r_) → W p l e rm_X0_signsBetween s m args below meth c H locs 0 0 Q (F0 m 5 ls [])) → W p l e rm_X0_signsBetween s m args below meth c H locs 0 0 Q (F0 m 72 ls []) := by
    intro x1 x2 x3 x4 k5 H locs ls hl hI hf hk5
    unfold f_X0_signsBetween_L72 at hf
    refine lv_iload_n hx hb dX0_signsBetween_72 rfl (lv_at hl 3 rfl) ?_
    refine lv_aload_n hx hb dX0_signsBetween_73 rfl (lv_at hl 0 rfl) ?_
    refine lv_iload hx hb dX0_signsBetween_74 (lv_at hl 4 rfl) ?_
    obtain ⟨r_5, hc_, hf⟩ := bd1_some hf
    refine call_Vi X hI (Cj.keep Cj.nil) (c_X0_signOf l g a_bo (a_ri 0) bo x4 r_5 hc_) ⟨rfl, rfl⟩ ⟨ht _ w_1216, w_1068, ht _ w_150, lk_X0_signOf⟩ w_1066 w_1067 rfl rfl rfl hl rfl rfl dX0_signsBetween_76 rfl rfl rfl rfl (fun H locs hI => ?_)
    refine lv_iadd hx hb dX0_signsBetween_79 ?_
    refine lv_topi (fun v_6 e_ => ?_)
    replace hf := lt_to e_ hf
    clear e_
    refine lv_istore_n (lv' := [(3, .int v_6), (0, .ref (a_bo 0)), (1, .int x1), (2, .int x2), (4, .int x4)]) hx hb dX0_signsBetween_80 rfl hl (by decide) rfl (fun ls hl => ?_)
    exact L_81 x1 x2 v_6 x4 _ _ _ _ (lv_sub hl [1, 2, 3, 0, 4] rfl) hI hf hk5
  have L_60 : ∀ (x1 : Int32) (x2 : Int32) (x3 : Int32) (x4 : Int32) (x5 : Int32) (x6 : Int32) (k5 : (Int32) → (Int32) → (Int32) → (Int32) → (BoS) → (RiS) → Option (Int32)) (H : Heap) (locs : List Loc) (ls : Array Slot), lv_has ls 7 [(0, .ref (a_bo 0)), (1, .int x1), (2, .int x2), (3, .int x3), (4, .int x4), (5, .int x5), (6, .int x6)] → In g A s.heap s (wBo g a_bo (a_ri 0) bo ++ (wRi g a_ri ri ++ [])) H locs → f_X0_signsBetween_L60 x1 x2 x3 x4 x5 x6 bo ri k5 = some (r_) → (∀ (x1 : Int32) (x2 : Int32) (x3 : Int32) (x4 : Int32) (H : Heap) (locs : List Loc) (ls : Array Slot), lv_has ls 7 [(0, .ref (a_bo 0)), (1, .int x1), (2, .int x2), (3, .int x3), (4, .int x4)] → In g A s.heap s (wBo g a_bo (a_ri 0) bo ++ (wRi g a_ri ri ++ [])) H locs → k5 x1 x2 x3 x4 bo ri = some (r_) → W p l e rm_X0_signsBetween s m args below meth c H locs 0 0 Q (F0 m 5 ls [])) → W p l e rm_X0_signsBetween s m args below meth c H locs 0 0 Q (F0 m 60 ls []) := by
    intro x1 x2 x3 x4 x5 x6 k5 H locs ls hl hI hf hk5
    unfold f_X0_signsBetween_L60 at hf
    refine lv_iload hx hb dX0_signsBetween_60 (lv_at hl 5 rfl) ?_
    refine lv_iload_n hx hb dX0_signsBetween_62 rfl (lv_at hl 2 rfl) ?_
    refine lv_icmp_ne (tgt := 81) hx hb dX0_signsBetween_63 (by decide) (fun h_ => ?_) (fun h_ => ?_)
    · replace hf := if_f h_ hf
      exact L_81 x1 x2 x3 x4 _ _ _ _ (lv_sub hl [0, 1, 2, 3, 4] rfl) hI hf hk5
    · replace hf := if_t h_ hf
      refine lv_iload hx hb dX0_signsBetween_66 (lv_at hl 6 rfl) ?_
      refine lv_iload_n hx hb dX0_signsBetween_68 rfl (lv_at hl 1 rfl) ?_
      refine lv_icmp_ne (tgt := 81) hx hb dX0_signsBetween_69 (by decide) (fun h_ => ?_) (fun h_ => ?_)
      · replace hf := if_f h_ hf
        exact L_81 x1 x2 x3 x4 _ _ _ _ (lv_sub hl [0, 1, 2, 3, 4] rfl) hI hf hk5
      · replace hf := if_t h_ hf
        exact L_72 x1 x2 x3 x4 _ _ _ _ (lv_sub hl [0, 1, 2, 3, 4] rfl) hI hf hk5
  have L_5 : ∀ (n_ : Nat) (x1 : Int32) (x2 : Int32) (x3 : Int32) (x4 : Int32) (H : Heap) (locs : List Loc) (ls : Array Slot), lv_has ls 7 [(0, .ref (a_bo 0)), (1, .int x1), (2, .int x2), (3, .int x3), (4, .int x4)] → In g A s.heap s (wBo g a_bo (a_ri 0) bo ++ (wRi g a_ri ri ++ [])) H locs → f_X0_signsBetween_L5 n_ x1 x2 x3 x4 bo ri = some (r_) → W p l e rm_X0_signsBetween s m args below meth c H locs 0 0 Q (F0 m 5 ls []) := by
    intro n_
    induction n_ with
    | zero =>
      intro x1 x2 x3 x4 H locs ls hl hI hf
      rw [f_X0_signsBetween_L5] at hf
      cases hf
    | succ n_ ih =>
      intro x1 x2 x3 x4 H locs ls hl hI hf
      rw [f_X0_signsBetween_L5] at hf
      refine lv_iload hx hb dX0_signsBetween_5 (lv_at hl 4 rfl) ?_
      refine lv_aload_n hx hb dX0_signsBetween_7 rfl (lv_at hl 0 rfl) ?_
      refine g_Bo_rings X hI has_Bo.l (X.fl w_537) dX0_signsBetween_8 ?_
      refine g_Ri_crossings X hI has_Ri.l.r (hI.fn (List.mem_of_getElem? (i := 31) rfl)) dX0_signsBetween_11 ?_
      refine lv_icmp_ge (tgt := 87) hx hb dX0_signsBetween_14 (by decide) (fun h_ => ?_) (fun h_ => ?_)
      · replace hf := if_t h_ hf
        refine lv_iload_n hx hb dX0_signsBetween_87 rfl (lv_at hl 3 rfl) ?_
        cases hf
        exact end_i hQ hA X hI dX0_signsBetween_88
      · replace hf := if_f h_ hf
        refine lv_aload_n hx hb dX0_signsBetween_17 rfl (lv_at hl 0 rfl) ?_
        refine lv_iload hx hb dX0_signsBetween_18 (lv_at hl 4 rfl) ?_
        obtain ⟨r_1, hc_, hf⟩ := bd1_some hf
        refine call_Vi X hI (Cj.keep Cj.nil) (c_X0_isLeft l g a_bo (a_ri 0) bo x4 r_1 hc_) ⟨rfl, rfl⟩ ⟨ht _ w_1069, w_1072, ht _ w_150, lk_X0_isLeft⟩ w_1070 w_1071 rfl rfl rfl hl rfl rfl dX0_signsBetween_20 rfl rfl rfl rfl (fun H locs hI => ?_)
        refine lv_if_eq (tgt := 81) hx hb dX0_signsBetween_23 (by decide) (fun h_ => ?_) (fun h_ => ?_)
        · replace hf := if_t h_ hf
          exact L_81 x1 x2 x3 x4 _ _ _ _ hl hI hf (fun z_0 z_1 z_2 z_3 _ _ _ hl hI hf => ih z_0 z_1 z_2 z_3 _ _ _ hl hI hf)
        · replace hf := if_f h_ hf
          refine lv_aload_n hx hb dX0_signsBetween_26 rfl (lv_at hl 0 rfl) ?_
          refine lv_iconst (v := 2) hx hb dX0_signsBetween_27 (by decide) ?_
          refine lv_iload hx hb dX0_signsBetween_28 (lv_at hl 4 rfl) ?_
          refine lv_imul hx hb dX0_signsBetween_30 ?_
          obtain ⟨r_2, hc_, hf⟩ := bd1_some hf
          refine call_Vi X hI (Cj.keep (Cj.keep Cj.id)) (c_X0_ringOfPass l g a_bo a_ri bo ri ((2 : Int32) * x4) r_2 hc_) ⟨rfl, rfl⟩ ⟨ht _ w_1212, w_1215, ht _ w_150, lk_X0_ringOfPass⟩ w_1214 w_52 rfl rfl rfl hl rfl rfl dX0_signsBetween_31 rfl rfl rfl rfl (fun H locs hI => ?_)
          refine lv_istore (lv' := [(5, .int r_2), (0, .ref (a_bo 0)), (1, .int x1), (2, .int x2), (3, .int x3), (4, .int x4)]) hx hb dX0_signsBetween_34 hl (by decide) rfl (fun ls hl => ?_)
          refine lv_aload_n hx hb dX0_signsBetween_36 rfl (lv_at hl 1 rfl) ?_
          refine lv_iconst (v := 2) hx hb dX0_signsBetween_37 (by decide) ?_
          refine lv_iload hx hb dX0_signsBetween_38 (lv_at hl 5 rfl) ?_
          refine lv_imul hx hb dX0_signsBetween_40 ?_
          refine lv_iconst (v := 1) hx hb dX0_signsBetween_41 (by decide) ?_
          refine lv_iadd hx hb dX0_signsBetween_42 ?_
          obtain ⟨r_3, hc_, hf⟩ := bd1_some hf
          refine call_Vi X hI (Cj.keep (Cj.keep Cj.id)) (c_X0_ringOfPass l g a_bo a_ri bo ri (((2 : Int32) * x4) + (1 : Int32)) r_3 hc_) ⟨rfl, rfl⟩ ⟨ht _ w_1212, w_1215, ht _ w_150, lk_X0_ringOfPass⟩ w_1214 w_52 rfl rfl rfl hl rfl rfl dX0_signsBetween_43 rfl rfl rfl rfl (fun H locs hI => ?_)
          refine lv_istore (lv' := [(6, .int r_3), (5, .int r_2), (0, .ref (a_bo 0)), (1, .int x1), (2, .int x2), (3, .int x3), (4, .int x4)]) hx hb dX0_signsBetween_46 hl (by decide) rfl (fun ls hl => ?_)
          refine lv_iload hx hb dX0_signsBetween_48 (lv_at hl 1 rfl) ?_
          refine lv_iload_n hx hb dX0_signsBetween_50 rfl (lv_at hl 3 rfl) ?_
          refine lv_icmp_ne (tgt := 60) hx hb dX0_signsBetween_51 (by decide) (fun h_ => ?_) (fun h_ => ?_)
          · replace hf := if_f h_ hf
            exact L_60 x1 x2 x3 x4 r_2 r_3 _ _ _ _ (lv_sub hl [2, 3, 4, 5, 6, 1, 0] rfl) hI hf (fun z_0 z_1 z_2 z_3 _ _ _ hl hI hf => ih z_0 z_1 z_2 z_3 _ _ _ hl hI hf)
          · replace hf := if_t h_ hf
            refine lv_iload hx hb dX0_signsBetween_54 (lv_at hl 0 rfl) ?_
            refine lv_iload_n hx hb dX0_signsBetween_56 rfl (lv_at hl 4 rfl) ?_
            refine lv_icmp_eq (tgt := 72) hx hb dX0_signsBetween_57 (by decide) (fun h_ => ?_) (fun h_ => ?_)
            · replace hf := if_t h_ hf
              exact L_72 x1 x2 x3 x4 _ _ _ _ (lv_sub hl [2, 3, 4, 5, 6] rfl) hI hf (fun z_0 z_1 z_2 z_3 _ _ _ hl hI hf => ih z_0 z_1 z_2 z_3 _ _ _ hl hI hf)
            · replace hf := if_f h_ hf
              exact L_60 x1 x2 x3 x4 r_2 r_3 _ _ _ _ (lv_sub hl [2, 3, 4, 5, 6, 1, 0] rfl) hI hf (fun z_0 z_1 z_2 z_3 _ _ _ hl hI hf => ih z_0 z_1 z_2 z_3 _ _ _ hl hI hf)
  unfold f_X0_signsBetween at hf
  refine lv_iconst (v := 0) hx hb dX0_signsBetween_0 (by decide) ?_
  refine lv_istore_n (lv' := [(3, .int (0 : Int32)), (0, .ref (a_bo 0)), (1, .int p1), (2, .int p2)]) hx hb dX0_signsBetween_1 rfl hl (by decide) rfl (fun ls hl => ?_)
  refine lv_iconst (v := 0) hx hb dX0_signsBetween_2 (by decide) ?_
  refine lv_istore (lv' := [(4, .int (0 : Int32)), (3, .int (0 : Int32)), (0, .ref (a_bo 0)), (1, .int p1), (2, .int p2)]) hx hb dX0_signsBetween_3 hl (by decide) rfl (fun ls hl => ?_)
  exact L_5 FU p1 p2 (0 : Int32) (0 : Int32) _ _ _ (lv_sub hl [2, 3, 4, 1, 0] rfl) hI hf
abbrev rm_X0_seenBy : Room := { frames := 0, cells := 0, slots := 0, locals := 0 }
set_option maxRecDepth 20000 in
theorem c_X0_seenBy (l : Launch) (g : GT) (a_bo : Nat → Nat) (a_ri : Nat → Nat) (bo : BoS) (ri : RiS) (p1 : Int32) (r_ : Int32) (hf : f_X0_seenBy bo ri p1 = some (r_)) : CI l yX0_seenBy cX0_seenBy 5 (some .int) rm_X0_seenBy g [.ref (a_bo 0), .int p1] (wBo g a_bo (a_ri 0) bo ++ (wRi g a_ri ri ++ [])) (wBo g a_bo (a_ri 0) bo ++ (wRi g a_ri ri ++ [])) r_ := by
  refine start2 (y := yX0_seenBy) (cc := cX0_seenBy) (n := 5) (av := [.ref (a_bo 0), .int p1]) (ws := (wBo g a_bo (a_ri 0) bo ++ (wRi g a_ri ri ++ []))) (Qc := fun sz => QI g (wBo g a_bo (a_ri 0) bo ++ (wRi g a_ri ri ++ [])) (wBo g a_bo (a_ri 0) bo ++ (wRi g a_ri ri ++ [])) r_ sz) (by decide) rfl ?_
  intro p e s m args below meth c ls Q A ha hQ hA X hl hI hin
  have X : Cx p s m args meth c cX0_seenBy 5 RX0 (some .int) := X
  have hl : lv_has ls 5 [(0, .ref (a_bo 0)), (1, .int p1)] := hl
  obtain ⟨hx, hb, hml, hown, ht, hr, hlk⟩ := id X
  clear ha hin
  have L_82 : ∀ (x1 : Int32) (x2 : Int32) (x3 : Int32) (k4 : (Int32) → (Int32) → (Int32) → (BoS) → (RiS) → Option (Int32)) (H : Heap) (locs : List Loc) (ls : Array Slot), lv_has ls 5 [(0, .ref (a_bo 0)), (1, .int x1), (2, .int x2), (3, .int x3)] → In g A s.heap s (wBo g a_bo (a_ri 0) bo ++ (wRi g a_ri ri ++ [])) H locs → f_X0_seenBy_L82 x1 x2 x3 bo ri k4 = some (r_) → (∀ (x1 : Int32) (x2 : Int32) (x3 : Int32) (H : Heap) (locs : List Loc) (ls : Array Slot), lv_has ls 5 [(0, .ref (a_bo 0)), (1, .int x1), (2, .int x2), (3, .int x3)] → In g A s.heap s (wBo g a_bo (a_ri 0) bo ++ (wRi g a_ri ri ++ [])) H locs → k4 x1 x2 x3 bo ri = some (r_) → W p l e rm_X0_seenBy s m args below meth c H locs 0 0 Q (F0 m 4 ls [])) → W p l e rm_X0_seenBy s m args below meth c H locs 0 0 Q (F0 m 82 ls []) := by
    intro x1 x2 x3 k4 H locs ls hl hI hf hk4
    unfold f_X0_seenBy_L82 at hf
    obtain ⟨v_3, e_⟩ : ∃ y : Int32, y = (x3 + (1 : Int32)) := ⟨_, rfl⟩
    replace hf := lt_to e_ hf
    refine lv_iinc (v := v_3) (lv' := [(3, .int v_3), (0, .ref (a_bo 0)), (1, .int x1), (2, .int x2)]) hx hb dX0_seenBy_82 hl (k := 3) rfl (by rw [e_]; rfl) (by decide) rfl (fun ls hl => ?_)
    clear e_
    refine lv_goto (tgt := 4) hx hb dX0_seenBy_85 (by decide) ?_
    exact hk4 x1 x2 v_3 _ _ _ (lv_sub hl [1, 2, 3, 0] rfl) hI hf
  have L_69 : ∀ (x1 : Int32) (x2 : Int32) (x3 : Int32) (k4 : (Int32) → (Int32) → (Int32) → (BoS) → (RiS) → Option (Int32)) (H : Heap) (locs : List Loc) (ls : Array Slot), lv_has ls 5 [(0, .ref (a_bo 0)), (1, .int x1), (2, .int x2), (3, .int x3)] → In g A s.heap s (wBo g a_bo (a_ri 0) bo ++ (wRi g a_ri ri ++ [])) H locs → f_X0_seenBy_L69 x1 x2 x3 bo ri k4 = some (r_) → (∀ (x1 : Int32) (x2 : Int32) (x3 : Int32) (H : Heap) (locs : List Loc) (ls : Array Slot), lv_has ls 5 [(0, .ref (a_bo 0)), (1, .int x1), (2, .int x2), (3, .int x3)] → In g A s.heap s (wBo g a_bo (a_ri 0) bo ++ (wRi g a_ri ri ++ [])) H locs → k4 x1 x2 x3 bo ri = some (r_) → W p l e rm_X0_seenBy s m args below meth c H locs 0 0 Q (F0 m 4 ls [])) → W p l e rm_X0_seenBy s m args below meth c H locs 0 0 Q (F0 m 69 ls []) := by
    intro x1 x2 x3 k4 H locs ls hl hI hf hk4
    unfold f_X0_seenBy_L69 at hf
    refine lv_iload_n hx hb dX0_seenBy_69 rfl (lv_at hl 2 rfl) ?_
    refine lv_iconst (v := 1) hx hb dX0_seenBy_70 (by decide) ?_
    refine lv_aload_n hx hb dX0_seenBy_71 rfl (lv_at hl 0 rfl) ?_
    refine g_Bo_walk X hI has_Bo.l (X.fl w_546) dX0_seenBy_72 ?_
    refine lv_iload_n hx hb dX0_seenBy_75 rfl (lv_at hl 3 rfl) ?_
    obtain ⟨h_, hf⟩ := ck_someM hf
    refine ld_I X hI has_Bo_walk.l h_ dX0_seenBy_76 ?_
    refine lv_iconst (v := 2) hx hb dX0_seenBy_77 (by decide) ?_
    refine lv_idiv hx hb dX0_seenBy_78 (by decide) ?_
    refine lv_ishl hx hb dX0_seenBy_79 ?_
    refine lv_ior hx hb dX0_seenBy_80 ?_
    refine lv_topi (fun v_2 e_ => ?_)
    replace hf := lt_to e_ hf
    clear e_
    refine lv_istore_n (lv' := [(2, .int v_2), (0, .ref (a_bo 0)), (1, .int x1), (3, .int x3)]) hx hb dX0_seenBy_81 rfl hl (by decide) rfl (fun ls hl => ?_)
    exact L_82 x1 v_2 x3 _ _ _ _ (lv_sub hl [1, 2, 0, 3] rfl) hI hf hk4
  have L_4 : ∀ (n_ : Nat) (x1 : Int32) (x2 : Int32) (x3 : Int32) (H : Heap) (locs : List Loc) (ls : Array Slot), lv_has ls 5 [(0, .ref (a_bo 0)), (1, .int x1), (2, .int x2), (3, .int x3)] → In g A s.heap s (wBo g a_bo (a_ri 0) bo ++ (wRi g a_ri ri ++ [])) H locs → f_X0_seenBy_L4 n_ x1 x2 x3 bo ri = some (r_) → W p l e rm_X0_seenBy s m args below meth c H locs 0 0 Q (F0 m 4 ls []) := by
    intro n_
    induction n_ with
    | zero =>
      intro x1 x2 x3 H locs ls hl hI hf
      rw [f_X0_seenBy_L4] at hf
      cases hf
    | succ n_ ih =>
      intro x1 x2 x3 H locs ls hl hI hf
      rw [f_X0_seenBy_L4] at hf
      refine lv_iload_n hx hb dX0_seenBy_4 rfl (lv_at hl 3 rfl) ?_
      refine lv_iconst (v := 2) hx hb dX0_seenBy_5 (by decide) ?_
      refine lv_aload_n hx hb dX0_seenBy_6 rfl (lv_at hl 0 rfl) ?_
      refine g_Bo_left X hI has_Bo.l (X.fl w_543) dX0_seenBy_7 ?_
      refine lv_imul hx hb dX0_seenBy_10 ?_
      refine lv_icmp_ge (tgt := 88) hx hb dX0_seenBy_11 (by decide) (fun h_ => ?_) (fun h_ => ?_)
      · replace hf := if_t h_ hf
        refine lv_iload_n hx hb dX0_seenBy_88 rfl (lv_at hl 2 rfl) ?_
        cases hf
        exact end_i hQ hA X hI dX0_seenBy_89
      · replace hf := if_f h_ hf
        refine lv_aload_n hx hb dX0_seenBy_14 rfl (lv_at hl 0 rfl) ?_
        refine g_Bo_rings X hI has_Bo.l (X.fl w_537) dX0_seenBy_15 ?_
        refine g_Ri_standingLink X hI has_Ri.l.r (hI.fn (List.mem_of_getElem? (i := 52) rfl)) dX0_seenBy_18 ?_
        refine lv_aload_n hx hb dX0_seenBy_21 rfl (lv_at hl 0 rfl) ?_
        refine g_Bo_standing X hI has_Bo.l (X.fl w_545) dX0_seenBy_22 ?_
        refine lv_aload_n hx hb dX0_seenBy_25 rfl (lv_at hl 0 rfl) ?_
        refine g_Bo_walk X hI has_Bo.l (X.fl w_546) dX0_seenBy_26 ?_
        refine lv_iload_n hx hb dX0_seenBy_29 rfl (lv_at hl 3 rfl) ?_
        obtain ⟨h_, hf⟩ := ck_someM hf
        refine ld_I X hI has_Bo_walk.l h_ dX0_seenBy_30 ?_
        obtain ⟨h_, hf⟩ := ck_someM hf
        refine ld_I X hI has_Bo_standing.l h_ dX0_seenBy_31 ?_
        obtain ⟨h_, hf⟩ := ck_someM hf
        refine ld_I X hI has_Ri_standingLink.l.r h_ dX0_seenBy_32 ?_
        refine lv_topi (fun v_1 e_ => ?_)
        replace hf := lt_to e_ hf
        clear e_
        refine lv_istore (lv' := [(4, .int v_1), (0, .ref (a_bo 0)), (1, .int x1), (2, .int x2), (3, .int x3)]) hx hb dX0_seenBy_33 hl (by decide) rfl (fun ls hl => ?_)
        refine lv_iload hx hb dX0_seenBy_35 (lv_at hl 0 rfl) ?_
        refine lv_aload_n hx hb dX0_seenBy_37 rfl (lv_at hl 1 rfl) ?_
        refine g_Bo_rings X hI has_Bo.l (X.fl w_537) dX0_seenBy_38 ?_
        refine g_Ri_linkIn X hI has_Ri.l.r (hI.fn (List.mem_of_getElem? (i := 45) rfl)) dX0_seenBy_41 ?_
        refine lv_iconst (v := 2) hx hb dX0_seenBy_44 (by decide) ?_
        refine lv_iload_n hx hb dX0_seenBy_45 rfl (lv_at hl 2 rfl) ?_
        refine lv_imul hx hb dX0_seenBy_46 ?_
        obtain ⟨h_, hf⟩ := ck_someM hf
        refine ld_I X hI has_Ri_linkIn.l.r h_ dX0_seenBy_47 ?_
        refine lv_icmp_eq (tgt := 69) hx hb dX0_seenBy_48 (by decide) (fun h_ => ?_) (fun h_ => ?_)
        · replace hf := if_t h_ hf
          exact L_69 x1 x2 x3 _ _ _ _ (lv_sub hl [1, 2, 3, 4] rfl) hI hf (fun z_0 z_1 z_2 _ _ _ hl hI hf => ih z_0 z_1 z_2 _ _ _ hl hI hf)
        · replace hf := if_f h_ hf
          refine lv_iload hx hb dX0_seenBy_51 (lv_at hl 0 rfl) ?_
          refine lv_aload_n hx hb dX0_seenBy_53 rfl (lv_at hl 1 rfl) ?_
          refine g_Bo_rings X hI has_Bo.l (X.fl w_537) dX0_seenBy_54 ?_
          refine g_Ri_linkIn X hI has_Ri.l.r (hI.fn (List.mem_of_getElem? (i := 45) rfl)) dX0_seenBy_57 ?_
          refine lv_iconst (v := 2) hx hb dX0_seenBy_60 (by decide) ?_
          refine lv_iload_n hx hb dX0_seenBy_61 rfl (lv_at hl 2 rfl) ?_
          refine lv_imul hx hb dX0_seenBy_62 ?_
          refine lv_iconst (v := 1) hx hb dX0_seenBy_63 (by decide) ?_
          refine lv_iadd hx hb dX0_seenBy_64 ?_
          obtain ⟨h_, hf⟩ := ck_someM hf
          refine ld_I X hI has_Ri_linkIn.l.r h_ dX0_seenBy_65 ?_
          refine lv_icmp_ne (tgt := 82) hx hb dX0_seenBy_66 (by decide) (fun h_ => ?_) (fun h_ => ?_)
          · replace hf := if_f h_ hf
            exact L_82 x1 x2 x3 _ _ _ _ (lv_sub hl [1, 2, 3, 4] rfl) hI hf (fun z_0 z_1 z_2 _ _ _ hl hI hf => ih z_0 z_1 z_2 _ _ _ hl hI hf)
          · replace hf := if_t h_ hf
            exact L_69 x1 x2 x3 _ _ _ _ (lv_sub hl [1, 2, 3, 4] rfl) hI hf (fun z_0 z_1 z_2 _ _ _ hl hI hf => ih z_0 z_1 z_2 _ _ _ hl hI hf)
  unfold f_X0_seenBy at hf
  refine lv_iconst (v := 0) hx hb dX0_seenBy_0 (by decide) ?_
  refine lv_istore_n (lv' := [(2, .int (0 : Int32)), (0, .ref (a_bo 0)), (1, .int p1)]) hx hb dX0_seenBy_1 rfl hl (by decide) rfl (fun ls hl => ?_)
  refine lv_iconst (v := 0) hx hb dX0_seenBy_2 (by decide) ?_
  refine lv_istore_n (lv' := [(3, .int (0 : Int32)), (2, .int (0 : Int32)), (0, .ref (a_bo 0)), (1, .int p1)]) hx hb dX0_seenBy_3 rfl hl (by decide) rfl (fun ls hl => ?_)
  exact L_4 FU p1 (0 : Int32) (0 : Int32) _ _ _ (lv_sub hl [2, 3, 1, 0] rfl) hI hf
abbrev rm_X0_can : Room := { frames := 2, cells := 0, slots := 0, locals := 43 }
set_option maxRecDepth 20000 in
theorem c_X0_can (l : Launch) (g : GT) (a_bo : Nat → Nat) (q_bo_rings : Nat) (bo : BoS) (p1 : Int32) (r_ : Int32) (hf : f_X0_can bo p1 = some (r_)) : CI l yX0_can cX0_can 4 (some .boolean) rm_X0_can g [.ref (a_bo 0), .int p1] (wBo g a_bo q_bo_rings bo ++ []) (wBo g a_bo q_bo_rings bo ++ []) r_ := by
  refine start2 (y := yX0_can) (cc := cX0_can) (n := 4) (av := [.ref (a_bo 0), .int p1]) (ws := (wBo g a_bo q_bo_rings bo ++ [])) (Qc := fun sz => QI g (wBo g a_bo q_bo_rings bo ++ []) (wBo g a_bo q_bo_rings bo ++ []) r_ sz) (by decide) rfl ?_
  intro p e s m args below meth c ls Q A ha hQ hA X hl hI hin
  have X : Cx p s m args meth c cX0_can 4 RX0 (some .boolean) := X
  have hl : lv_has ls 4 [(0, .ref (a_bo 0)), (1, .int p1)] := hl
  obtain ⟨hx, hb, hml, hown, ht, hr, hlk⟩ := id X
  clear ha hin
  unfold f_X0_can at hf
  refine lv_iload_n hx hb dX0_can_0 rfl (lv_at hl 1 rfl) ?_
  obtain ⟨r_1, hc_, hf⟩ := bd1_some hf
  refine call_Si X hI Cj.nil (c_X0_firstOf l g p1 r_1 hc_) ⟨rfl, rfl⟩ ⟨ht _ w_1096, w_1098, ht _ w_150, lk_X0_firstOf⟩ w_1097 rfl hl rfl rfl dX0_can_1 rfl rfl rfl rfl (fun H locs hI => ?_)
  refine lv_istore_n (lv' := [(2, .int r_1), (0, .ref (a_bo 0)), (1, .int p1)]) hx hb dX0_can_4 rfl hl (by decide) rfl (fun ls hl => ?_)
  refine lv_iload_n hx hb dX0_can_5 rfl (lv_at hl 2 rfl) ?_
  obtain ⟨r_2, hc_, hf⟩ := bd1_some hf
  refine call_Si X hI Cj.nil (c_X0_secondOf l g p1 r_2 hc_) ⟨rfl, rfl⟩ ⟨ht _ w_1099, w_1101, ht _ w_150, lk_X0_secondOf⟩ w_1100 rfl hl rfl rfl dX0_can_6 rfl rfl rfl rfl (fun H locs hI => ?_)
  refine lv_istore_n (lv' := [(3, .int r_2), (2, .int r_1), (0, .ref (a_bo 0)), (1, .int p1)]) hx hb dX0_can_9 rfl hl (by decide) rfl (fun ls hl => ?_)
  refine lv_iload_n hx hb dX0_can_10 rfl (lv_at hl 3 rfl) ?_
  refine lv_bipush (v := 100) hx hb dX0_can_11 (by decide) ?_
  refine lv_icmp_ge (tgt := 27) hx hb dX0_can_13 (by decide) (fun h_ => ?_) (fun h_ => ?_)
  · replace hf := if_t h_ hf
    refine lv_iload_n hx hb dX0_can_27 rfl (lv_at hl 3 rfl) ?_
    refine lv_sipush (v := 1000) hx hb dX0_can_28 (by decide) ?_
    refine lv_icmp_ge (tgt := 44) hx hb dX0_can_31 (by decide) (fun h_ => ?_) (fun h_ => ?_)
    · replace hf := if_t h_ hf
      refine lv_aload_n hx hb dX0_can_44 rfl (lv_at hl 2 rfl) ?_
      refine g_Bo_overByOver X hI has_Bo.l (X.fl w_550) dX0_can_45 ?_
      refine lv_iload_n hx hb dX0_can_48 rfl (lv_at hl 1 rfl) ?_
      obtain ⟨h_, hf⟩ := ck_someM hf
      refine ld_I X hI has_Bo_overByOver.l h_ dX0_can_49 ?_
      refine lv_iload_n hx hb dX0_can_50 rfl (lv_at hl 0 rfl) ?_
      obtain ⟨r_3, hc_, hf⟩ := bd1_some hf
      refine call_Si X hI Cj.nil (c_X0_has l g (Bo_overByOver bo (Int32.toNatClampNeg r_1)) r_2 r_3 hc_) ⟨rfl, rfl⟩ ⟨ht _ w_964, w_966, ht _ w_150, lk_X0_has⟩ w_965 rfl hl rfl rfl dX0_can_51 rfl rfl rfl rfl (fun H locs hI => ?_)
      refine lv_if_eq (tgt := 77) hx hb dX0_can_54 (by decide) (fun h_ => ?_) (fun h_ => ?_)
      · replace hf := if_t h_ hf
        refine lv_iconst (v := 0) hx hb dX0_can_77 (by decide) ?_
        cases hf
        exact end_z hQ hA X hI rfl dX0_can_78
      · replace hf := if_f h_ hf
        refine lv_aload_n hx hb dX0_can_57 rfl (lv_at hl 2 rfl) ?_
        refine lv_iload_n hx hb dX0_can_58 rfl (lv_at hl 1 rfl) ?_
        refine lv_iload_n hx hb dX0_can_59 rfl (lv_at hl 0 rfl) ?_
        obtain ⟨r_4, hc_, hf⟩ := bd1_some hf
        refine call_Vi X hI (Cj.keep Cj.id) (c_X0_stepsWith l g a_bo q_bo_rings bo r_1 r_2 r_4 hc_) ⟨rfl, rfl⟩ ⟨ht _ w_991, w_994, ht _ w_150, lk_X0_stepsWith⟩ w_993 w_36 rfl rfl rfl hl rfl rfl dX0_can_60 rfl rfl rfl rfl (fun H locs hI => ?_)
        refine lv_iload_n hx hb dX0_can_63 rfl (lv_at hl 3 rfl) ?_
        obtain ⟨r_5, hc_, hf⟩ := bd1_some hf
        refine call_Si X hI Cj.nil (c_X0_thirdOf l g p1 r_5 hc_) ⟨rfl, rfl⟩ ⟨ht _ w_1102, w_1104, ht _ w_150, lk_X0_thirdOf⟩ w_1103 rfl hl rfl rfl dX0_can_64 rfl rfl rfl rfl (fun H locs hI => ?_)
        obtain ⟨r_6, hc_, hf⟩ := bd1_some hf
        refine call_Si X hI Cj.nil (c_X0_has l g r_4 r_5 r_6 hc_) ⟨rfl, rfl⟩ ⟨ht _ w_964, w_966, ht _ w_150, lk_X0_has⟩ w_965 rfl hl rfl rfl dX0_can_67 rfl rfl rfl rfl (fun H locs hI => ?_)
        refine lv_if_eq (tgt := 77) hx hb dX0_can_70 (by decide) (fun h_ => ?_) (fun h_ => ?_)
        · replace hf := if_t h_ hf
          refine lv_iconst (v := 0) hx hb dX0_can_77 (by decide) ?_
          cases hf
          exact end_z hQ hA X hI rfl dX0_can_78
        · replace hf := if_f h_ hf
          refine lv_iconst (v := 1) hx hb dX0_can_73 (by decide) ?_
          refine lv_goto (tgt := 78) hx hb dX0_can_74 (by decide) ?_
          cases hf
          exact end_z hQ hA X hI rfl dX0_can_78
    · replace hf := if_f h_ hf
      refine lv_aload_n hx hb dX0_can_34 rfl (lv_at hl 2 rfl) ?_
      refine lv_iload_n hx hb dX0_can_35 rfl (lv_at hl 1 rfl) ?_
      obtain ⟨r_7, hc_, hf⟩ := bd1_some hf
      refine call_Vi X hI (Cj.keep Cj.id) (c_X0_slipsWith l g a_bo q_bo_rings bo r_1 r_7 hc_) ⟨rfl, rfl⟩ ⟨ht _ w_975, w_978, ht _ w_150, lk_X0_slipsWith⟩ w_977 w_32 rfl rfl rfl hl rfl rfl dX0_can_36 rfl rfl rfl rfl (fun H locs hI => ?_)
      refine lv_iload_n hx hb dX0_can_39 rfl (lv_at hl 0 rfl) ?_
      obtain ⟨r_8, hc_, hf⟩ := bd1_some hf
      refine call_Si X hI Cj.nil (c_X0_has l g r_7 r_2 r_8 hc_) ⟨rfl, rfl⟩ ⟨ht _ w_964, w_966, ht _ w_150, lk_X0_has⟩ w_965 rfl hl rfl rfl dX0_can_40 rfl rfl rfl rfl (fun H locs hI => ?_)
      obtain ⟨hzb_, hf⟩ := zb_some hf
      cases hf
      exact end_z hQ hA X hI (zb_n hzb_) dX0_can_43
  · replace hf := if_f h_ hf
    refine lv_aload_n hx hb dX0_can_16 rfl (lv_at hl 2 rfl) ?_
    refine g_Bo_overByUnder X hI has_Bo.l (X.fl w_551) dX0_can_17 ?_
    refine lv_iload_n hx hb dX0_can_20 rfl (lv_at hl 1 rfl) ?_
    obtain ⟨h_, hf⟩ := ck_someM hf
    refine ld_I X hI has_Bo_overByUnder.l h_ dX0_can_21 ?_
    refine lv_iload_n hx hb dX0_can_22 rfl (lv_at hl 1 rfl) ?_
    obtain ⟨r_9, hc_, hf⟩ := bd1_some hf
    refine call_Si X hI Cj.nil (c_X0_has l g (Bo_overByUnder bo (Int32.toNatClampNeg r_1)) r_1 r_9 hc_) ⟨rfl, rfl⟩ ⟨ht _ w_964, w_966, ht _ w_150, lk_X0_has⟩ w_965 rfl hl rfl rfl dX0_can_23 rfl rfl rfl rfl (fun H locs hI => ?_)
    obtain ⟨hzb_, hf⟩ := zb_some hf
    cases hf
    exact end_z hQ hA X hI (zb_n hzb_) dX0_can_26
abbrev rm_X0_goerLink : Room := { frames := 1, cells := 0, slots := 0, locals := 24 }
set_option maxRecDepth 20000 in
theorem c_X0_goerLink (l : Launch) (g : GT) (a_bo : Nat → Nat) (a_ri : Nat → Nat) (bo : BoS) (ri : RiS) (p1 : Int32) (r_ : Int32) (hf : f_X0_goerLink bo ri p1 = some (r_)) : CI l yX0_goerLink cX0_goerLink 4 (some .int) rm_X0_goerLink g [.ref (a_bo 0), .int p1] (wBo g a_bo (a_ri 0) bo ++ (wRi g a_ri ri ++ [])) (wBo g a_bo (a_ri 0) bo ++ (wRi g a_ri ri ++ [])) r_ := by
  refine start2 (y := yX0_goerLink) (cc := cX0_goerLink) (n := 4) (av := [.ref (a_bo 0), .int p1]) (ws := (wBo g a_bo (a_ri 0) bo ++ (wRi g a_ri ri ++ []))) (Qc := fun sz => QI g (wBo g a_bo (a_ri 0) bo ++ (wRi g a_ri ri ++ [])) (wBo g a_bo (a_ri 0) bo ++ (wRi g a_ri ri ++ [])) r_ sz) (by decide) rfl ?_
  intro p e s m args below meth c ls Q A ha hQ hA X hl hI hin
  have X : Cx p s m args meth c cX0_goerLink 4 RX0 (some .int) := X
  have hl : lv_has ls 4 [(0, .ref (a_bo 0)), (1, .int p1)] := hl
  obtain ⟨hx, hb, hml, hown, ht, hr, hlk⟩ := id X
  clear ha hin
  have L_37 : ∀ (x2 : Int32) (t0i : Int32) (H : Heap) (locs : List Loc) (ls : Array Slot), lv_has ls 4 [(0, .ref (a_bo 0)), (2, .int x2)] → In g A s.heap s (wBo g a_bo (a_ri 0) bo ++ (wRi g a_ri ri ++ [])) H locs → f_X0_goerLink_L37 x2 t0i bo ri = some (r_) → W p l e rm_X0_goerLink s m args below meth c H locs 0 0 Q (F0 m 37 ls [.int t0i]) := by
    intro x2 t0i H locs ls hl hI hf
    unfold f_X0_goerLink_L37 at hf
    refine lv_istore_n (lv' := [(3, .int t0i), (0, .ref (a_bo 0)), (2, .int x2)]) hx hb dX0_goerLink_37 rfl hl (by decide) rfl (fun ls hl => ?_)
    refine lv_aload_n hx hb dX0_goerLink_38 rfl (lv_at hl 1 rfl) ?_
    refine lv_iload_n hx hb dX0_goerLink_39 rfl (lv_at hl 2 rfl) ?_
    refine lv_iload_n hx hb dX0_goerLink_40 rfl (lv_at hl 0 rfl) ?_
    obtain ⟨r_5, hc_, hf⟩ := bd1_some hf
    refine call_Vi X hI (Cj.keep (Cj.keep Cj.id)) (c_X0_lowLink l g a_bo a_ri bo ri x2 t0i r_5 hc_) ⟨rfl, rfl⟩ ⟨ht _ w_983, w_986, ht _ w_150, lk_X0_lowLink⟩ w_985 w_34 rfl rfl rfl hl rfl rfl dX0_goerLink_41 rfl rfl rfl rfl (fun H locs hI => ?_)
    cases hf
    exact end_i hQ hA X hI dX0_goerLink_44
  have L_18 : ∀ (x1 : Int32) (t0i : Int32) (H : Heap) (locs : List Loc) (ls : Array Slot), lv_has ls 4 [(0, .ref (a_bo 0)), (1, .int x1)] → In g A s.heap s (wBo g a_bo (a_ri 0) bo ++ (wRi g a_ri ri ++ [])) H locs → f_X0_goerLink_L18 x1 t0i bo ri = some (r_) → W p l e rm_X0_goerLink s m args below meth c H locs 0 0 Q (F0 m 18 ls [.int t0i]) := by
    intro x1 t0i H locs ls hl hI hf
    unfold f_X0_goerLink_L18 at hf
    refine lv_istore_n (lv' := [(2, .int t0i), (0, .ref (a_bo 0)), (1, .int x1)]) hx hb dX0_goerLink_18 rfl hl (by decide) rfl (fun ls hl => ?_)
    refine lv_iload_n hx hb dX0_goerLink_19 rfl (lv_at hl 2 rfl) ?_
    refine lv_sipush (v := 1000) hx hb dX0_goerLink_20 (by decide) ?_
    refine lv_icmp_ge (tgt := 33) hx hb dX0_goerLink_23 (by decide) (fun h_ => ?_) (fun h_ => ?_)
    · replace hf := if_t h_ hf
      refine lv_iload_n hx hb dX0_goerLink_33 rfl (lv_at hl 2 rfl) ?_
      obtain ⟨r_3, hc_, hf⟩ := bd1_some hf
      refine call_Si X hI Cj.nil (c_X0_thirdOf l g x1 r_3 hc_) ⟨rfl, rfl⟩ ⟨ht _ w_1102, w_1104, ht _ w_150, lk_X0_thirdOf⟩ w_1103 rfl hl rfl rfl dX0_goerLink_34 rfl rfl rfl rfl (fun H locs hI => ?_)
      exact L_37 t0i r_3 _ _ _ (lv_sub hl [1, 0] rfl) hI hf
    · replace hf := if_f h_ hf
      refine lv_iload_n hx hb dX0_goerLink_26 rfl (lv_at hl 2 rfl) ?_
      obtain ⟨r_4, hc_, hf⟩ := bd1_some hf
      refine call_Si X hI Cj.nil (c_X0_secondOf l g x1 r_4 hc_) ⟨rfl, rfl⟩ ⟨ht _ w_1099, w_1101, ht _ w_150, lk_X0_secondOf⟩ w_1100 rfl hl rfl rfl dX0_goerLink_27 rfl rfl rfl rfl (fun H locs hI => ?_)
      refine lv_goto (tgt := 37) hx hb dX0_goerLink_30 (by decide) ?_
      exact L_37 t0i r_4 _ _ _ (lv_sub hl [1, 0] rfl) hI hf
  unfold f_X0_goerLink at hf
  refine lv_iload_n hx hb dX0_goerLink_0 rfl (lv_at hl 1 rfl) ?_
  refine lv_sipush (v := 1000) hx hb dX0_goerLink_1 (by decide) ?_
  refine lv_icmp_ge (tgt := 14) hx hb dX0_goerLink_4 (by decide) (fun h_ => ?_) (fun h_ => ?_)
  · replace hf := if_t h_ hf
    refine lv_iload_n hx hb dX0_goerLink_14 rfl (lv_at hl 1 rfl) ?_
    obtain ⟨r_1, hc_, hf⟩ := bd1_some hf
    refine call_Si X hI Cj.nil (c_X0_secondOf l g p1 r_1 hc_) ⟨rfl, rfl⟩ ⟨ht _ w_1099, w_1101, ht _ w_150, lk_X0_secondOf⟩ w_1100 rfl hl rfl rfl dX0_goerLink_15 rfl rfl rfl rfl (fun H locs hI => ?_)
    exact L_18 p1 r_1 _ _ _ hl hI hf
  · replace hf := if_f h_ hf
    refine lv_iload_n hx hb dX0_goerLink_7 rfl (lv_at hl 1 rfl) ?_
    obtain ⟨r_2, hc_, hf⟩ := bd1_some hf
    refine call_Si X hI Cj.nil (c_X0_firstOf l g p1 r_2 hc_) ⟨rfl, rfl⟩ ⟨ht _ w_1096, w_1098, ht _ w_150, lk_X0_firstOf⟩ w_1097 rfl hl rfl rfl dX0_goerLink_8 rfl rfl rfl rfl (fun H locs hI => ?_)
    refine lv_goto (tgt := 18) hx hb dX0_goerLink_11 (by decide) ?_
    exact L_18 p1 r_2 _ _ _ hl hI hf
abbrev rm_X0_allows : Room := { frames := 3, cells := 0, slots := 0, locals := 66 }
set_option maxRecDepth 20000 in
theorem c_X0_allows (l : Launch) (g : GT) (a_bo : Nat → Nat) (a_ri : Nat → Nat) (bo : BoS) (ri : RiS) (p1 : Int32) (r_ : Int32) (hf : f_X0_allows bo ri p1 = some (r_)) : CI l yX0_allows cX0_allows 2 (some .boolean) rm_X0_allows g [.ref (a_bo 0), .int p1] (wBo g a_bo (a_ri 0) bo ++ (wRi g a_ri ri ++ [])) (wBo g a_bo (a_ri 0) bo ++ (wRi g a_ri ri ++ [])) r_ := by
  refine start2 (y := yX0_allows) (cc := cX0_allows) (n := 2) (av := [.ref (a_bo 0), .int p1]) (ws := (wBo g a_bo (a_ri 0) bo ++ (wRi g a_ri ri ++ []))) (Qc := fun sz => QI g (wBo g a_bo (a_ri 0) bo ++ (wRi g a_ri ri ++ [])) (wBo g a_bo (a_ri 0) bo ++ (wRi g a_ri ri ++ [])) r_ sz) (by decide) rfl ?_
  intro p e s m args below meth c ls Q A ha hQ hA X hl hI hin
  have X : Cx p s m args meth c cX0_allows 2 RX0 (some .boolean) := X
  have hl : lv_has ls 2 [(0, .ref (a_bo 0)), (1, .int p1)] := hl
  obtain ⟨hx, hb, hml, hown, ht, hr, hlk⟩ := id X
  clear ha hin
  unfold f_X0_allows at hf
  refine lv_aload_n hx hb dX0_allows_0 rfl (lv_at hl 0 rfl) ?_
  refine lv_iload_n hx hb dX0_allows_1 rfl (lv_at hl 1 rfl) ?_
  obtain ⟨r_1, hc_, hf⟩ := bd1_some hf
  refine call_Vi X hI (Cj.keep Cj.nil) (c_X0_can l g a_bo (a_ri 0) bo p1 r_1 hc_) ⟨rfl, rfl⟩ ⟨ht _ w_1109, w_1112, ht _ w_150, lk_X0_can⟩ w_1110 w_1111 rfl rfl rfl hl rfl rfl dX0_allows_2 rfl rfl rfl rfl (fun H locs hI => ?_)
  refine lv_if_eq (tgt := 34) hx hb dX0_allows_5 (by decide) (fun h_ => ?_) (fun h_ => ?_)
  · replace hf := if_t h_ hf
    refine lv_iconst (v := 0) hx hb dX0_allows_34 (by decide) ?_
    cases hf
    exact end_z hQ hA X hI rfl dX0_allows_35
  · replace hf := if_f h_ hf
    refine lv_iload_n hx hb dX0_allows_8 rfl (lv_at hl 1 rfl) ?_
    refine lv_bipush (v := 100) hx hb dX0_allows_9 (by decide) ?_
    refine lv_icmp_lt (tgt := 30) hx hb dX0_allows_11 (by decide) (fun h_ => ?_) (fun h_ => ?_)
    · replace hf := if_t h_ hf
      refine lv_iconst (v := 1) hx hb dX0_allows_30 (by decide) ?_
      refine lv_goto (tgt := 35) hx hb dX0_allows_31 (by decide) ?_
      cases hf
      exact end_z hQ hA X hI rfl dX0_allows_35
    · replace hf := if_f h_ hf
      refine lv_aload_n hx hb dX0_allows_14 rfl (lv_at hl 0 rfl) ?_
      refine g_Bo_rings X hI has_Bo.l (X.fl w_537) dX0_allows_15 ?_
      refine g_Ri_linkFits X hI has_Ri.l.r (hI.fn (List.mem_of_getElem? (i := 54) rfl)) dX0_allows_18 ?_
      refine lv_aload_n hx hb dX0_allows_21 rfl (lv_at hl 0 rfl) ?_
      refine lv_iload_n hx hb dX0_allows_22 rfl (lv_at hl 1 rfl) ?_
      obtain ⟨r_2, hc_, hf⟩ := bd1_some hf
      refine call_Vi X hI (Cj.keep (Cj.keep Cj.id)) (c_X0_goerLink l g a_bo a_ri bo ri p1 r_2 hc_) ⟨rfl, rfl⟩ ⟨ht _ w_1113, w_1116, ht _ w_150, lk_X0_goerLink⟩ w_1115 w_45 rfl rfl rfl hl rfl rfl dX0_allows_23 rfl rfl rfl rfl (fun H locs hI => ?_)
      obtain ⟨h_, hf⟩ := ck_someM hf
      refine ld_Z X hI has_Ri_linkFits.l.r h_ dX0_allows_26 ?_
      refine lv_if_eq (tgt := 34) hx hb dX0_allows_27 (by decide) (fun h_ => ?_) (fun h_ => ?_)
      · replace hf := if_t h_ hf
        refine lv_iconst (v := 0) hx hb dX0_allows_34 (by decide) ?_
        cases hf
        exact end_z hQ hA X hI rfl dX0_allows_35
      · replace hf := if_f h_ hf
        refine lv_iconst (v := 1) hx hb dX0_allows_30 (by decide) ?_
        refine lv_goto (tgt := 35) hx hb dX0_allows_31 (by decide) ?_
        cases hf
        exact end_z hQ hA X hI rfl dX0_allows_35
abbrev rm_X0_whoGoes : Room := { frames := 2, cells := 0, slots := 0, locals := 47 }
set_option maxRecDepth 20000 in
theorem c_X0_whoGoes (l : Launch) (g : GT) (a_bo : Nat → Nat) (a_ri : Nat → Nat) (bo : BoS) (ri : RiS) (p1 : Int32) (r_ : Int32) (hf : f_X0_whoGoes bo ri p1 = some (r_)) : CI l yX0_whoGoes cX0_whoGoes 2 (some .int) rm_X0_whoGoes g [.ref (a_bo 0), .int p1] (wBo g a_bo (a_ri 0) bo ++ (wRi g a_ri ri ++ [])) (wBo g a_bo (a_ri 0) bo ++ (wRi g a_ri ri ++ [])) r_ := by
  refine start2 (y := yX0_whoGoes) (cc := cX0_whoGoes) (n := 2) (av := [.ref (a_bo 0), .int p1]) (ws := (wBo g a_bo (a_ri 0) bo ++ (wRi g a_ri ri ++ []))) (Qc := fun sz => QI g (wBo g a_bo (a_ri 0) bo ++ (wRi g a_ri ri ++ [])) (wBo g a_bo (a_ri 0) bo ++ (wRi g a_ri ri ++ [])) r_ sz) (by decide) rfl ?_
  intro p e s m args below meth c ls Q A ha hQ hA X hl hI hin
  have X : Cx p s m args meth c cX0_whoGoes 2 RX0 (some .int) := X
  have hl : lv_has ls 2 [(0, .ref (a_bo 0)), (1, .int p1)] := hl
  obtain ⟨hx, hb, hml, hown, ht, hr, hlk⟩ := id X
  clear ha hin
  unfold f_X0_whoGoes at hf
  refine lv_iload_n hx hb dX0_whoGoes_0 rfl (lv_at hl 1 rfl) ?_
  refine lv_bipush (v := 100) hx hb dX0_whoGoes_1 (by decide) ?_
  refine lv_icmp_ge (tgt := 11) hx hb dX0_whoGoes_3 (by decide) (fun h_ => ?_) (fun h_ => ?_)
  · replace hf := if_t h_ hf
    refine lv_aload_n hx hb dX0_whoGoes_11 rfl (lv_at hl 0 rfl) ?_
    refine g_Bo_rings X hI has_Bo.l (X.fl w_537) dX0_whoGoes_12 ?_
    refine g_Ri_linkGoer X hI has_Ri.l.r (hI.fn (List.mem_of_getElem? (i := 50) rfl)) dX0_whoGoes_15 ?_
    refine lv_aload_n hx hb dX0_whoGoes_18 rfl (lv_at hl 0 rfl) ?_
    refine lv_iload_n hx hb dX0_whoGoes_19 rfl (lv_at hl 1 rfl) ?_
    obtain ⟨r_1, hc_, hf⟩ := bd1_some hf
    refine call_Vi X hI (Cj.keep (Cj.keep Cj.id)) (c_X0_goerLink l g a_bo a_ri bo ri p1 r_1 hc_) ⟨rfl, rfl⟩ ⟨ht _ w_1113, w_1116, ht _ w_150, lk_X0_goerLink⟩ w_1115 w_45 rfl rfl rfl hl rfl rfl dX0_whoGoes_20 rfl rfl rfl rfl (fun H locs hI => ?_)
    obtain ⟨h_, hf⟩ := ck_someM hf
    refine ld_I X hI has_Ri_linkGoer.l.r h_ dX0_whoGoes_23 ?_
    cases hf
    exact end_i hQ hA X hI dX0_whoGoes_24
  · replace hf := if_f h_ hf
    refine lv_bipush (v := (-2)) hx hb dX0_whoGoes_6 (by decide) ?_
    refine lv_goto (tgt := 24) hx hb dX0_whoGoes_8 (by decide) ?_
    cases hf
    exact end_i hQ hA X hI dX0_whoGoes_24
abbrev rm_X0_leftBehind : Room := { frames := 0, cells := 0, slots := 0, locals := 0 }
set_option maxRecDepth 20000 in
theorem c_X0_leftBehind (l : Launch) (g : GT) (a_bo : Nat → Nat) (q_bo_rings : Nat) (bo : BoS) (p1 : Int32) (r_ : Int32) (hf : f_X0_leftBehind bo p1 = some (r_)) : CI l yX0_leftBehind cX0_leftBehind 2 (some .int) rm_X0_leftBehind g [.ref (a_bo 0), .int p1] (wBo g a_bo q_bo_rings bo ++ []) (wBo g a_bo q_bo_rings bo ++ []) r_ := by
  refine start2 (y := yX0_leftBehind) (cc := cX0_leftBehind) (n := 2) (av := [.ref (a_bo 0), .int p1]) (ws := (wBo g a_bo q_bo_rings bo ++ [])) (Qc := fun sz => QI g (wBo g a_bo q_bo_rings bo ++ []) (wBo g a_bo q_bo_rings bo ++ []) r_ sz) (by decide) rfl ?_
  intro p e s m args below meth c ls Q A ha hQ hA X hl hI hin
  have X : Cx p s m args meth c cX0_leftBehind 2 RX0 (some .int) := X
  have hl : lv_has ls 2 [(0, .ref (a_bo 0)), (1, .int p1)] := hl
  obtain ⟨hx, hb, hml, hown, ht, hr, hlk⟩ := id X
  clear ha hin
  unfold f_X0_leftBehind at hf
  refine lv_iload_n hx hb dX0_leftBehind_0 rfl (lv_at hl 1 rfl) ?_
  refine lv_bipush (v := 100) hx hb dX0_leftBehind_1 (by decide) ?_
  refine lv_icmp_ge (tgt := 15) hx hb dX0_leftBehind_3 (by decide) (fun h_ => ?_) (fun h_ => ?_)
  · replace hf := if_t h_ hf
    refine lv_iload_n hx hb dX0_leftBehind_15 rfl (lv_at hl 1 rfl) ?_
    refine lv_sipush (v := 1000) hx hb dX0_leftBehind_16 (by decide) ?_
    refine lv_icmp_ge (tgt := 31) hx hb dX0_leftBehind_19 (by decide) (fun h_ => ?_) (fun h_ => ?_)
    · replace hf := if_t h_ hf
      refine lv_aload_n hx hb dX0_leftBehind_31 rfl (lv_at hl 0 rfl) ?_
      refine g_Bo_left X hI has_Bo.l (X.fl w_543) dX0_leftBehind_32 ?_
      cases hf
      exact end_i hQ hA X hI dX0_leftBehind_35
    · replace hf := if_f h_ hf
      refine lv_aload_n hx hb dX0_leftBehind_22 rfl (lv_at hl 0 rfl) ?_
      refine g_Bo_left X hI has_Bo.l (X.fl w_543) dX0_leftBehind_23 ?_
      refine lv_iconst (v := 2) hx hb dX0_leftBehind_26 (by decide) ?_
      refine lv_isub hx hb dX0_leftBehind_27 ?_
      refine lv_goto (tgt := 35) hx hb dX0_leftBehind_28 (by decide) ?_
      cases hf
      exact end_i hQ hA X hI dX0_leftBehind_35
  · replace hf := if_f h_ hf
    refine lv_aload_n hx hb dX0_leftBehind_6 rfl (lv_at hl 0 rfl) ?_
    refine g_Bo_left X hI has_Bo.l (X.fl w_543) dX0_leftBehind_7 ?_
    refine lv_iconst (v := 1) hx hb dX0_leftBehind_10 (by decide) ?_
    refine lv_isub hx hb dX0_leftBehind_11 ?_
    refine lv_goto (tgt := 35) hx hb dX0_leftBehind_12 (by decide) ?_
    cases hf
    exact end_i hQ hA X hI dX0_leftBehind_35
abbrev rm_X0_drawn : Room := { frames := 0, cells := 0, slots := 0, locals := 0 }
set_option maxRecDepth 20000 in
theorem c_X0_drawn (l : Launch) (g : GT) (a_bo : Nat → Nat) (q_bo_rings : Nat) (bo : BoS) (p1 : Int32) (r_ : Int32) (hf : f_X0_drawn bo p1 = some (r_)) : CI l yX0_drawn cX0_drawn 2 (some .int) rm_X0_drawn g [.ref (a_bo 0), .int p1] (wBo g a_bo q_bo_rings bo ++ []) (wBo g a_bo q_bo_rings bo ++ []) r_ := by
  refine start2 (y := yX0_drawn) (cc := cX0_drawn) (n := 2) (av := [.ref (a_bo 0), .int p1]) (ws := (wBo g a_bo q_bo_rings bo ++ [])) (Qc := fun sz => QI g (wBo g a_bo q_bo_rings bo ++ []) (wBo g a_bo q_bo_rings bo ++ []) r_ sz) (by decide) rfl ?_
  intro p e s m args below meth c ls Q A ha hQ hA X hl hI hin
  have X : Cx p s m args meth c cX0_drawn 2 RX0 (some .int) := X
  have hl : lv_has ls 2 [(0, .ref (a_bo 0)), (1, .int p1)] := hl
  obtain ⟨hx, hb, hml, hown, ht, hr, hlk⟩ := id X
  clear ha hin
  unfold f_X0_drawn at hf
  refine lv_aload_n hx hb dX0_drawn_0 rfl (lv_at hl 0 rfl) ?_
  refine g_Bo_count X hI has_Bo.l (X.fl w_559) dX0_drawn_1 ?_
  refine lv_if_ne (tgt := 12) hx hb dX0_drawn_4 (by decide) (fun h_ => ?_) (fun h_ => ?_)
  · replace hf := if_f h_ hf
    refine lv_aload_n hx hb dX0_drawn_12 rfl (lv_at hl 0 rfl) ?_
    refine g_Bo_numbers X hI has_Bo.l (X.fl w_553) dX0_drawn_13 ?_
    refine lv_iload_n hx hb dX0_drawn_16 rfl (lv_at hl 1 rfl) ?_
    refine lv_aload_n hx hb dX0_drawn_17 rfl (lv_at hl 0 rfl) ?_
    refine g_Bo_count X hI has_Bo.l (X.fl w_559) dX0_drawn_18 ?_
    obtain ⟨h_, hf⟩ := nz_some hf
    refine lv_irem hx hb dX0_drawn_21 h_ ?_
    obtain ⟨h_, hf⟩ := ck_someM hf
    refine ld_I X hI has_Bo_numbers.l h_ dX0_drawn_22 ?_
    cases hf
    exact end_i hQ hA X hI dX0_drawn_23
  · replace hf := if_t h_ hf
    refine lv_bipush (v := (-2)) hx hb dX0_drawn_7 (by decide) ?_
    refine lv_goto (tgt := 23) hx hb dX0_drawn_9 (by decide) ?_
    cases hf
    exact end_i hQ hA X hI dX0_drawn_23
abbrev rm_X0_exchange : Room := { frames := 0, cells := 0, slots := 0, locals := 0 }
set_option maxRecDepth 20000 in
theorem c_X0_exchange (l : Launch) (g : GT) (a_bo : Nat → Nat) (q_bo_rings : Nat) (bo : BoS) (p1 : Int32) (p2 : Int32) (r_ : Int64) (hf : f_X0_exchange bo p1 p2 = some (r_)) : CL l yX0_exchange cX0_exchange 5 (some .long) rm_X0_exchange g [.ref (a_bo 0), .int p1, .int p2] (wBo g a_bo q_bo_rings bo ++ []) (wBo g a_bo q_bo_rings bo ++ []) r_ := by
  refine start2 (y := yX0_exchange) (cc := cX0_exchange) (n := 5) (av := [.ref (a_bo 0), .int p1, .int p2]) (ws := (wBo g a_bo q_bo_rings bo ++ [])) (Qc := fun sz => QL g (wBo g a_bo q_bo_rings bo ++ []) (wBo g a_bo q_bo_rings bo ++ []) r_ sz) (by decide) rfl ?_
  intro p e s m args below meth c ls Q A ha hQ hA X hl hI hin
  have X : Cx p s m args meth c cX0_exchange 5 RX0 (some .long) := X
  have hl : lv_has ls 5 [(0, .ref (a_bo 0)), (1, .int p1), (2, .int p2)] := hl
  obtain ⟨hx, hb, hml, hown, ht, hr, hlk⟩ := id X
  clear ha hin
  unfold f_X0_exchange at hf
  refine lv_iload_n hx hb dX0_exchange_0 rfl (lv_at hl 1 rfl) ?_
  refine lv_iconst (v := 1) hx hb dX0_exchange_1 (by decide) ?_
  refine lv_iadd hx hb dX0_exchange_2 ?_
  refine lv_iload_n hx hb dX0_exchange_3 rfl (lv_at hl 2 rfl) ?_
  refine lv_iconst (v := 1) hx hb dX0_exchange_4 (by decide) ?_
  refine lv_iadd hx hb dX0_exchange_5 ?_
  refine lv_ixor hx hb dX0_exchange_6 ?_
  refine lv_i2l hx hb dX0_exchange_7 rfl ?_
  refine lv_topl (fun v_1 e_ => ?_)
  replace hf := lt_to e_ hf
  clear e_
  refine lv_lstore_n (lv' := [(3, .long v_1), (0, .ref (a_bo 0)), (1, .int p1), (2, .int p2)]) hx hb dX0_exchange_8 rfl hl (by decide) rfl (fun ls hl => ?_)
  refine lv_lload_n hx hb dX0_exchange_9 rfl (lv_at hl 0 rfl) ?_
  refine lv_iconst (v := 4) hx hb dX0_exchange_10 (by decide) ?_
  refine lv_aload_n hx hb dX0_exchange_11 rfl (lv_at hl 1 rfl) ?_
  refine g_Bo_standing X hI has_Bo.l (X.fl w_545) dX0_exchange_12 ?_
  refine lv_iload_n hx hb dX0_exchange_15 rfl (lv_at hl 2 rfl) ?_
  obtain ⟨h_, hf⟩ := ck_someM hf
  refine ld_I X hI has_Bo_standing.l h_ dX0_exchange_16 ?_
  refine lv_imul hx hb dX0_exchange_17 ?_
  refine lv_lshl hx hb dX0_exchange_18 rfl ?_
  refine lv_lload_n hx hb dX0_exchange_19 rfl (lv_at hl 0 rfl) ?_
  refine lv_iconst (v := 4) hx hb dX0_exchange_20 (by decide) ?_
  refine lv_aload_n hx hb dX0_exchange_21 rfl (lv_at hl 1 rfl) ?_
  refine g_Bo_standing X hI has_Bo.l (X.fl w_545) dX0_exchange_22 ?_
  refine lv_iload_n hx hb dX0_exchange_25 rfl (lv_at hl 3 rfl) ?_
  obtain ⟨h_, hf⟩ := ck_someM hf
  refine ld_I X hI has_Bo_standing.l h_ dX0_exchange_26 ?_
  refine lv_imul hx hb dX0_exchange_27 ?_
  refine lv_lshl hx hb dX0_exchange_28 rfl ?_
  refine lv_lor hx hb dX0_exchange_29 ?_
  cases hf
  exact end_l hQ hA X hI dX0_exchange_30
abbrev rm_X0_placesOf : Room := { frames := 0, cells := 0, slots := 0, locals := 0 }
set_option maxRecDepth 20000 in
theorem c_X0_placesOf (l : Launch) (g : GT) (a_bo : Nat → Nat) (q_bo_rings : Nat) (bo : BoS) (p1 : Int32) (r_ : Int64) (hf : f_X0_placesOf bo p1 = some (r_)) : CL l yX0_placesOf cX0_placesOf 2 (some .long) rm_X0_placesOf g [.ref (a_bo 0), .int p1] (wBo g a_bo q_bo_rings bo ++ []) (wBo g a_bo q_bo_rings bo ++ []) r_ := by
  refine start2 (y := yX0_placesOf) (cc := cX0_placesOf) (n := 2) (av := [.ref (a_bo 0), .int p1]) (ws := (wBo g a_bo q_bo_rings bo ++ [])) (Qc := fun sz => QL g (wBo g a_bo q_bo_rings bo ++ []) (wBo g a_bo q_bo_rings bo ++ []) r_ sz) (by decide) rfl ?_
  intro p e s m args below meth c ls Q A ha hQ hA X hl hI hin
  have X : Cx p s m args meth c cX0_placesOf 2 RX0 (some .long) := X
  have hl : lv_has ls 2 [(0, .ref (a_bo 0)), (1, .int p1)] := hl
  obtain ⟨hx, hb, hml, hown, ht, hr, hlk⟩ := id X
  clear ha hin
  unfold f_X0_placesOf at hf
  refine lv_ldc2 (v := 15) hx hb hown (ht _ w_1171) dX0_placesOf_0 ?_
  refine lv_iconst (v := 4) hx hb dX0_placesOf_3 (by decide) ?_
  refine lv_aload_n hx hb dX0_placesOf_4 rfl (lv_at hl 0 rfl) ?_
  refine g_Bo_standing X hI has_Bo.l (X.fl w_545) dX0_placesOf_5 ?_
  refine lv_iconst (v := 2) hx hb dX0_placesOf_8 (by decide) ?_
  refine lv_iload_n hx hb dX0_placesOf_9 rfl (lv_at hl 1 rfl) ?_
  refine lv_imul hx hb dX0_placesOf_10 ?_
  obtain ⟨h_, hf⟩ := ck_someM hf
  refine ld_I X hI has_Bo_standing.l h_ dX0_placesOf_11 ?_
  refine lv_imul hx hb dX0_placesOf_12 ?_
  refine lv_lshl hx hb dX0_placesOf_13 rfl ?_
  refine lv_ldc2 (v := 15) hx hb hown (ht _ w_1171) dX0_placesOf_14 ?_
  refine lv_iconst (v := 4) hx hb dX0_placesOf_17 (by decide) ?_
  refine lv_aload_n hx hb dX0_placesOf_18 rfl (lv_at hl 0 rfl) ?_
  refine g_Bo_standing X hI has_Bo.l (X.fl w_545) dX0_placesOf_19 ?_
  refine lv_iconst (v := 2) hx hb dX0_placesOf_22 (by decide) ?_
  refine lv_iload_n hx hb dX0_placesOf_23 rfl (lv_at hl 1 rfl) ?_
  refine lv_imul hx hb dX0_placesOf_24 ?_
  refine lv_iconst (v := 1) hx hb dX0_placesOf_25 (by decide) ?_
  refine lv_iadd hx hb dX0_placesOf_26 ?_
  obtain ⟨h_, hf⟩ := ck_someM hf
  refine ld_I X hI has_Bo_standing.l h_ dX0_placesOf_27 ?_
  refine lv_imul hx hb dX0_placesOf_28 ?_
  refine lv_lshl hx hb dX0_placesOf_29 rfl ?_
  refine lv_lor hx hb dX0_placesOf_30 ?_
  cases hf
  exact end_l hQ hA X hI dX0_placesOf_31
abbrev rm_X0_after : Room := { frames := 1, cells := 0, slots := 0, locals := 24 }
set_option maxRecDepth 20000 in
theorem c_X0_after (l : Launch) (g : GT) (a_bo : Nat → Nat) (q_bo_rings : Nat) (bo : BoS) (p1 : Int32) (r_ : Int64) (hf : f_X0_after bo p1 = some (r_)) : CL l yX0_after cX0_after 5 (some .long) rm_X0_after g [.ref (a_bo 0), .int p1] (wBo g a_bo q_bo_rings bo ++ []) (wBo g a_bo q_bo_rings bo ++ []) r_ := by
  refine start2 (y := yX0_after) (cc := cX0_after) (n := 5) (av := [.ref (a_bo 0), .int p1]) (ws := (wBo g a_bo q_bo_rings bo ++ [])) (Qc := fun sz => QL g (wBo g a_bo q_bo_rings bo ++ []) (wBo g a_bo q_bo_rings bo ++ []) r_ sz) (by decide) rfl ?_
  intro p e s m args below meth c ls Q A ha hQ hA X hl hI hin
  have X : Cx p s m args meth c cX0_after 5 RX0 (some .long) := X
  have hl : lv_has ls 5 [(0, .ref (a_bo 0)), (1, .int p1)] := hl
  obtain ⟨hx, hb, hml, hown, ht, hr, hlk⟩ := id X
  clear ha hin
  unfold f_X0_after at hf
  refine lv_iload_n hx hb dX0_after_0 rfl (lv_at hl 1 rfl) ?_
  obtain ⟨r_1, hc_, hf⟩ := bd1_some hf
  refine call_Si X hI Cj.nil (c_X0_firstOf l g p1 r_1 hc_) ⟨rfl, rfl⟩ ⟨ht _ w_1096, w_1098, ht _ w_150, lk_X0_firstOf⟩ w_1097 rfl hl rfl rfl dX0_after_1 rfl rfl rfl rfl (fun H locs hI => ?_)
  refine lv_istore_n (lv' := [(2, .int r_1), (0, .ref (a_bo 0)), (1, .int p1)]) hx hb dX0_after_4 rfl hl (by decide) rfl (fun ls hl => ?_)
  refine lv_iload_n hx hb dX0_after_5 rfl (lv_at hl 2 rfl) ?_
  obtain ⟨r_2, hc_, hf⟩ := bd1_some hf
  refine call_Si X hI Cj.nil (c_X0_secondOf l g p1 r_2 hc_) ⟨rfl, rfl⟩ ⟨ht _ w_1099, w_1101, ht _ w_150, lk_X0_secondOf⟩ w_1100 rfl hl rfl rfl dX0_after_6 rfl rfl rfl rfl (fun H locs hI => ?_)
  refine lv_istore_n (lv' := [(3, .int r_2), (2, .int r_1), (0, .ref (a_bo 0)), (1, .int p1)]) hx hb dX0_after_9 rfl hl (by decide) rfl (fun ls hl => ?_)
  refine lv_iload_n hx hb dX0_after_10 rfl (lv_at hl 3 rfl) ?_
  refine lv_bipush (v := 100) hx hb dX0_after_11 (by decide) ?_
  refine lv_icmp_ge (tgt := 31) hx hb dX0_after_13 (by decide) (fun h_ => ?_) (fun h_ => ?_)
  · replace hf := if_t h_ hf
    refine lv_iload_n hx hb dX0_after_31 rfl (lv_at hl 3 rfl) ?_
    refine lv_sipush (v := 1000) hx hb dX0_after_32 (by decide) ?_
    refine lv_icmp_ge (tgt := 63) hx hb dX0_after_35 (by decide) (fun h_ => ?_) (fun h_ => ?_)
    · replace hf := if_t h_ hf
      refine lv_iload_n hx hb dX0_after_63 rfl (lv_at hl 3 rfl) ?_
      obtain ⟨r_3, hc_, hf⟩ := bd1_some hf
      refine call_Si X hI Cj.nil (c_X0_thirdOf l g p1 r_3 hc_) ⟨rfl, rfl⟩ ⟨ht _ w_1102, w_1104, ht _ w_150, lk_X0_thirdOf⟩ w_1103 rfl hl rfl rfl dX0_after_64 rfl rfl rfl rfl (fun H locs hI => ?_)
      refine lv_istore (lv' := [(4, .int r_3), (3, .int r_2), (2, .int r_1), (0, .ref (a_bo 0)), (1, .int p1)]) hx hb dX0_after_67 hl (by decide) rfl (fun ls hl => ?_)
      refine lv_aload_n hx hb dX0_after_69 rfl (lv_at hl 3 rfl) ?_
      refine g_Bo_key X hI has_Bo.l (X.fl w_539) dX0_after_70 ?_
      refine lv_aload_n hx hb dX0_after_73 rfl (lv_at hl 3 rfl) ?_
      refine lv_iconst (v := 2) hx hb dX0_after_74 (by decide) ?_
      refine lv_iload_n hx hb dX0_after_75 rfl (lv_at hl 2 rfl) ?_
      refine lv_imul hx hb dX0_after_76 ?_
      refine lv_iconst (v := 1) hx hb dX0_after_77 (by decide) ?_
      refine lv_iadd hx hb dX0_after_78 ?_
      refine lv_iconst (v := 2) hx hb dX0_after_79 (by decide) ?_
      refine lv_iload_n hx hb dX0_after_80 rfl (lv_at hl 1 rfl) ?_
      refine lv_imul hx hb dX0_after_81 ?_
      refine lv_iconst (v := 1) hx hb dX0_after_82 (by decide) ?_
      refine lv_iadd hx hb dX0_after_83 ?_
      obtain ⟨r_4, hc_, hf⟩ := bd1_some hf
      refine call_Vl X hI (Cj.keep Cj.id) (c_X0_exchange l g a_bo q_bo_rings bo (((2 : Int32) * r_1) + (1 : Int32)) (((2 : Int32) * r_2) + (1 : Int32)) r_4 hc_) ⟨rfl, rfl⟩ ⟨ht _ w_1173, w_1176, ht _ w_150, lk_X0_exchange⟩ w_1175 w_51 rfl rfl rfl hl rfl rfl dX0_after_84 rfl rfl rfl rfl (fun H locs hI => ?_)
      refine lv_lxor hx hb dX0_after_87 ?_
      refine lv_aload_n hx hb dX0_after_88 rfl (lv_at hl 3 rfl) ?_
      refine lv_iconst (v := 2) hx hb dX0_after_89 (by decide) ?_
      refine lv_iload_n hx hb dX0_after_90 rfl (lv_at hl 2 rfl) ?_
      refine lv_imul hx hb dX0_after_91 ?_
      refine lv_iconst (v := 2) hx hb dX0_after_92 (by decide) ?_
      refine lv_iload hx hb dX0_after_93 (lv_at hl 0 rfl) ?_
      refine lv_imul hx hb dX0_after_95 ?_
      refine lv_iconst (v := 1) hx hb dX0_after_96 (by decide) ?_
      refine lv_iadd hx hb dX0_after_97 ?_
      obtain ⟨r_5, hc_, hf⟩ := bd1_some hf
      refine call_Vl X hI (Cj.keep Cj.id) (c_X0_exchange l g a_bo q_bo_rings bo ((2 : Int32) * r_1) (((2 : Int32) * r_3) + (1 : Int32)) r_5 hc_) ⟨rfl, rfl⟩ ⟨ht _ w_1173, w_1176, ht _ w_150, lk_X0_exchange⟩ w_1175 w_51 rfl rfl rfl hl rfl rfl dX0_after_98 rfl rfl rfl rfl (fun H locs hI => ?_)
      refine lv_lxor hx hb dX0_after_101 ?_
      refine lv_aload_n hx hb dX0_after_102 rfl (lv_at hl 3 rfl) ?_
      refine lv_iconst (v := 2) hx hb dX0_after_103 (by decide) ?_
      refine lv_iload_n hx hb dX0_after_104 rfl (lv_at hl 1 rfl) ?_
      refine lv_imul hx hb dX0_after_105 ?_
      refine lv_iconst (v := 2) hx hb dX0_after_106 (by decide) ?_
      refine lv_iload hx hb dX0_after_107 (lv_at hl 0 rfl) ?_
      refine lv_imul hx hb dX0_after_109 ?_
      obtain ⟨r_6, hc_, hf⟩ := bd1_some hf
      refine call_Vl X hI (Cj.keep Cj.id) (c_X0_exchange l g a_bo q_bo_rings bo ((2 : Int32) * r_2) ((2 : Int32) * r_3) r_6 hc_) ⟨rfl, rfl⟩ ⟨ht _ w_1173, w_1176, ht _ w_150, lk_X0_exchange⟩ w_1175 w_51 rfl rfl rfl hl rfl rfl dX0_after_110 rfl rfl rfl rfl (fun H locs hI => ?_)
      refine lv_lxor hx hb dX0_after_113 ?_
      cases hf
      exact end_l hQ hA X hI dX0_after_114
    · replace hf := if_f h_ hf
      refine lv_aload_n hx hb dX0_after_38 rfl (lv_at hl 2 rfl) ?_
      refine g_Bo_key X hI has_Bo.l (X.fl w_539) dX0_after_39 ?_
      refine lv_aload_n hx hb dX0_after_42 rfl (lv_at hl 2 rfl) ?_
      refine lv_iload_n hx hb dX0_after_43 rfl (lv_at hl 1 rfl) ?_
      obtain ⟨r_7, hc_, hf⟩ := bd1_some hf
      refine call_Vl X hI (Cj.keep Cj.id) (c_X0_placesOf l g a_bo q_bo_rings bo r_1 r_7 hc_) ⟨rfl, rfl⟩ ⟨ht _ w_1167, w_1170, ht _ w_150, lk_X0_placesOf⟩ w_1169 w_50 rfl rfl rfl hl rfl rfl dX0_after_44 rfl rfl rfl rfl (fun H locs hI => ?_)
      refine lv_ldc2 (v := (-1)) hx hb hown (ht _ w_1172) dX0_after_47 ?_
      refine lv_lxor hx hb dX0_after_50 ?_
      refine lv_land hx hb dX0_after_51 ?_
      refine lv_aload_n hx hb dX0_after_52 rfl (lv_at hl 2 rfl) ?_
      refine lv_iload_n hx hb dX0_after_53 rfl (lv_at hl 0 rfl) ?_
      obtain ⟨r_8, hc_, hf⟩ := bd1_some hf
      refine call_Vl X hI (Cj.keep Cj.id) (c_X0_placesOf l g a_bo q_bo_rings bo r_2 r_8 hc_) ⟨rfl, rfl⟩ ⟨ht _ w_1167, w_1170, ht _ w_150, lk_X0_placesOf⟩ w_1169 w_50 rfl rfl rfl hl rfl rfl dX0_after_54 rfl rfl rfl rfl (fun H locs hI => ?_)
      refine lv_ldc2 (v := (-1)) hx hb hown (ht _ w_1172) dX0_after_57 ?_
      refine lv_lxor hx hb dX0_after_60 ?_
      refine lv_land hx hb dX0_after_61 ?_
      cases hf
      exact end_l hQ hA X hI dX0_after_62
  · replace hf := if_f h_ hf
    refine lv_aload_n hx hb dX0_after_16 rfl (lv_at hl 2 rfl) ?_
    refine g_Bo_key X hI has_Bo.l (X.fl w_539) dX0_after_17 ?_
    refine lv_aload_n hx hb dX0_after_20 rfl (lv_at hl 2 rfl) ?_
    refine lv_iload_n hx hb dX0_after_21 rfl (lv_at hl 1 rfl) ?_
    obtain ⟨r_9, hc_, hf⟩ := bd1_some hf
    refine call_Vl X hI (Cj.keep Cj.id) (c_X0_placesOf l g a_bo q_bo_rings bo r_1 r_9 hc_) ⟨rfl, rfl⟩ ⟨ht _ w_1167, w_1170, ht _ w_150, lk_X0_placesOf⟩ w_1169 w_50 rfl rfl rfl hl rfl rfl dX0_after_22 rfl rfl rfl rfl (fun H locs hI => ?_)
    refine lv_ldc2 (v := (-1)) hx hb hown (ht _ w_1172) dX0_after_25 ?_
    refine lv_lxor hx hb dX0_after_28 ?_
    refine lv_land hx hb dX0_after_29 ?_
    cases hf
    exact end_l hQ hA X hI dX0_after_30
abbrev rm_X0_make : Room := { frames := 4, cells := 0, slots := 0, locals := 96 }
set_option maxRecDepth 20000 in
theorem c_X0_make (l : Launch) (g : GT) (a_bo : Nat → Nat) (a_ri : Nat → Nat) (bo : BoS) (ri : RiS) (p1 : Int32) (o_bo : BoS) (hf : f_X0_make bo ri p1 = some (o_bo)) : CV l yX0_make cX0_make 2 none rm_X0_make g [.ref (a_bo 0), .int p1] (wBo g a_bo (a_ri 0) bo ++ (wRi g a_ri ri ++ [])) (wBo g a_bo (a_ri 0) o_bo ++ (wRi g a_ri ri ++ [])) := by
  refine start2 (y := yX0_make) (cc := cX0_make) (n := 2) (av := [.ref (a_bo 0), .int p1]) (ws := (wBo g a_bo (a_ri 0) bo ++ (wRi g a_ri ri ++ []))) (Qc := fun sz => QV g (wBo g a_bo (a_ri 0) bo ++ (wRi g a_ri ri ++ [])) (wBo g a_bo (a_ri 0) o_bo ++ (wRi g a_ri ri ++ [])) sz) (by decide) rfl ?_
  intro p e s m args below meth c ls Q A ha hQ hA X hl hI hin
  have X : Cx p s m args meth c cX0_make 2 RX0 none := X
  have hl : lv_has ls 2 [(0, .ref (a_bo 0)), (1, .int p1)] := hl
  obtain ⟨hx, hb, hml, hown, ht, hr, hlk⟩ := id X
  clear ha hin
  unfold f_X0_make at hf
  refine lv_aload_n hx hb dX0_make_0 rfl (lv_at hl 0 rfl) ?_
  refine lv_aload_n hx hb dX0_make_1 rfl (lv_at hl 0 rfl) ?_
  refine lv_iload_n hx hb dX0_make_2 rfl (lv_at hl 1 rfl) ?_
  obtain ⟨r_1, hc_, hf⟩ := bd1_some hf
  refine call_Vl X hI (Cj.keep Cj.nil) (c_X0_after l g a_bo (a_ri 0) bo p1 r_1 hc_) ⟨rfl, rfl⟩ ⟨ht _ w_1357, w_1166, ht _ w_150, lk_X0_after⟩ w_1164 w_1165 rfl rfl rfl hl rfl rfl dX0_make_3 rfl rfl rfl rfl (fun H locs hI => ?_)
  refine lv_aload_n hx hb dX0_make_6 rfl (lv_at hl 0 rfl) ?_
  refine g_Bo_plus X hI has_Bo.l (X.fl w_540) dX0_make_7 ?_
  refine lv_aload_n hx hb dX0_make_10 rfl (lv_at hl 0 rfl) ?_
  refine g_Bo_parted X hI has_Bo.l (X.fl w_541) dX0_make_11 ?_
  obtain ⟨bo_2, hc_, hf⟩ := bd1_some hf
  refine call_Vv X hI (Cj.keep (Cj.keep Cj.id)) (c_X0_layOut l g a_bo a_ri bo ri r_1 (Bo_plus bo) (Bo_parted bo) bo_2 hc_) ⟨rfl, rfl⟩ ⟨ht _ w_940, w_943, ht _ w_150, lk_X0_layOut⟩ w_941 w_942 rfl rfl rfl hl rfl rfl dX0_make_14 rfl rfl rfl rfl (fun H locs hI => ?_)
  cases hf
  exact end_v hQ hA X hI dX0_make_17
