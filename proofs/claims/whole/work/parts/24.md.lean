abbrev rm_X13_turned : Room := { frames := 0, cells := 0, slots := 0, locals := 0 }
set_option maxRecDepth 20000 in
theorem c_X13_turned (l : Launch) (g : GT) (p0 : Int32) (p1 : Int32) (r_ : Int32) (hf : f_X13_turned p0 p1 = some (r_)) : CI l yX13_turned cX13_turned 3 (some .int) rm_X13_turned g [.int p0, .int p1] ([]) ([]) r_ := by
  refine start2 (y := yX13_turned) (cc := cX13_turned) (n := 3) (av := [.int p0, .int p1]) (ws := ([])) (Qc := fun sz => QI g ([]) ([]) r_ sz) (by decide) rfl ?_
  intro p e s m args below meth c ls Q A ha hQ hA X hl hI hin
  have X : Cx p s m args meth c cX13_turned 3 RX13 (some .int) := X
  have hl : lv_has ls 3 [(0, .int p0), (1, .int p1)] := hl
  obtain ⟨hx, hb, hml, hown, ht, hr, hlk⟩ := id X
  clear ha hin
  have L_2 : ∀ (n_ : Nat) (x0 : Int32) (x1 : Int32) (x2 : Int32) (H : Heap) (locs : List Loc) (ls : Array Slot), lv_has ls 3 [(0, .int x0), (1, .int x1), (2, .int x2)] → In g A s.heap s ([]) H locs → f_X13_turned_L2 n_ x0 x1 x2 = some (r_) → W p l e rm_X13_turned s m args below meth c H locs 0 0 Q (F0 m 2 ls []) := by
    intro n_
    induction n_ with
    | zero =>
      intro x0 x1 x2 H locs ls hl hI hf
      rw [f_X13_turned_L2] at hf
      cases hf
    | succ n_ ih =>
      intro x0 x1 x2 H locs ls hl hI hf
      rw [f_X13_turned_L2] at hf
      refine lv_iload_n hx hb dX13_turned_2 rfl (lv_at hl 2 rfl) ?_
      refine lv_iload_n hx hb dX13_turned_3 rfl (lv_at hl 0 rfl) ?_
      refine lv_imul hx hb dX13_turned_4 ?_
      refine lv_iload_n hx hb dX13_turned_5 rfl (lv_at hl 1 rfl) ?_
      obtain ⟨h_, hf⟩ := nz_some hf
      refine lv_irem hx hb dX13_turned_6 h_ ?_
      refine lv_iconst (v := 1) hx hb dX13_turned_7 (by decide) ?_
      refine lv_icmp_eq (tgt := 17) hx hb dX13_turned_8 (by decide) (fun h_ => ?_) (fun h_ => ?_)
      · replace hf := if_t h_ hf
        refine lv_iload_n hx hb dX13_turned_17 rfl (lv_at hl 2 rfl) ?_
        cases hf
        exact end_i hQ hA X hI dX13_turned_18
      · replace hf := if_f h_ hf
        obtain ⟨v_1, e_⟩ : ∃ y : Int32, y = (x2 + (1 : Int32)) := ⟨_, rfl⟩
        replace hf := lt_to e_ hf
        refine lv_iinc (v := v_1) (lv' := [(2, .int v_1), (0, .int x0), (1, .int x1)]) hx hb dX13_turned_11 hl (k := 2) rfl (by rw [e_]; rfl) (by decide) rfl (fun ls hl => ?_)
        clear e_
        refine lv_goto (tgt := 2) hx hb dX13_turned_14 (by decide) ?_
        exact ih x0 x1 v_1 _ _ _ (lv_sub hl [1, 2, 0] rfl) hI hf
  unfold f_X13_turned at hf
  refine lv_iconst (v := 1) hx hb dX13_turned_0 (by decide) ?_
  refine lv_istore_n (lv' := [(2, .int (1 : Int32)), (0, .int p0), (1, .int p1)]) hx hb dX13_turned_1 rfl hl (by decide) rfl (fun ls hl => ?_)
  exact L_2 FU p0 p1 (1 : Int32) _ _ _ (lv_sub hl [1, 2, 0] rfl) hI hf
abbrev rm_X13_adds : Room := { frames := 0, cells := 0, slots := 0, locals := 0 }
set_option maxRecDepth 20000 in
theorem c_X13_adds (l : Launch) (g : GT) (a_md : Nat → Nat) (q_md_tangle : Option Nat) (q_md_read : Option Nat) (md : MdS) (p1 : Int32) (p2 : Int32) (p3 : Int32) (p4 : Int32) (o_md : MdS) (hf : f_X13_adds md p1 p2 p3 p4 = some (o_md)) : CV l yX13_adds cX13_adds 5 none rm_X13_adds g [.ref (a_md 0), .int p1, .int p2, .int p3, .int p4] (wMd g a_md q_md_tangle q_md_read md ++ []) (wMd g a_md q_md_tangle q_md_read o_md ++ []) := by
  refine start2 (y := yX13_adds) (cc := cX13_adds) (n := 5) (av := [.ref (a_md 0), .int p1, .int p2, .int p3, .int p4]) (ws := (wMd g a_md q_md_tangle q_md_read md ++ [])) (Qc := fun sz => QV g (wMd g a_md q_md_tangle q_md_read md ++ []) (wMd g a_md q_md_tangle q_md_read o_md ++ []) sz) (by decide) rfl ?_
  intro p e s m args below meth c ls Q A ha hQ hA X hl hI hin
  have X : Cx p s m args meth c cX13_adds 5 RX13 none := X
  have hl : lv_has ls 5 [(0, .ref (a_md 0)), (1, .int p1), (2, .int p2), (3, .int p3), (4, .int p4)] := hl
  obtain ⟨hx, hb, hml, hown, ht, hr, hlk⟩ := id X
  clear ha hin
  unfold f_X13_adds at hf
  refine lv_aload_n hx hb dX13_adds_0 rfl (lv_at hl 0 rfl) ?_
  refine g_Md_equation X hI has_Md.l (X.fl w_1610) dX13_adds_1 ?_
  refine lv_bipush (v := 24) hx hb dX13_adds_4 (by decide) ?_
  refine lv_iload_n hx hb dX13_adds_6 rfl (lv_at hl 1 rfl) ?_
  refine lv_imul hx hb dX13_adds_7 ?_
  refine lv_iload_n hx hb dX13_adds_8 rfl (lv_at hl 2 rfl) ?_
  refine lv_iadd hx hb dX13_adds_9 ?_
  refine lv_aload_n hx hb dX13_adds_10 rfl (lv_at hl 0 rfl) ?_
  refine g_Md_equation X hI has_Md.l (X.fl w_1610) dX13_adds_11 ?_
  refine lv_bipush (v := 24) hx hb dX13_adds_14 (by decide) ?_
  refine lv_iload_n hx hb dX13_adds_16 rfl (lv_at hl 1 rfl) ?_
  refine lv_imul hx hb dX13_adds_17 ?_
  refine lv_iload_n hx hb dX13_adds_18 rfl (lv_at hl 2 rfl) ?_
  refine lv_iadd hx hb dX13_adds_19 ?_
  obtain ⟨h_, hf⟩ := ck_someM hf
  refine ld_I X hI has_Md_equation.l h_ dX13_adds_20 ?_
  refine lv_iload_n hx hb dX13_adds_21 rfl (lv_at hl 3 rfl) ?_
  refine lv_iadd hx hb dX13_adds_22 ?_
  refine lv_iload hx hb dX13_adds_23 (lv_at hl 4 rfl) ?_
  obtain ⟨h_, hf⟩ := nz_some hf
  refine lv_irem hx hb dX13_adds_25 h_ ?_
  obtain ⟨h_, hf⟩ := ck_someM hf
  refine st_I X hI up_Md_equation.l h_ dX13_adds_26 (fun H locs hI => ?_)
  generalize hz_ : (Md_equation' md (upd (Md_equation md) (Int32.toNatClampNeg (((24 : Int32) * p1) + p2)) (((Md_equation md (Int32.toNatClampNeg (((24 : Int32) * p1) + p2))) + p3) - ((Md_equation md (Int32.toNatClampNeg (((24 : Int32) * p1) + p2))) + p3) / p4 * p4))) = md_1 at hI hf
  clear hz_
  replace hf := lt_e hf
  cases hf
  exact end_v hQ hA X hI dX13_adds_27
abbrev rm_X13_coloursNow : Room := { frames := 3, cells := 0, slots := 0, locals := 75 }
set_option maxRecDepth 20000 in
theorem c_X13_coloursNow (l : Launch) (g : GT) (a_md : Nat → Nat) (a_tn : Nat → Nat) (q_md_read : Option Nat) (md : MdS) (tn : TnS) (p1 : Int32) (r_ : Int32) (o_md : MdS) (hf : f_X13_coloursNow md tn p1 = some (r_, o_md)) : CI l yX13_coloursNow cX13_coloursNow 9 (some .int) rm_X13_coloursNow g [.ref (a_md 0), .int p1] (wMd g a_md (some (a_tn 0)) q_md_read md ++ (wTn g a_tn tn ++ [])) (wMd g a_md (some (a_tn 0)) q_md_read o_md ++ (wTn g a_tn tn ++ [])) r_ := by
  refine start2 (y := yX13_coloursNow) (cc := cX13_coloursNow) (n := 9) (av := [.ref (a_md 0), .int p1]) (ws := (wMd g a_md (some (a_tn 0)) q_md_read md ++ (wTn g a_tn tn ++ []))) (Qc := fun sz => QI g (wMd g a_md (some (a_tn 0)) q_md_read md ++ (wTn g a_tn tn ++ [])) (wMd g a_md (some (a_tn 0)) q_md_read o_md ++ (wTn g a_tn tn ++ [])) r_ sz) (by decide) rfl ?_
  intro p e s m args below meth c ls Q A ha hQ hA X hl hI hin
  have X : Cx p s m args meth c cX13_coloursNow 9 RX13 (some .int) := X
  have hl : lv_has ls 9 [(0, .ref (a_md 0)), (1, .int p1)] := hl
  obtain ⟨hx, hb, hml, hown, ht, hr, hlk⟩ := id X
  clear ha hin
  have L_140 : ∀ (x1 : Int32) (x2 : Int32) (x3 : Int32) (md : MdS) (k16 : (Int32) → (Int32) → (Int32) → (MdS) → (TnS) → Option (Int32 × (MdS))) (H : Heap) (locs : List Loc) (ls : Array Slot), lv_has ls 9 [(0, .ref (a_md 0)), (1, .int x1), (2, .int x2), (3, .int x3)] → In g A s.heap s (wMd g a_md (some (a_tn 0)) q_md_read md ++ (wTn g a_tn tn ++ [])) H locs → f_X13_coloursNow_L140 x1 x2 x3 md tn k16 = some (r_, o_md) → (∀ (x1 : Int32) (x2 : Int32) (x3 : Int32) (md : MdS) (H : Heap) (locs : List Loc) (ls : Array Slot), lv_has ls 9 [(0, .ref (a_md 0)), (1, .int x1), (2, .int x2), (3, .int x3)] → In g A s.heap s (wMd g a_md (some (a_tn 0)) q_md_read md ++ (wTn g a_tn tn ++ [])) H locs → k16 x1 x2 x3 md tn = some (r_, o_md) → W p l e rm_X13_coloursNow s m args below meth c H locs 0 0 Q (F0 m 16 ls [])) → W p l e rm_X13_coloursNow s m args below meth c H locs 0 0 Q (F0 m 140 ls []) := by
    intro x1 x2 x3 md k16 H locs ls hl hI hf hk16
    unfold f_X13_coloursNow_L140 at hf
    obtain ⟨v_9, e_⟩ : ∃ y : Int32, y = (x3 + (1 : Int32)) := ⟨_, rfl⟩
    replace hf := lt_to e_ hf
    refine lv_iinc (v := v_9) (lv' := [(3, .int v_9), (0, .ref (a_md 0)), (1, .int x1), (2, .int x2)]) hx hb dX13_coloursNow_140 hl (k := 3) rfl (by rw [e_]; rfl) (by decide) rfl (fun ls hl => ?_)
    clear e_
    refine lv_goto (tgt := 16) hx hb dX13_coloursNow_143 (by decide) ?_
    exact hk16 x1 x2 v_9 md _ _ _ (lv_sub hl [1, 2, 3, 0] rfl) hI hf
  have L_45 : ∀ (n_ : Nat) (x1 : Int32) (x2 : Int32) (x3 : Int32) (x4 : Int32) (md : MdS) (k16 : (Int32) → (Int32) → (Int32) → (MdS) → (TnS) → Option (Int32 × (MdS))) (H : Heap) (locs : List Loc) (ls : Array Slot), lv_has ls 9 [(0, .ref (a_md 0)), (1, .int x1), (2, .int x2), (3, .int x3), (4, .int x4)] → In g A s.heap s (wMd g a_md (some (a_tn 0)) q_md_read md ++ (wTn g a_tn tn ++ [])) H locs → f_X13_coloursNow_L45 n_ x1 x2 x3 x4 md tn k16 = some (r_, o_md) → (∀ (x1 : Int32) (x2 : Int32) (x3 : Int32) (md : MdS) (H : Heap) (locs : List Loc) (ls : Array Slot), lv_has ls 9 [(0, .ref (a_md 0)), (1, .int x1), (2, .int x2), (3, .int x3)] → In g A s.heap s (wMd g a_md (some (a_tn 0)) q_md_read md ++ (wTn g a_tn tn ++ [])) H locs → k16 x1 x2 x3 md tn = some (r_, o_md) → W p l e rm_X13_coloursNow s m args below meth c H locs 0 0 Q (F0 m 16 ls [])) → W p l e rm_X13_coloursNow s m args below meth c H locs 0 0 Q (F0 m 45 ls []) := by
    intro n_
    induction n_ with
    | zero =>
      intro x1 x2 x3 x4 md k16 H locs ls hl hI hf hk16
      rw [f_X13_coloursNow_L45] at hf
      cases hf
    | succ n_ ih =>
      intro x1 x2 x3 x4 md k16 H locs ls hl hI hf hk16
      rw [f_X13_coloursNow_L45] at hf
      refine lv_iload hx hb dX13_coloursNow_45 (lv_at hl 4 rfl) ?_
      refine lv_bipush (v := 24) hx hb dX13_coloursNow_47 (by decide) ?_
      refine lv_icmp_ge (tgt := 71) hx hb dX13_coloursNow_49 (by decide) (fun h_ => ?_) (fun h_ => ?_)
      · replace hf := if_t h_ hf
        refine lv_aload_n hx hb dX13_coloursNow_71 rfl (lv_at hl 0 rfl) ?_
        refine lv_iload_n hx hb dX13_coloursNow_72 rfl (lv_at hl 2 rfl) ?_
        refine lv_aload_n hx hb dX13_coloursNow_73 rfl (lv_at hl 0 rfl) ?_
        refine g_Md_ahead X hI has_Md.l (X.fl w_1607) dX13_coloursNow_74 ?_
        refine lv_aload_n hx hb dX13_coloursNow_77 rfl (lv_at hl 0 rfl) ?_
        refine g_Md_spotOf X hI has_Md.l (X.fl w_1602) dX13_coloursNow_78 ?_
        refine lv_iconst (v := 2) hx hb dX13_coloursNow_81 (by decide) ?_
        refine lv_iload_n hx hb dX13_coloursNow_82 rfl (lv_at hl 3 rfl) ?_
        refine lv_imul hx hb dX13_coloursNow_83 ?_
        refine lv_iconst (v := 1) hx hb dX13_coloursNow_84 (by decide) ?_
        refine lv_iadd hx hb dX13_coloursNow_85 ?_
        obtain ⟨h_, hf⟩ := ck_someM hf
        refine ld_I X hI has_Md_spotOf.l h_ dX13_coloursNow_86 ?_
        obtain ⟨h_, hf⟩ := ck_someM hf
        refine ld_I X hI has_Md_ahead.l h_ dX13_coloursNow_87 ?_
        refine lv_iconst (v := 2) hx hb dX13_coloursNow_88 (by decide) ?_
        refine lv_iload_n hx hb dX13_coloursNow_89 rfl (lv_at hl 1 rfl) ?_
        obtain ⟨md_3, hc_, hf⟩ := bd1_some hf
        refine call_Vv X hI (Cj.keep Cj.nil) (c_X13_adds l g a_md (some (a_tn 0)) q_md_read md x2 (Md_ahead md (Int32.toNatClampNeg (Md_spotOf md (Int32.toNatClampNeg (((2 : Int32) * x3) + (1 : Int32)))))) (2 : Int32) x1 md_3 hc_) ⟨rfl, rfl⟩ ⟨ht _ w_2224, w_2227, ht _ w_155, lk_X13_adds⟩ w_2226 w_123 rfl rfl rfl hl rfl rfl dX13_coloursNow_90 rfl rfl rfl rfl (fun H locs hI => ?_)
        refine lv_aload_n hx hb dX13_coloursNow_93 rfl (lv_at hl 0 rfl) ?_
        refine lv_iload_n hx hb dX13_coloursNow_94 rfl (lv_at hl 2 rfl) ?_
        refine lv_aload_n hx hb dX13_coloursNow_95 rfl (lv_at hl 0 rfl) ?_
        refine g_Md_ahead X hI has_Md.l (X.fl w_1607) dX13_coloursNow_96 ?_
        refine lv_aload_n hx hb dX13_coloursNow_99 rfl (lv_at hl 0 rfl) ?_
        refine g_Md_spotOf X hI has_Md.l (X.fl w_1602) dX13_coloursNow_100 ?_
        refine lv_iconst (v := 2) hx hb dX13_coloursNow_103 (by decide) ?_
        refine lv_iload_n hx hb dX13_coloursNow_104 rfl (lv_at hl 3 rfl) ?_
        refine lv_imul hx hb dX13_coloursNow_105 ?_
        obtain ⟨h_, hf⟩ := ck_someM hf
        refine ld_I X hI has_Md_spotOf.l h_ dX13_coloursNow_106 ?_
        obtain ⟨h_, hf⟩ := ck_someM hf
        refine ld_I X hI has_Md_ahead.l h_ dX13_coloursNow_107 ?_
        refine lv_iload_n hx hb dX13_coloursNow_108 rfl (lv_at hl 1 rfl) ?_
        refine lv_iconst (v := 1) hx hb dX13_coloursNow_109 (by decide) ?_
        refine lv_isub hx hb dX13_coloursNow_110 ?_
        refine lv_iload_n hx hb dX13_coloursNow_111 rfl (lv_at hl 1 rfl) ?_
        obtain ⟨md_4, hc_, hf⟩ := bd1_some hf
        refine call_Vv X hI (Cj.keep Cj.nil) (c_X13_adds l g a_md (some (a_tn 0)) q_md_read md_3 x2 (Md_ahead md_3 (Int32.toNatClampNeg (Md_spotOf md_3 (Int32.toNatClampNeg ((2 : Int32) * x3))))) (x1 - (1 : Int32)) x1 md_4 hc_) ⟨rfl, rfl⟩ ⟨ht _ w_2224, w_2227, ht _ w_155, lk_X13_adds⟩ w_2226 w_123 rfl rfl rfl hl rfl rfl dX13_coloursNow_112 rfl rfl rfl rfl (fun H locs hI => ?_)
        refine lv_aload_n hx hb dX13_coloursNow_115 rfl (lv_at hl 0 rfl) ?_
        refine lv_iload_n hx hb dX13_coloursNow_116 rfl (lv_at hl 2 rfl) ?_
        refine lv_aload_n hx hb dX13_coloursNow_117 rfl (lv_at hl 0 rfl) ?_
        refine g_Md_after X hI has_Md.l (X.fl w_1608) dX13_coloursNow_118 ?_
        refine lv_aload_n hx hb dX13_coloursNow_121 rfl (lv_at hl 0 rfl) ?_
        refine g_Md_spotOf X hI has_Md.l (X.fl w_1602) dX13_coloursNow_122 ?_
        refine lv_iconst (v := 2) hx hb dX13_coloursNow_125 (by decide) ?_
        refine lv_iload_n hx hb dX13_coloursNow_126 rfl (lv_at hl 3 rfl) ?_
        refine lv_imul hx hb dX13_coloursNow_127 ?_
        obtain ⟨h_, hf⟩ := ck_someM hf
        refine ld_I X hI has_Md_spotOf.l h_ dX13_coloursNow_128 ?_
        obtain ⟨h_, hf⟩ := ck_someM hf
        refine ld_I X hI has_Md_after.l h_ dX13_coloursNow_129 ?_
        refine lv_iload_n hx hb dX13_coloursNow_130 rfl (lv_at hl 1 rfl) ?_
        refine lv_iconst (v := 1) hx hb dX13_coloursNow_131 (by decide) ?_
        refine lv_isub hx hb dX13_coloursNow_132 ?_
        refine lv_iload_n hx hb dX13_coloursNow_133 rfl (lv_at hl 1 rfl) ?_
        obtain ⟨md_5, hc_, hf⟩ := bd1_some hf
        refine call_Vv X hI (Cj.keep Cj.nil) (c_X13_adds l g a_md (some (a_tn 0)) q_md_read md_4 x2 (Md_after md_4 (Int32.toNatClampNeg (Md_spotOf md_4 (Int32.toNatClampNeg ((2 : Int32) * x3))))) (x1 - (1 : Int32)) x1 md_5 hc_) ⟨rfl, rfl⟩ ⟨ht _ w_2224, w_2227, ht _ w_155, lk_X13_adds⟩ w_2226 w_123 rfl rfl rfl hl rfl rfl dX13_coloursNow_134 rfl rfl rfl rfl (fun H locs hI => ?_)
        obtain ⟨v_6, e_⟩ : ∃ y : Int32, y = (x2 + (1 : Int32)) := ⟨_, rfl⟩
        replace hf := lt_to e_ hf
        refine lv_iinc (v := v_6) (lv' := [(2, .int v_6), (0, .ref (a_md 0)), (1, .int x1), (3, .int x3), (4, .int x4)]) hx hb dX13_coloursNow_137 hl (k := 2) rfl (by rw [e_]; rfl) (by decide) rfl (fun ls hl => ?_)
        clear e_
        exact L_140 x1 v_6 x3 md_5 _ _ _ _ (lv_sub hl [1, 2, 0, 3] rfl) hI hf hk16
      · replace hf := if_f h_ hf
        refine lv_aload_n hx hb dX13_coloursNow_52 rfl (lv_at hl 0 rfl) ?_
        refine g_Md_equation X hI has_Md.l (X.fl w_1610) dX13_coloursNow_53 ?_
        refine lv_bipush (v := 24) hx hb dX13_coloursNow_56 (by decide) ?_
        refine lv_iload_n hx hb dX13_coloursNow_58 rfl (lv_at hl 2 rfl) ?_
        refine lv_imul hx hb dX13_coloursNow_59 ?_
        refine lv_iload hx hb dX13_coloursNow_60 (lv_at hl 4 rfl) ?_
        refine lv_iadd hx hb dX13_coloursNow_62 ?_
        refine lv_iconst (v := 0) hx hb dX13_coloursNow_63 (by decide) ?_
        obtain ⟨h_, hf⟩ := ck_someM hf
        refine st_I X hI up_Md_equation.l h_ dX13_coloursNow_64 (fun H locs hI => ?_)
        generalize hz_ : (Md_equation' md (upd (Md_equation md) (Int32.toNatClampNeg (((24 : Int32) * x2) + x4)) (0 : Int32))) = md_7 at hI hf
        clear hz_
        replace hf := lt_e hf
        obtain ⟨v_8, e_⟩ : ∃ y : Int32, y = (x4 + (1 : Int32)) := ⟨_, rfl⟩
        replace hf := lt_to e_ hf
        refine lv_iinc (v := v_8) (lv' := [(4, .int v_8), (0, .ref (a_md 0)), (1, .int x1), (2, .int x2), (3, .int x3)]) hx hb dX13_coloursNow_65 hl (k := 4) rfl (by rw [e_]; rfl) (by decide) rfl (fun ls hl => ?_)
        clear e_
        refine lv_goto (tgt := 45) hx hb dX13_coloursNow_68 (by decide) ?_
        exact ih x1 x2 x3 v_8 md_7 k16 _ _ _ (lv_sub hl [1, 2, 3, 4, 0] rfl) hI hf hk16
  have L_320 : ∀ (n_ : Nat) (x1 : Int32) (x2 : Int32) (x3 : Int32) (x4 : Int32) (x6 : Int32) (x7 : Int32) (x8 : Int32) (md : MdS) (k277 : (Int32) → (Int32) → (Int32) → (Int32) → (Int32) → (MdS) → Option (Int32 × (MdS))) (H : Heap) (locs : List Loc) (ls : Array Slot), lv_has ls 9 [(0, .ref (a_md 0)), (1, .int x1), (2, .int x2), (3, .int x3), (4, .int x4), (6, .int x6), (7, .int x7), (8, .int x8)] → In g A s.heap s (wMd g a_md (some (a_tn 0)) q_md_read md ++ (wTn g a_tn tn ++ [])) H locs → f_X13_coloursNow_L320 n_ x1 x2 x3 x4 x6 x7 x8 md k277 = some (r_, o_md) → (∀ (x1 : Int32) (x2 : Int32) (x3 : Int32) (x4 : Int32) (x6 : Int32) (md : MdS) (H : Heap) (locs : List Loc) (ls : Array Slot), lv_has ls 9 [(0, .ref (a_md 0)), (1, .int x1), (2, .int x2), (3, .int x3), (4, .int x4), (6, .int x6)] → In g A s.heap s (wMd g a_md (some (a_tn 0)) q_md_read md ++ (wTn g a_tn tn ++ [])) H locs → k277 x1 x2 x3 x4 x6 md = some (r_, o_md) → W p l e rm_X13_coloursNow s m args below meth c H locs 0 0 Q (F0 m 277 ls [])) → W p l e rm_X13_coloursNow s m args below meth c H locs 0 0 Q (F0 m 320 ls []) := by
    intro n_
    induction n_ with
    | zero =>
      intro x1 x2 x3 x4 x6 x7 x8 md k277 H locs ls hl hI hf hk277
      rw [f_X13_coloursNow_L320] at hf
      cases hf
    | succ n_ ih =>
      intro x1 x2 x3 x4 x6 x7 x8 md k277 H locs ls hl hI hf hk277
      rw [f_X13_coloursNow_L320] at hf
      refine lv_iload hx hb dX13_coloursNow_320 (lv_at hl 7 rfl) ?_
      refine lv_aload_n hx hb dX13_coloursNow_322 rfl (lv_at hl 0 rfl) ?_
      refine g_Md_arcs X hI has_Md.l (X.fl w_1611) dX13_coloursNow_323 ?_
      refine lv_icmp_ge (tgt := 381) hx hb dX13_coloursNow_326 (by decide) (fun h_ => ?_) (fun h_ => ?_)
      · replace hf := if_t h_ hf
        obtain ⟨v_20, e_⟩ : ∃ y : Int32, y = (x6 + (1 : Int32)) := ⟨_, rfl⟩
        replace hf := lt_to e_ hf
        refine lv_iinc (v := v_20) (lv' := [(6, .int v_20), (0, .ref (a_md 0)), (1, .int x1), (2, .int x2), (3, .int x3), (4, .int x4), (7, .int x7), (8, .int x8)]) hx hb dX13_coloursNow_381 hl (k := 5) rfl (by rw [e_]; rfl) (by decide) rfl (fun ls hl => ?_)
        clear e_
        refine lv_goto (tgt := 277) hx hb dX13_coloursNow_384 (by decide) ?_
        exact hk277 x1 x2 x3 x4 v_20 md _ _ _ (lv_sub hl [1, 2, 3, 4, 5, 0] rfl) hI hf
      · replace hf := if_f h_ hf
        refine lv_aload_n hx hb dX13_coloursNow_329 rfl (lv_at hl 0 rfl) ?_
        refine g_Md_equation X hI has_Md.l (X.fl w_1610) dX13_coloursNow_330 ?_
        refine lv_bipush (v := 24) hx hb dX13_coloursNow_333 (by decide) ?_
        refine lv_iload hx hb dX13_coloursNow_335 (lv_at hl 5 rfl) ?_
        refine lv_imul hx hb dX13_coloursNow_337 ?_
        refine lv_iload hx hb dX13_coloursNow_338 (lv_at hl 7 rfl) ?_
        refine lv_iadd hx hb dX13_coloursNow_340 ?_
        refine lv_aload_n hx hb dX13_coloursNow_341 rfl (lv_at hl 0 rfl) ?_
        refine g_Md_equation X hI has_Md.l (X.fl w_1610) dX13_coloursNow_342 ?_
        refine lv_bipush (v := 24) hx hb dX13_coloursNow_345 (by decide) ?_
        refine lv_iload hx hb dX13_coloursNow_347 (lv_at hl 5 rfl) ?_
        refine lv_imul hx hb dX13_coloursNow_349 ?_
        refine lv_iload hx hb dX13_coloursNow_350 (lv_at hl 7 rfl) ?_
        refine lv_iadd hx hb dX13_coloursNow_352 ?_
        obtain ⟨h_, hf⟩ := ck_someM hf
        refine ld_I X hI has_Md_equation.l h_ dX13_coloursNow_353 ?_
        refine lv_iload_n hx hb dX13_coloursNow_354 rfl (lv_at hl 1 rfl) ?_
        refine lv_iload hx hb dX13_coloursNow_355 (lv_at hl 6 rfl) ?_
        refine lv_isub hx hb dX13_coloursNow_357 ?_
        refine lv_aload_n hx hb dX13_coloursNow_358 rfl (lv_at hl 0 rfl) ?_
        refine g_Md_equation X hI has_Md.l (X.fl w_1610) dX13_coloursNow_359 ?_
        refine lv_bipush (v := 24) hx hb dX13_coloursNow_362 (by decide) ?_
        refine lv_iload_n hx hb dX13_coloursNow_364 rfl (lv_at hl 3 rfl) ?_
        refine lv_imul hx hb dX13_coloursNow_365 ?_
        refine lv_iload hx hb dX13_coloursNow_366 (lv_at hl 7 rfl) ?_
        refine lv_iadd hx hb dX13_coloursNow_368 ?_
        obtain ⟨h_, hf⟩ := ck_someM hf
        refine ld_I X hI has_Md_equation.l h_ dX13_coloursNow_369 ?_
        refine lv_imul hx hb dX13_coloursNow_370 ?_
        refine lv_iadd hx hb dX13_coloursNow_371 ?_
        refine lv_iload_n hx hb dX13_coloursNow_372 rfl (lv_at hl 1 rfl) ?_
        obtain ⟨h_, hf⟩ := nz_some hf
        refine lv_irem hx hb dX13_coloursNow_373 h_ ?_
        obtain ⟨h_, hf⟩ := ck_someM hf
        refine st_I X hI up_Md_equation.l h_ dX13_coloursNow_374 (fun H locs hI => ?_)
        generalize hz_ : (Md_equation' md (upd (Md_equation md) (Int32.toNatClampNeg (((24 : Int32) * x6) + x8)) (((Md_equation md (Int32.toNatClampNeg (((24 : Int32) * x6) + x8))) + ((x1 - x7) * (Md_equation md (Int32.toNatClampNeg (((24 : Int32) * x3) + x8))))) - ((Md_equation md (Int32.toNatClampNeg (((24 : Int32) * x6) + x8))) + ((x1 - x7) * (Md_equation md (Int32.toNatClampNeg (((24 : Int32) * x3) + x8))))) / x1 * x1))) = md_21 at hI hf
        clear hz_
        replace hf := lt_e hf
        obtain ⟨v_22, e_⟩ : ∃ y : Int32, y = (x8 + (1 : Int32)) := ⟨_, rfl⟩
        replace hf := lt_to e_ hf
        refine lv_iinc (v := v_22) (lv' := [(8, .int v_22), (0, .ref (a_md 0)), (1, .int x1), (2, .int x2), (3, .int x3), (4, .int x4), (6, .int x6), (7, .int x7)]) hx hb dX13_coloursNow_375 hl (k := 7) rfl (by rw [e_]; rfl) (by decide) rfl (fun ls hl => ?_)
        clear e_
        refine lv_goto (tgt := 320) hx hb dX13_coloursNow_378 (by decide) ?_
        exact ih x1 x2 x3 x4 x6 x7 v_22 md_21 k277 _ _ _ (lv_sub hl [1, 2, 3, 4, 5, 6, 7, 0] rfl) hI hf hk277
  have L_390 : ∀ (x1 : Int32) (x2 : Int32) (x3 : Int32) (x4 : Int32) (md : MdS) (k151 : (Int32) → (Int32) → (Int32) → (Int32) → (MdS) → Option (Int32 × (MdS))) (H : Heap) (locs : List Loc) (ls : Array Slot), lv_has ls 9 [(0, .ref (a_md 0)), (1, .int x1), (2, .int x2), (3, .int x3), (4, .int x4)] → In g A s.heap s (wMd g a_md (some (a_tn 0)) q_md_read md ++ (wTn g a_tn tn ++ [])) H locs → f_X13_coloursNow_L390 x1 x2 x3 x4 md k151 = some (r_, o_md) → (∀ (x1 : Int32) (x2 : Int32) (x3 : Int32) (x4 : Int32) (md : MdS) (H : Heap) (locs : List Loc) (ls : Array Slot), lv_has ls 9 [(0, .ref (a_md 0)), (1, .int x1), (2, .int x2), (3, .int x3), (4, .int x4)] → In g A s.heap s (wMd g a_md (some (a_tn 0)) q_md_read md ++ (wTn g a_tn tn ++ [])) H locs → k151 x1 x2 x3 x4 md = some (r_, o_md) → W p l e rm_X13_coloursNow s m args below meth c H locs 0 0 Q (F0 m 151 ls [])) → W p l e rm_X13_coloursNow s m args below meth c H locs 0 0 Q (F0 m 390 ls []) := by
    intro x1 x2 x3 x4 md k151 H locs ls hl hI hf hk151
    unfold f_X13_coloursNow_L390 at hf
    obtain ⟨v_16, e_⟩ : ∃ y : Int32, y = (x4 + (1 : Int32)) := ⟨_, rfl⟩
    replace hf := lt_to e_ hf
    refine lv_iinc (v := v_16) (lv' := [(4, .int v_16), (0, .ref (a_md 0)), (1, .int x1), (2, .int x2), (3, .int x3)]) hx hb dX13_coloursNow_390 hl (k := 4) rfl (by rw [e_]; rfl) (by decide) rfl (fun ls hl => ?_)
    clear e_
    refine lv_goto (tgt := 151) hx hb dX13_coloursNow_393 (by decide) ?_
    exact hk151 x1 x2 x3 v_16 md _ _ _ (lv_sub hl [1, 2, 3, 4, 0] rfl) hI hf
  have L_277 : ∀ (n_ : Nat) (x1 : Int32) (x2 : Int32) (x3 : Int32) (x4 : Int32) (x6 : Int32) (md : MdS) (k151 : (Int32) → (Int32) → (Int32) → (Int32) → (MdS) → Option (Int32 × (MdS))) (H : Heap) (locs : List Loc) (ls : Array Slot), lv_has ls 9 [(0, .ref (a_md 0)), (1, .int x1), (2, .int x2), (3, .int x3), (4, .int x4), (6, .int x6)] → In g A s.heap s (wMd g a_md (some (a_tn 0)) q_md_read md ++ (wTn g a_tn tn ++ [])) H locs → f_X13_coloursNow_L277 n_ x1 x2 x3 x4 x6 md k151 = some (r_, o_md) → (∀ (x1 : Int32) (x2 : Int32) (x3 : Int32) (x4 : Int32) (md : MdS) (H : Heap) (locs : List Loc) (ls : Array Slot), lv_has ls 9 [(0, .ref (a_md 0)), (1, .int x1), (2, .int x2), (3, .int x3), (4, .int x4)] → In g A s.heap s (wMd g a_md (some (a_tn 0)) q_md_read md ++ (wTn g a_tn tn ++ [])) H locs → k151 x1 x2 x3 x4 md = some (r_, o_md) → W p l e rm_X13_coloursNow s m args below meth c H locs 0 0 Q (F0 m 151 ls [])) → W p l e rm_X13_coloursNow s m args below meth c H locs 0 0 Q (F0 m 277 ls []) := by
    intro n_
    induction n_ with
    | zero =>
      intro x1 x2 x3 x4 x6 md k151 H locs ls hl hI hf hk151
      rw [f_X13_coloursNow_L277] at hf
      cases hf
    | succ n_ ih =>
      intro x1 x2 x3 x4 x6 md k151 H locs ls hl hI hf hk151
      rw [f_X13_coloursNow_L277] at hf
      refine lv_iload hx hb dX13_coloursNow_277 (lv_at hl 5 rfl) ?_
      refine lv_iload_n hx hb dX13_coloursNow_279 rfl (lv_at hl 2 rfl) ?_
      refine lv_icmp_ge (tgt := 387) hx hb dX13_coloursNow_280 (by decide) (fun h_ => ?_) (fun h_ => ?_)
      · replace hf := if_t h_ hf
        obtain ⟨v_17, e_⟩ : ∃ y : Int32, y = (x3 + (1 : Int32)) := ⟨_, rfl⟩
        replace hf := lt_to e_ hf
        refine lv_iinc (v := v_17) (lv' := [(3, .int v_17), (0, .ref (a_md 0)), (1, .int x1), (2, .int x2), (4, .int x4), (6, .int x6)]) hx hb dX13_coloursNow_387 hl (k := 3) rfl (by rw [e_]; rfl) (by decide) rfl (fun ls hl => ?_)
        clear e_
        exact L_390 x1 x2 v_17 x4 md _ _ _ _ (lv_sub hl [1, 2, 3, 0, 4] rfl) hI hf hk151
      · replace hf := if_f h_ hf
        refine lv_aload_n hx hb dX13_coloursNow_283 rfl (lv_at hl 0 rfl) ?_
        refine g_Md_equation X hI has_Md.l (X.fl w_1610) dX13_coloursNow_284 ?_
        refine lv_bipush (v := 24) hx hb dX13_coloursNow_287 (by decide) ?_
        refine lv_iload hx hb dX13_coloursNow_289 (lv_at hl 5 rfl) ?_
        refine lv_imul hx hb dX13_coloursNow_291 ?_
        refine lv_iload hx hb dX13_coloursNow_292 (lv_at hl 4 rfl) ?_
        refine lv_iadd hx hb dX13_coloursNow_294 ?_
        obtain ⟨h_, hf⟩ := ck_someM hf
        refine ld_I X hI has_Md_equation.l h_ dX13_coloursNow_295 ?_
        refine lv_aload_n hx hb dX13_coloursNow_296 rfl (lv_at hl 0 rfl) ?_
        refine g_Md_equation X hI has_Md.l (X.fl w_1610) dX13_coloursNow_297 ?_
        refine lv_bipush (v := 24) hx hb dX13_coloursNow_300 (by decide) ?_
        refine lv_iload_n hx hb dX13_coloursNow_302 rfl (lv_at hl 3 rfl) ?_
        refine lv_imul hx hb dX13_coloursNow_303 ?_
        refine lv_iload hx hb dX13_coloursNow_304 (lv_at hl 4 rfl) ?_
        refine lv_iadd hx hb dX13_coloursNow_306 ?_
        obtain ⟨h_, hf⟩ := ck_someM hf
        refine ld_I X hI has_Md_equation.l h_ dX13_coloursNow_307 ?_
        refine lv_iload_n hx hb dX13_coloursNow_308 rfl (lv_at hl 1 rfl) ?_
        obtain ⟨r_18, hc_, hf⟩ := bd1_some hf
        refine call_Si X hI Cj.nil (c_X13_turned l g (Md_equation md (Int32.toNatClampNeg (((24 : Int32) * x3) + x4))) x1 r_18 hc_) ⟨rfl, rfl⟩ ⟨ht _ w_2228, w_2230, ht _ w_155, lk_X13_turned⟩ w_2229 rfl hl rfl rfl dX13_coloursNow_309 rfl rfl rfl rfl (fun H locs hI => ?_)
        refine lv_imul hx hb dX13_coloursNow_312 ?_
        refine lv_iload_n hx hb dX13_coloursNow_313 rfl (lv_at hl 1 rfl) ?_
        obtain ⟨h_, hf⟩ := nz_some hf
        refine lv_irem hx hb dX13_coloursNow_314 h_ ?_
        refine lv_topi (fun v_19 e_ => ?_)
        replace hf := lt_to e_ hf
        clear e_
        refine lv_istore (lv' := [(7, .int v_19), (0, .ref (a_md 0)), (1, .int x1), (2, .int x2), (3, .int x3), (4, .int x4), (6, .int x6)]) hx hb dX13_coloursNow_315 hl (by decide) rfl (fun ls hl => ?_)
        refine lv_iconst (v := 0) hx hb dX13_coloursNow_317 (by decide) ?_
        refine lv_istore (lv' := [(8, .int (0 : Int32)), (7, .int v_19), (0, .ref (a_md 0)), (1, .int x1), (2, .int x2), (3, .int x3), (4, .int x4), (6, .int x6)]) hx hb dX13_coloursNow_318 hl (by decide) rfl (fun ls hl => ?_)
        exact L_320 FU x1 x2 x3 x4 x6 v_19 (0 : Int32) md _ _ _ _ (lv_sub hl [2, 3, 4, 5, 6, 7, 1, 0] rfl) hI hf (fun z_0 z_1 z_2 z_3 z_4 z_5 _ _ _ hl hI hf => ih z_0 z_1 z_2 z_3 z_4 z_5 k151 _ _ _ hl hI hf hk151)
  have L_203 : ∀ (n_ : Nat) (x1 : Int32) (x2 : Int32) (x3 : Int32) (x4 : Int32) (x5 : Int32) (x6 : Int32) (md : MdS) (k151 : (Int32) → (Int32) → (Int32) → (Int32) → (MdS) → Option (Int32 × (MdS))) (H : Heap) (locs : List Loc) (ls : Array Slot), lv_has ls 9 [(0, .ref (a_md 0)), (1, .int x1), (2, .int x2), (3, .int x3), (4, .int x4), (5, .int x5), (6, .int x6)] → In g A s.heap s (wMd g a_md (some (a_tn 0)) q_md_read md ++ (wTn g a_tn tn ++ [])) H locs → f_X13_coloursNow_L203 n_ x1 x2 x3 x4 x5 x6 md k151 = some (r_, o_md) → (∀ (x1 : Int32) (x2 : Int32) (x3 : Int32) (x4 : Int32) (md : MdS) (H : Heap) (locs : List Loc) (ls : Array Slot), lv_has ls 9 [(0, .ref (a_md 0)), (1, .int x1), (2, .int x2), (3, .int x3), (4, .int x4)] → In g A s.heap s (wMd g a_md (some (a_tn 0)) q_md_read md ++ (wTn g a_tn tn ++ [])) H locs → k151 x1 x2 x3 x4 md = some (r_, o_md) → W p l e rm_X13_coloursNow s m args below meth c H locs 0 0 Q (F0 m 151 ls [])) → W p l e rm_X13_coloursNow s m args below meth c H locs 0 0 Q (F0 m 203 ls []) := by
    intro n_
    induction n_ with
    | zero =>
      intro x1 x2 x3 x4 x5 x6 md k151 H locs ls hl hI hf hk151
      rw [f_X13_coloursNow_L203] at hf
      cases hf
    | succ n_ ih =>
      intro x1 x2 x3 x4 x5 x6 md k151 H locs ls hl hI hf hk151
      rw [f_X13_coloursNow_L203] at hf
      refine lv_iload hx hb dX13_coloursNow_203 (lv_at hl 6 rfl) ?_
      refine lv_aload_n hx hb dX13_coloursNow_205 rfl (lv_at hl 0 rfl) ?_
      refine g_Md_arcs X hI has_Md.l (X.fl w_1611) dX13_coloursNow_206 ?_
      refine lv_icmp_ge (tgt := 272) hx hb dX13_coloursNow_209 (by decide) (fun h_ => ?_) (fun h_ => ?_)
      · replace hf := if_t h_ hf
        refine lv_iload_n hx hb dX13_coloursNow_272 rfl (lv_at hl 3 rfl) ?_
        refine lv_iconst (v := 1) hx hb dX13_coloursNow_273 (by decide) ?_
        refine lv_iadd hx hb dX13_coloursNow_274 ?_
        refine lv_topi (fun v_11 e_ => ?_)
        replace hf := lt_to e_ hf
        clear e_
        refine lv_istore (lv' := [(6, .int v_11), (0, .ref (a_md 0)), (1, .int x1), (2, .int x2), (3, .int x3), (4, .int x4), (5, .int x5)]) hx hb dX13_coloursNow_275 hl (by decide) rfl (fun ls hl => ?_)
        exact L_277 FU x1 x2 x3 x4 v_11 md _ _ _ _ (lv_sub hl [1, 2, 3, 4, 5, 0] rfl) hI hf hk151
      · replace hf := if_f h_ hf
        refine lv_aload_n hx hb dX13_coloursNow_212 rfl (lv_at hl 0 rfl) ?_
        refine g_Md_equation X hI has_Md.l (X.fl w_1610) dX13_coloursNow_213 ?_
        refine lv_bipush (v := 24) hx hb dX13_coloursNow_216 (by decide) ?_
        refine lv_iload hx hb dX13_coloursNow_218 (lv_at hl 5 rfl) ?_
        refine lv_imul hx hb dX13_coloursNow_220 ?_
        refine lv_iload hx hb dX13_coloursNow_221 (lv_at hl 6 rfl) ?_
        refine lv_iadd hx hb dX13_coloursNow_223 ?_
        obtain ⟨h_, hf⟩ := ck_someM hf
        refine ld_I X hI has_Md_equation.l h_ dX13_coloursNow_224 ?_
        refine lv_topi (fun v_12 e_ => ?_)
        replace hf := lt_to e_ hf
        clear e_
        refine lv_istore (lv' := [(7, .int v_12), (0, .ref (a_md 0)), (1, .int x1), (2, .int x2), (3, .int x3), (4, .int x4), (5, .int x5), (6, .int x6)]) hx hb dX13_coloursNow_225 hl (by decide) rfl (fun ls hl => ?_)
        refine lv_aload_n hx hb dX13_coloursNow_227 rfl (lv_at hl 1 rfl) ?_
        refine g_Md_equation X hI has_Md.l (X.fl w_1610) dX13_coloursNow_228 ?_
        refine lv_bipush (v := 24) hx hb dX13_coloursNow_231 (by decide) ?_
        refine lv_iload hx hb dX13_coloursNow_233 (lv_at hl 6 rfl) ?_
        refine lv_imul hx hb dX13_coloursNow_235 ?_
        refine lv_iload hx hb dX13_coloursNow_236 (lv_at hl 7 rfl) ?_
        refine lv_iadd hx hb dX13_coloursNow_238 ?_
        refine lv_aload_n hx hb dX13_coloursNow_239 rfl (lv_at hl 1 rfl) ?_
        refine g_Md_equation X hI has_Md.l (X.fl w_1610) dX13_coloursNow_240 ?_
        refine lv_bipush (v := 24) hx hb dX13_coloursNow_243 (by decide) ?_
        refine lv_iload_n hx hb dX13_coloursNow_245 rfl (lv_at hl 4 rfl) ?_
        refine lv_imul hx hb dX13_coloursNow_246 ?_
        refine lv_iload hx hb dX13_coloursNow_247 (lv_at hl 7 rfl) ?_
        refine lv_iadd hx hb dX13_coloursNow_249 ?_
        obtain ⟨h_, hf⟩ := ck_someM hf
        refine ld_I X hI has_Md_equation.l h_ dX13_coloursNow_250 ?_
        obtain ⟨h_, hf⟩ := ck_someM hf
        refine st_I X hI up_Md_equation.l h_ dX13_coloursNow_251 (fun H locs hI => ?_)
        generalize hz_ : (Md_equation' md (upd (Md_equation md) (Int32.toNatClampNeg (((24 : Int32) * x5) + x6)) (Md_equation md (Int32.toNatClampNeg (((24 : Int32) * x3) + x6))))) = md_13 at hI hf
        clear hz_
        replace hf := lt_e hf
        refine lv_aload_n hx hb dX13_coloursNow_252 rfl (lv_at hl 1 rfl) ?_
        refine g_Md_equation X hI has_Md.l (X.fl w_1610) dX13_coloursNow_253 ?_
        refine lv_bipush (v := 24) hx hb dX13_coloursNow_256 (by decide) ?_
        refine lv_iload_n hx hb dX13_coloursNow_258 rfl (lv_at hl 4 rfl) ?_
        refine lv_imul hx hb dX13_coloursNow_259 ?_
        refine lv_iload hx hb dX13_coloursNow_260 (lv_at hl 7 rfl) ?_
        refine lv_iadd hx hb dX13_coloursNow_262 ?_
        refine lv_iload hx hb dX13_coloursNow_263 (lv_at hl 0 rfl) ?_
        obtain ⟨h_, hf⟩ := ck_someM hf
        refine st_I X hI up_Md_equation.l h_ dX13_coloursNow_265 (fun H locs hI => ?_)
        generalize hz_ : (Md_equation' md_13 (upd (Md_equation md_13) (Int32.toNatClampNeg (((24 : Int32) * x3) + x6)) v_12)) = md_14 at hI hf
        clear hz_
        replace hf := lt_e hf
        obtain ⟨v_15, e_⟩ : ∃ y : Int32, y = (x6 + (1 : Int32)) := ⟨_, rfl⟩
        replace hf := lt_to e_ hf
        refine lv_iinc (v := v_15) (lv' := [(6, .int v_15), (7, .int v_12), (0, .ref (a_md 0)), (1, .int x1), (2, .int x2), (3, .int x3), (4, .int x4), (5, .int x5)]) hx hb dX13_coloursNow_266 hl (k := 7) rfl (by rw [e_]; rfl) (by decide) rfl (fun ls hl => ?_)
        clear e_
        refine lv_goto (tgt := 203) hx hb dX13_coloursNow_269 (by decide) ?_
        exact ih x1 x2 x3 x4 x5 v_15 md_14 k151 _ _ _ (lv_sub hl [2, 3, 4, 5, 6, 7, 0] rfl) hI hf hk151
  have L_191 : ∀ (x1 : Int32) (x2 : Int32) (x3 : Int32) (x4 : Int32) (x5 : Int32) (md : MdS) (k151 : (Int32) → (Int32) → (Int32) → (Int32) → (MdS) → Option (Int32 × (MdS))) (H : Heap) (locs : List Loc) (ls : Array Slot), lv_has ls 9 [(0, .ref (a_md 0)), (1, .int x1), (2, .int x2), (3, .int x3), (4, .int x4), (5, .int x5)] → In g A s.heap s (wMd g a_md (some (a_tn 0)) q_md_read md ++ (wTn g a_tn tn ++ [])) H locs → f_X13_coloursNow_L191 x1 x2 x3 x4 x5 md k151 = some (r_, o_md) → (∀ (x1 : Int32) (x2 : Int32) (x3 : Int32) (x4 : Int32) (md : MdS) (H : Heap) (locs : List Loc) (ls : Array Slot), lv_has ls 9 [(0, .ref (a_md 0)), (1, .int x1), (2, .int x2), (3, .int x3), (4, .int x4)] → In g A s.heap s (wMd g a_md (some (a_tn 0)) q_md_read md ++ (wTn g a_tn tn ++ [])) H locs → k151 x1 x2 x3 x4 md = some (r_, o_md) → W p l e rm_X13_coloursNow s m args below meth c H locs 0 0 Q (F0 m 151 ls [])) → W p l e rm_X13_coloursNow s m args below meth c H locs 0 0 Q (F0 m 191 ls []) := by
    intro x1 x2 x3 x4 x5 md k151 H locs ls hl hI hf hk151
    unfold f_X13_coloursNow_L191 at hf
    refine lv_iload hx hb dX13_coloursNow_191 (lv_at hl 5 rfl) ?_
    refine lv_iload_n hx hb dX13_coloursNow_193 rfl (lv_at hl 2 rfl) ?_
    refine lv_icmp_ne (tgt := 200) hx hb dX13_coloursNow_194 (by decide) (fun h_ => ?_) (fun h_ => ?_)
    · replace hf := if_f h_ hf
      refine lv_iconst (v := 0) hx hb dX13_coloursNow_200 (by decide) ?_
      refine lv_istore (lv' := [(6, .int (0 : Int32)), (0, .ref (a_md 0)), (1, .int x1), (2, .int x2), (3, .int x3), (4, .int x4), (5, .int x5)]) hx hb dX13_coloursNow_201 hl (by decide) rfl (fun ls hl => ?_)
      exact L_203 FU x1 x2 x3 x4 x5 (0 : Int32) md _ _ _ _ (lv_sub hl [1, 2, 3, 4, 5, 6, 0] rfl) hI hf hk151
    · replace hf := if_t h_ hf
      refine lv_goto (tgt := 390) hx hb dX13_coloursNow_197 (by decide) ?_
      exact L_390 x1 x2 x3 x4 md _ _ _ _ (lv_sub hl [0, 1, 2, 3, 4] rfl) hI hf hk151
  have L_163 : ∀ (n_ : Nat) (x1 : Int32) (x2 : Int32) (x3 : Int32) (x4 : Int32) (x5 : Int32) (md : MdS) (k151 : (Int32) → (Int32) → (Int32) → (Int32) → (MdS) → Option (Int32 × (MdS))) (H : Heap) (locs : List Loc) (ls : Array Slot), lv_has ls 9 [(0, .ref (a_md 0)), (1, .int x1), (2, .int x2), (3, .int x3), (4, .int x4), (5, .int x5)] → In g A s.heap s (wMd g a_md (some (a_tn 0)) q_md_read md ++ (wTn g a_tn tn ++ [])) H locs → f_X13_coloursNow_L163 n_ x1 x2 x3 x4 x5 md k151 = some (r_, o_md) → (∀ (x1 : Int32) (x2 : Int32) (x3 : Int32) (x4 : Int32) (md : MdS) (H : Heap) (locs : List Loc) (ls : Array Slot), lv_has ls 9 [(0, .ref (a_md 0)), (1, .int x1), (2, .int x2), (3, .int x3), (4, .int x4)] → In g A s.heap s (wMd g a_md (some (a_tn 0)) q_md_read md ++ (wTn g a_tn tn ++ [])) H locs → k151 x1 x2 x3 x4 md = some (r_, o_md) → W p l e rm_X13_coloursNow s m args below meth c H locs 0 0 Q (F0 m 151 ls [])) → W p l e rm_X13_coloursNow s m args below meth c H locs 0 0 Q (F0 m 163 ls []) := by
    intro n_
    induction n_ with
    | zero =>
      intro x1 x2 x3 x4 x5 md k151 H locs ls hl hI hf hk151
      rw [f_X13_coloursNow_L163] at hf
      cases hf
    | succ n_ ih =>
      intro x1 x2 x3 x4 x5 md k151 H locs ls hl hI hf hk151
      rw [f_X13_coloursNow_L163] at hf
      refine lv_iload hx hb dX13_coloursNow_163 (lv_at hl 5 rfl) ?_
      refine lv_iload_n hx hb dX13_coloursNow_165 rfl (lv_at hl 2 rfl) ?_
      refine lv_icmp_ge (tgt := 191) hx hb dX13_coloursNow_166 (by decide) (fun h_ => ?_) (fun h_ => ?_)
      · replace hf := if_t h_ hf
        exact L_191 x1 x2 x3 x4 x5 md _ _ _ _ hl hI hf hk151
      · replace hf := if_f h_ hf
        refine lv_aload_n hx hb dX13_coloursNow_169 rfl (lv_at hl 0 rfl) ?_
        refine g_Md_equation X hI has_Md.l (X.fl w_1610) dX13_coloursNow_170 ?_
        refine lv_bipush (v := 24) hx hb dX13_coloursNow_173 (by decide) ?_
        refine lv_iload hx hb dX13_coloursNow_175 (lv_at hl 5 rfl) ?_
        refine lv_imul hx hb dX13_coloursNow_177 ?_
        refine lv_iload hx hb dX13_coloursNow_178 (lv_at hl 4 rfl) ?_
        refine lv_iadd hx hb dX13_coloursNow_180 ?_
        obtain ⟨h_, hf⟩ := ck_someM hf
        refine ld_I X hI has_Md_equation.l h_ dX13_coloursNow_181 ?_
        refine lv_if_ne (tgt := 191) hx hb dX13_coloursNow_182 (by decide) (fun h_ => ?_) (fun h_ => ?_)
        · replace hf := if_f h_ hf
          exact L_191 x1 x2 x3 x4 x5 md _ _ _ _ hl hI hf hk151
        · replace hf := if_t h_ hf
          obtain ⟨v_10, e_⟩ : ∃ y : Int32, y = (x5 + (1 : Int32)) := ⟨_, rfl⟩
          replace hf := lt_to e_ hf
          refine lv_iinc (v := v_10) (lv' := [(5, .int v_10), (0, .ref (a_md 0)), (1, .int x1), (2, .int x2), (3, .int x3), (4, .int x4)]) hx hb dX13_coloursNow_185 hl (k := 5) rfl (by rw [e_]; rfl) (by decide) rfl (fun ls hl => ?_)
          clear e_
          refine lv_goto (tgt := 163) hx hb dX13_coloursNow_188 (by decide) ?_
          exact ih x1 x2 x3 x4 v_10 md k151 _ _ _ (lv_sub hl [1, 2, 3, 4, 5, 0] rfl) hI hf hk151
  have L_151 : ∀ (n_ : Nat) (x1 : Int32) (x2 : Int32) (x3 : Int32) (x4 : Int32) (md : MdS) (H : Heap) (locs : List Loc) (ls : Array Slot), lv_has ls 9 [(0, .ref (a_md 0)), (1, .int x1), (2, .int x2), (3, .int x3), (4, .int x4)] → In g A s.heap s (wMd g a_md (some (a_tn 0)) q_md_read md ++ (wTn g a_tn tn ++ [])) H locs → f_X13_coloursNow_L151 n_ x1 x2 x3 x4 md = some (r_, o_md) → W p l e rm_X13_coloursNow s m args below meth c H locs 0 0 Q (F0 m 151 ls []) := by
    intro n_
    induction n_ with
    | zero =>
      intro x1 x2 x3 x4 md H locs ls hl hI hf
      rw [f_X13_coloursNow_L151] at hf
      cases hf
    | succ n_ ih =>
      intro x1 x2 x3 x4 md H locs ls hl hI hf
      rw [f_X13_coloursNow_L151] at hf
      refine lv_iload hx hb dX13_coloursNow_151 (lv_at hl 4 rfl) ?_
      refine lv_aload_n hx hb dX13_coloursNow_153 rfl (lv_at hl 0 rfl) ?_
      refine g_Md_arcs X hI has_Md.l (X.fl w_1611) dX13_coloursNow_154 ?_
      refine lv_icmp_ge (tgt := 396) hx hb dX13_coloursNow_157 (by decide) (fun h_ => ?_) (fun h_ => ?_)
      · replace hf := if_t h_ hf
        refine lv_aload_n hx hb dX13_coloursNow_396 rfl (lv_at hl 0 rfl) ?_
        refine g_Md_arcs X hI has_Md.l (X.fl w_1611) dX13_coloursNow_397 ?_
        refine lv_iload_n hx hb dX13_coloursNow_400 rfl (lv_at hl 3 rfl) ?_
        refine lv_isub hx hb dX13_coloursNow_401 ?_
        cases hf
        exact end_i hQ hA X hI dX13_coloursNow_402
      · replace hf := if_f h_ hf
        refine lv_iload_n hx hb dX13_coloursNow_160 rfl (lv_at hl 3 rfl) ?_
        refine lv_istore (lv' := [(5, .int x3), (0, .ref (a_md 0)), (1, .int x1), (2, .int x2), (3, .int x3), (4, .int x4)]) hx hb dX13_coloursNow_161 hl (by decide) rfl (fun ls hl => ?_)
        exact L_163 FU x1 x2 x3 x4 x3 md _ _ _ _ (lv_sub hl [1, 2, 3, 4, 5, 0] rfl) hI hf (fun z_0 z_1 z_2 z_3 z_4 _ _ _ hl hI hf => ih z_0 z_1 z_2 z_3 z_4 _ _ _ hl hI hf)
  have L_16 : ∀ (n_ : Nat) (x1 : Int32) (x2 : Int32) (x3 : Int32) (md : MdS) (H : Heap) (locs : List Loc) (ls : Array Slot), lv_has ls 9 [(0, .ref (a_md 0)), (1, .int x1), (2, .int x2), (3, .int x3)] → In g A s.heap s (wMd g a_md (some (a_tn 0)) q_md_read md ++ (wTn g a_tn tn ++ [])) H locs → f_X13_coloursNow_L16 n_ x1 x2 x3 md tn = some (r_, o_md) → W p l e rm_X13_coloursNow s m args below meth c H locs 0 0 Q (F0 m 16 ls []) := by
    intro n_
    induction n_ with
    | zero =>
      intro x1 x2 x3 md H locs ls hl hI hf
      rw [f_X13_coloursNow_L16] at hf
      cases hf
    | succ n_ ih =>
      intro x1 x2 x3 md H locs ls hl hI hf
      rw [f_X13_coloursNow_L16] at hf
      refine lv_iload_n hx hb dX13_coloursNow_16 rfl (lv_at hl 3 rfl) ?_
      refine lv_aload_n hx hb dX13_coloursNow_17 rfl (lv_at hl 0 rfl) ?_
      refine g_Md_tangle_S X hI has_Md.l (X.fl w_1586) dX13_coloursNow_18 ?_
      refine g_Tn_crossings X hI has_Tn.l.r (hI.fn (List.mem_of_getElem? (i := 82) rfl)) dX13_coloursNow_21 ?_
      refine lv_icmp_ge (tgt := 146) hx hb dX13_coloursNow_24 (by decide) (fun h_ => ?_) (fun h_ => ?_)
      · replace hf := if_t h_ hf
        refine lv_iconst (v := 0) hx hb dX13_coloursNow_146 (by decide) ?_
        refine lv_istore_n (lv' := [(3, .int (0 : Int32)), (0, .ref (a_md 0)), (1, .int x1), (2, .int x2)]) hx hb dX13_coloursNow_147 rfl hl (by decide) rfl (fun ls hl => ?_)
        refine lv_iconst (v := 0) hx hb dX13_coloursNow_148 (by decide) ?_
        refine lv_istore (lv' := [(4, .int (0 : Int32)), (3, .int (0 : Int32)), (0, .ref (a_md 0)), (1, .int x1), (2, .int x2)]) hx hb dX13_coloursNow_149 hl (by decide) rfl (fun ls hl => ?_)
        exact L_151 FU x1 x2 (0 : Int32) (0 : Int32) md _ _ _ (lv_sub hl [2, 3, 4, 1, 0] rfl) hI hf
      · replace hf := if_f h_ hf
        refine lv_aload_n hx hb dX13_coloursNow_27 rfl (lv_at hl 0 rfl) ?_
        refine g_Md_spotOf X hI has_Md.l (X.fl w_1602) dX13_coloursNow_28 ?_
        refine lv_iconst (v := 2) hx hb dX13_coloursNow_31 (by decide) ?_
        refine lv_iload_n hx hb dX13_coloursNow_32 rfl (lv_at hl 3 rfl) ?_
        refine lv_imul hx hb dX13_coloursNow_33 ?_
        obtain ⟨h_, hf⟩ := ck_someM hf
        refine ld_I X hI has_Md_spotOf.l h_ dX13_coloursNow_34 ?_
        refine lv_iconst (v := (-1)) hx hb dX13_coloursNow_35 (by decide) ?_
        refine lv_icmp_ne (tgt := 42) hx hb dX13_coloursNow_36 (by decide) (fun h_ => ?_) (fun h_ => ?_)
        · replace hf := if_f h_ hf
          refine lv_iconst (v := 0) hx hb dX13_coloursNow_42 (by decide) ?_
          refine lv_istore (lv' := [(4, .int (0 : Int32)), (0, .ref (a_md 0)), (1, .int x1), (2, .int x2), (3, .int x3)]) hx hb dX13_coloursNow_43 hl (by decide) rfl (fun ls hl => ?_)
          exact L_45 FU x1 x2 x3 (0 : Int32) md _ _ _ _ (lv_sub hl [1, 2, 3, 4, 0] rfl) hI hf (fun z_0 z_1 z_2 z_3 _ _ _ hl hI hf => ih z_0 z_1 z_2 z_3 _ _ _ hl hI hf)
        · replace hf := if_t h_ hf
          refine lv_goto (tgt := 140) hx hb dX13_coloursNow_39 (by decide) ?_
          exact L_140 x1 x2 x3 md _ _ _ _ hl hI hf (fun z_0 z_1 z_2 z_3 _ _ _ hl hI hf => ih z_0 z_1 z_2 z_3 _ _ _ hl hI hf)
  unfold f_X13_coloursNow at hf
  refine lv_aload_n hx hb dX13_coloursNow_0 rfl (lv_at hl 0 rfl) ?_
  obtain ⟨md_1, hc_, hf⟩ := bd1_some hf
  refine call_Vv X hI (Cj.keep (Cj.keep Cj.id)) (c_X13_laysArcs l g a_md a_tn q_md_read md tn md_1 hc_) ⟨rfl, rfl⟩ ⟨ht _ w_2216, w_2219, ht _ w_155, lk_X13_laysArcs⟩ w_2218 w_121 rfl rfl rfl hl rfl rfl dX13_coloursNow_1 rfl rfl rfl rfl (fun H locs hI => ?_)
  refine lv_aload_n hx hb dX13_coloursNow_4 rfl (lv_at hl 0 rfl) ?_
  refine lv_aload_n hx hb dX13_coloursNow_5 rfl (lv_at hl 0 rfl) ?_
  refine g_Md_now X hI has_Md.l (X.fl w_1598) dX13_coloursNow_6 ?_
  obtain ⟨md_2, hc_, hf⟩ := bd1_some hf
  refine call_Vv X hI (Cj.keep (Cj.keep Cj.id)) (c_X13_looks l g a_md a_tn q_md_read md_1 tn (Md_now md_1) md_2 hc_) ⟨rfl, rfl⟩ ⟨ht _ w_2071, w_2074, ht _ w_155, lk_X13_looks⟩ w_2073 w_99 rfl rfl rfl hl rfl rfl dX13_coloursNow_9 rfl rfl rfl rfl (fun H locs hI => ?_)
  refine lv_iconst (v := 0) hx hb dX13_coloursNow_12 (by decide) ?_
  refine lv_istore_n (lv' := [(2, .int (0 : Int32)), (0, .ref (a_md 0)), (1, .int p1)]) hx hb dX13_coloursNow_13 rfl hl (by decide) rfl (fun ls hl => ?_)
  refine lv_iconst (v := 0) hx hb dX13_coloursNow_14 (by decide) ?_
  refine lv_istore_n (lv' := [(3, .int (0 : Int32)), (2, .int (0 : Int32)), (0, .ref (a_md 0)), (1, .int p1)]) hx hb dX13_coloursNow_15 rfl hl (by decide) rfl (fun ls hl => ?_)
  exact L_16 FU p1 (0 : Int32) (0 : Int32) md_2 _ _ _ (lv_sub hl [2, 3, 1, 0] rfl) hI hf
abbrev rm_X13_colours : Room := { frames := 4, cells := 0, slots := 0, locals := 103 }
set_option maxRecDepth 20000 in
theorem c_X13_colours (l : Launch) (g : GT) (a_md : Nat → Nat) (a_tn : Nat → Nat) (q_md_read : Option Nat) (md : MdS) (tn : TnS) (p1 : Int32) (r_ : Int32) (o_md : MdS) (hf : f_X13_colours md tn p1 = some (r_, o_md)) : CI l yX13_colours cX13_colours 2 (some .int) rm_X13_colours g [.ref (a_md 0), .int p1] (wMd g a_md (some (a_tn 0)) q_md_read md ++ (wTn g a_tn tn ++ [])) (wMd g a_md (some (a_tn 0)) q_md_read o_md ++ (wTn g a_tn tn ++ [])) r_ := by
  refine start2 (y := yX13_colours) (cc := cX13_colours) (n := 2) (av := [.ref (a_md 0), .int p1]) (ws := (wMd g a_md (some (a_tn 0)) q_md_read md ++ (wTn g a_tn tn ++ []))) (Qc := fun sz => QI g (wMd g a_md (some (a_tn 0)) q_md_read md ++ (wTn g a_tn tn ++ [])) (wMd g a_md (some (a_tn 0)) q_md_read o_md ++ (wTn g a_tn tn ++ [])) r_ sz) (by decide) rfl ?_
  intro p e s m args below meth c ls Q A ha hQ hA X hl hI hin
  have X : Cx p s m args meth c cX13_colours 2 RX13 (some .int) := X
  have hl : lv_has ls 2 [(0, .ref (a_md 0)), (1, .int p1)] := hl
  obtain ⟨hx, hb, hml, hown, ht, hr, hlk⟩ := id X
  clear ha hin
  have L_34 : ∀ (x1 : Int32) (md : MdS) (H : Heap) (locs : List Loc) (ls : Array Slot), lv_has ls 2 [(0, .ref (a_md 0)), (1, .int x1)] → In g A s.heap s (wMd g a_md (some (a_tn 0)) q_md_read md ++ (wTn g a_tn tn ++ [])) H locs → f_X13_colours_L34 x1 md tn = some (r_, o_md) → W p l e rm_X13_colours s m args below meth c H locs 0 0 Q (F0 m 34 ls []) := by
    intro x1 md H locs ls hl hI hf
    unfold f_X13_colours_L34 at hf
    refine lv_aload_n hx hb dX13_colours_34 rfl (lv_at hl 0 rfl) ?_
    refine lv_aload_n hx hb dX13_colours_35 rfl (lv_at hl 0 rfl) ?_
    refine lv_iload_n hx hb dX13_colours_36 rfl (lv_at hl 1 rfl) ?_
    obtain ⟨r_4, md_5, hc_, hf⟩ := bd2_some hf
    refine call_Vi X hI (Cj.keep (Cj.keep Cj.id)) (c_X13_coloursNow l g a_md a_tn q_md_read md tn x1 r_4 md_5 hc_) ⟨rfl, rfl⟩ ⟨ht _ w_2212, w_2215, ht _ w_155, lk_X13_coloursNow⟩ w_2214 w_120 rfl rfl rfl hl rfl rfl dX13_colours_37 rfl rfl rfl rfl (fun H locs hI => ?_)
    obtain ⟨r_6, md_7, hc_, hf⟩ := bd2_some hf
    refine call_Vi X hI (Cj.keep Cj.nil) (c_X13_good l g a_md (some (a_tn 0)) q_md_read md_5 r_4 r_6 md_7 hc_) ⟨rfl, rfl⟩ ⟨ht _ w_1998, w_2001, ht _ w_155, lk_X13_good⟩ w_2000 w_92 rfl rfl rfl hl rfl rfl dX13_colours_40 rfl rfl rfl rfl (fun H locs hI => ?_)
    refine lv_goto (tgt := 51) hx hb dX13_colours_43 (by decide) ?_
    cases hf
    exact end_i hQ hA X hI dX13_colours_51
  unfold f_X13_colours at hf
  refine lv_aload_n hx hb dX13_colours_0 rfl (lv_at hl 0 rfl) ?_
  refine lv_iconst (v := 0) hx hb dX13_colours_1 (by decide) ?_
  refine p_Md_thrown X hI up_Md_thrown.l (X.fl w_1583) dX13_colours_2 (fun H locs hI => ?_)
  generalize hz_ : (Md_thrown' md (0 : Int32)) = md_1 at hI hf
  clear hz_
  replace hf := lt_e hf
  refine lv_aload_n hx hb dX13_colours_5 rfl (lv_at hl 0 rfl) ?_
  refine g_Md_tangle_S X hI has_Md.l (X.fl w_1586) dX13_colours_6 ?_
  refine lv_ifnonnull (tgt := 18) hx hb dX13_colours_9 (by decide) ?_
  refine lv_iload_n hx hb dX13_colours_18 rfl (lv_at hl 1 rfl) ?_
  refine lv_iconst (v := 3) hx hb dX13_colours_19 (by decide) ?_
  refine lv_icmp_eq (tgt := 34) hx hb dX13_colours_20 (by decide) (fun h_ => ?_) (fun h_ => ?_)
  · replace hf := if_t h_ hf
    exact L_34 p1 md_1 _ _ _ hl hI hf
  · replace hf := if_f h_ hf
    refine lv_iload_n hx hb dX13_colours_23 rfl (lv_at hl 1 rfl) ?_
    refine lv_iconst (v := 5) hx hb dX13_colours_24 (by decide) ?_
    refine lv_icmp_eq (tgt := 34) hx hb dX13_colours_25 (by decide) (fun h_ => ?_) (fun h_ => ?_)
    · replace hf := if_t h_ hf
      exact L_34 p1 md_1 _ _ _ hl hI hf
    · replace hf := if_f h_ hf
      refine lv_iload_n hx hb dX13_colours_28 rfl (lv_at hl 1 rfl) ?_
      refine lv_bipush (v := 7) hx hb dX13_colours_29 (by decide) ?_
      refine lv_icmp_ne (tgt := 46) hx hb dX13_colours_31 (by decide) (fun h_ => ?_) (fun h_ => ?_)
      · replace hf := if_f h_ hf
        refine lv_aload_n hx hb dX13_colours_46 rfl (lv_at hl 0 rfl) ?_
        refine lv_iconst (v := 2) hx hb dX13_colours_47 (by decide) ?_
        obtain ⟨r_2, md_3, hc_, hf⟩ := bd2_some hf
        refine call_Vi X hI (Cj.keep Cj.nil) (c_X13_refused l g a_md (some (a_tn 0)) q_md_read md_1 (2 : Int32) r_2 md_3 hc_) ⟨rfl, rfl⟩ ⟨ht _ w_1719, w_1722, ht _ w_155, lk_X13_refused⟩ w_1721 w_65 rfl rfl rfl hl rfl rfl dX13_colours_48 rfl rfl rfl rfl (fun H locs hI => ?_)
        cases hf
        exact end_i hQ hA X hI dX13_colours_51
      · replace hf := if_t h_ hf
        exact L_34 p1 md_1 _ _ _ hl hI hf
abbrev rm_X13_cannot : Room := { frames := 5, cells := 0, slots := 0, locals := 118 }
set_option maxRecDepth 20000 in
theorem c_X13_cannot (l : Launch) (g : GT) (a_md : Nat → Nat) (a_tn : Nat → Nat) (q_md_read : Option Nat) (md : MdS) (tn : TnS) (r_ : Int32) (o_md : MdS) (hf : f_X13_cannot md tn = some (r_, o_md)) : CI l yX13_cannot cX13_cannot 4 (some .int) rm_X13_cannot g [.ref (a_md 0)] (wMd g a_md (some (a_tn 0)) q_md_read md ++ (wTn g a_tn tn ++ [])) (wMd g a_md (some (a_tn 0)) q_md_read o_md ++ (wTn g a_tn tn ++ [])) r_ := by
  refine start2 (y := yX13_cannot) (cc := cX13_cannot) (n := 4) (av := [.ref (a_md 0)]) (ws := (wMd g a_md (some (a_tn 0)) q_md_read md ++ (wTn g a_tn tn ++ []))) (Qc := fun sz => QI g (wMd g a_md (some (a_tn 0)) q_md_read md ++ (wTn g a_tn tn ++ [])) (wMd g a_md (some (a_tn 0)) q_md_read o_md ++ (wTn g a_tn tn ++ [])) r_ sz) (by decide) rfl ?_
  intro p e s m args below meth c ls Q A ha hQ hA X hl hI hin
  have X : Cx p s m args meth c cX13_cannot 4 RX13 (some .int) := X
  have hl : lv_has ls 4 [(0, .ref (a_md 0))] := hl
  obtain ⟨hx, hb, hml, hown, ht, hr, hlk⟩ := id X
  clear ha hin
  have L_52 : ∀ (x2 : Int32) (t0i : Int32) (md : MdS) (k22 : (Int32) → (Int32) → (MdS) → (TnS) → Option (Int32 × (MdS))) (H : Heap) (locs : List Loc) (ls : Array Slot), lv_has ls 4 [(0, .ref (a_md 0)), (2, .int x2)] → In g A s.heap s (wMd g a_md (some (a_tn 0)) q_md_read md ++ (wTn g a_tn tn ++ [])) H locs → f_X13_cannot_L52 x2 t0i md tn k22 = some (r_, o_md) → (∀ (x1 : Int32) (x2 : Int32) (md : MdS) (H : Heap) (locs : List Loc) (ls : Array Slot), lv_has ls 4 [(0, .ref (a_md 0)), (1, .int x1), (2, .int x2)] → In g A s.heap s (wMd g a_md (some (a_tn 0)) q_md_read md ++ (wTn g a_tn tn ++ [])) H locs → k22 x1 x2 md tn = some (r_, o_md) → W p l e rm_X13_cannot s m args below meth c H locs 0 0 Q (F0 m 22 ls [])) → W p l e rm_X13_cannot s m args below meth c H locs 0 0 Q (F0 m 52 ls [.int t0i]) := by
    intro x2 t0i md k22 H locs ls hl hI hf hk22
    unfold f_X13_cannot_L52 at hf
    refine lv_istore_n (lv' := [(1, .int t0i), (0, .ref (a_md 0)), (2, .int x2)]) hx hb dX13_cannot_52 rfl hl (by decide) rfl (fun ls hl => ?_)
    obtain ⟨v_4, e_⟩ : ∃ y : Int32, y = (x2 + (2 : Int32)) := ⟨_, rfl⟩
    replace hf := lt_to e_ hf
    refine lv_iinc (v := v_4) (lv' := [(2, .int v_4), (1, .int t0i), (0, .ref (a_md 0))]) hx hb dX13_cannot_53 hl (k := 2) rfl (by rw [e_]; rfl) (by decide) rfl (fun ls hl => ?_)
    clear e_
    refine lv_goto (tgt := 22) hx hb dX13_cannot_56 (by decide) ?_
    exact hk22 t0i v_4 md _ _ _ (lv_sub hl [2, 1, 0] rfl) hI hf
  have L_47 : ∀ (x2 : Int32) (md : MdS) (k22 : (Int32) → (Int32) → (MdS) → (TnS) → Option (Int32 × (MdS))) (H : Heap) (locs : List Loc) (ls : Array Slot), lv_has ls 4 [(0, .ref (a_md 0)), (2, .int x2)] → In g A s.heap s (wMd g a_md (some (a_tn 0)) q_md_read md ++ (wTn g a_tn tn ++ [])) H locs → f_X13_cannot_L47 x2 md tn k22 = some (r_, o_md) → (∀ (x1 : Int32) (x2 : Int32) (md : MdS) (H : Heap) (locs : List Loc) (ls : Array Slot), lv_has ls 4 [(0, .ref (a_md 0)), (1, .int x1), (2, .int x2)] → In g A s.heap s (wMd g a_md (some (a_tn 0)) q_md_read md ++ (wTn g a_tn tn ++ [])) H locs → k22 x1 x2 md tn = some (r_, o_md) → W p l e rm_X13_cannot s m args below meth c H locs 0 0 Q (F0 m 22 ls [])) → W p l e rm_X13_cannot s m args below meth c H locs 0 0 Q (F0 m 47 ls []) := by
    intro x2 md k22 H locs ls hl hI hf hk22
    unfold f_X13_cannot_L47 at hf
    refine lv_iconst (v := 1) hx hb dX13_cannot_47 (by decide) ?_
    refine lv_goto (tgt := 52) hx hb dX13_cannot_48 (by decide) ?_
    exact L_52 x2 (1 : Int32) md _ _ _ _ hl hI hf hk22
  have L_97 : ∀ (x2 : Int32) (x3 : Int32) (t0i : Int32) (md : MdS) (k74 : (Int32) → (Int32) → (Int32) → (MdS) → (TnS) → Option (Int32 × (MdS))) (H : Heap) (locs : List Loc) (ls : Array Slot), lv_has ls 4 [(0, .ref (a_md 0)), (2, .int x2), (3, .int x3)] → In g A s.heap s (wMd g a_md (some (a_tn 0)) q_md_read md ++ (wTn g a_tn tn ++ [])) H locs → f_X13_cannot_L97 x2 x3 t0i md tn k74 = some (r_, o_md) → (∀ (x1 : Int32) (x2 : Int32) (x3 : Int32) (md : MdS) (H : Heap) (locs : List Loc) (ls : Array Slot), lv_has ls 4 [(0, .ref (a_md 0)), (1, .int x1), (2, .int x2), (3, .int x3)] → In g A s.heap s (wMd g a_md (some (a_tn 0)) q_md_read md ++ (wTn g a_tn tn ++ [])) H locs → k74 x1 x2 x3 md tn = some (r_, o_md) → W p l e rm_X13_cannot s m args below meth c H locs 0 0 Q (F0 m 74 ls [])) → W p l e rm_X13_cannot s m args below meth c H locs 0 0 Q (F0 m 97 ls [.int t0i]) := by
    intro x2 x3 t0i md k74 H locs ls hl hI hf hk74
    unfold f_X13_cannot_L97 at hf
    refine lv_istore_n (lv' := [(1, .int t0i), (0, .ref (a_md 0)), (2, .int x2), (3, .int x3)]) hx hb dX13_cannot_97 rfl hl (by decide) rfl (fun ls hl => ?_)
    obtain ⟨v_10, e_⟩ : ∃ y : Int32, y = (x3 + (1 : Int32)) := ⟨_, rfl⟩
    replace hf := lt_to e_ hf
    refine lv_iinc (v := v_10) (lv' := [(3, .int v_10), (1, .int t0i), (0, .ref (a_md 0)), (2, .int x2)]) hx hb dX13_cannot_98 hl (k := 3) rfl (by rw [e_]; rfl) (by decide) rfl (fun ls hl => ?_)
    clear e_
    refine lv_goto (tgt := 74) hx hb dX13_cannot_101 (by decide) ?_
    exact hk74 t0i x2 v_10 md _ _ _ (lv_sub hl [2, 1, 3, 0] rfl) hI hf
  have L_92 : ∀ (x2 : Int32) (x3 : Int32) (md : MdS) (k74 : (Int32) → (Int32) → (Int32) → (MdS) → (TnS) → Option (Int32 × (MdS))) (H : Heap) (locs : List Loc) (ls : Array Slot), lv_has ls 4 [(0, .ref (a_md 0)), (2, .int x2), (3, .int x3)] → In g A s.heap s (wMd g a_md (some (a_tn 0)) q_md_read md ++ (wTn g a_tn tn ++ [])) H locs → f_X13_cannot_L92 x2 x3 md tn k74 = some (r_, o_md) → (∀ (x1 : Int32) (x2 : Int32) (x3 : Int32) (md : MdS) (H : Heap) (locs : List Loc) (ls : Array Slot), lv_has ls 4 [(0, .ref (a_md 0)), (1, .int x1), (2, .int x2), (3, .int x3)] → In g A s.heap s (wMd g a_md (some (a_tn 0)) q_md_read md ++ (wTn g a_tn tn ++ [])) H locs → k74 x1 x2 x3 md tn = some (r_, o_md) → W p l e rm_X13_cannot s m args below meth c H locs 0 0 Q (F0 m 74 ls [])) → W p l e rm_X13_cannot s m args below meth c H locs 0 0 Q (F0 m 92 ls []) := by
    intro x2 x3 md k74 H locs ls hl hI hf hk74
    unfold f_X13_cannot_L92 at hf
    refine lv_iconst (v := 1) hx hb dX13_cannot_92 (by decide) ?_
    refine lv_goto (tgt := 97) hx hb dX13_cannot_93 (by decide) ?_
    exact L_97 x2 x3 (1 : Int32) md _ _ _ _ hl hI hf hk74
  have L_74 : ∀ (n_ : Nat) (x1 : Int32) (x2 : Int32) (x3 : Int32) (md : MdS) (k61 : (Int32) → (Int32) → (MdS) → (TnS) → Option (Int32 × (MdS))) (H : Heap) (locs : List Loc) (ls : Array Slot), lv_has ls 4 [(0, .ref (a_md 0)), (1, .int x1), (2, .int x2), (3, .int x3)] → In g A s.heap s (wMd g a_md (some (a_tn 0)) q_md_read md ++ (wTn g a_tn tn ++ [])) H locs → f_X13_cannot_L74 n_ x1 x2 x3 md tn k61 = some (r_, o_md) → (∀ (x1 : Int32) (x2 : Int32) (md : MdS) (H : Heap) (locs : List Loc) (ls : Array Slot), lv_has ls 4 [(0, .ref (a_md 0)), (1, .int x1), (2, .int x2)] → In g A s.heap s (wMd g a_md (some (a_tn 0)) q_md_read md ++ (wTn g a_tn tn ++ [])) H locs → k61 x1 x2 md tn = some (r_, o_md) → W p l e rm_X13_cannot s m args below meth c H locs 0 0 Q (F0 m 61 ls [])) → W p l e rm_X13_cannot s m args below meth c H locs 0 0 Q (F0 m 74 ls []) := by
    intro n_
    induction n_ with
    | zero =>
      intro x1 x2 x3 md k61 H locs ls hl hI hf hk61
      rw [f_X13_cannot_L74] at hf
      cases hf
    | succ n_ ih =>
      intro x1 x2 x3 md k61 H locs ls hl hI hf hk61
      rw [f_X13_cannot_L74] at hf
      refine lv_iload_n hx hb dX13_cannot_74 rfl (lv_at hl 3 rfl) ?_
      refine lv_iload_n hx hb dX13_cannot_75 rfl (lv_at hl 2 rfl) ?_
      refine lv_icmp_ge (tgt := 104) hx hb dX13_cannot_76 (by decide) (fun h_ => ?_) (fun h_ => ?_)
      · replace hf := if_t h_ hf
        obtain ⟨v_7, e_⟩ : ∃ y : Int32, y = (x2 + (1 : Int32)) := ⟨_, rfl⟩
        replace hf := lt_to e_ hf
        refine lv_iinc (v := v_7) (lv' := [(2, .int v_7), (0, .ref (a_md 0)), (1, .int x1), (3, .int x3)]) hx hb dX13_cannot_104 hl (k := 2) rfl (by rw [e_]; rfl) (by decide) rfl (fun ls hl => ?_)
        clear e_
        refine lv_goto (tgt := 61) hx hb dX13_cannot_107 (by decide) ?_
        exact hk61 x1 v_7 md _ _ _ (lv_sub hl [1, 2, 0] rfl) hI hf
      · replace hf := if_f h_ hf
        refine lv_iload_n hx hb dX13_cannot_79 rfl (lv_at hl 1 rfl) ?_
        refine lv_if_ne (tgt := 92) hx hb dX13_cannot_80 (by decide) (fun h_ => ?_) (fun h_ => ?_)
        · replace hf := if_f h_ hf
          exact L_92 x2 x3 md _ _ _ _ (lv_sub hl [0, 2, 3] rfl) hI hf (fun z_0 z_1 z_2 z_3 _ _ _ hl hI hf => ih z_0 z_1 z_2 z_3 k61 _ _ _ hl hI hf hk61)
        · replace hf := if_t h_ hf
          refine lv_aload_n hx hb dX13_cannot_83 rfl (lv_at hl 0 rfl) ?_
          refine lv_iload_n hx hb dX13_cannot_84 rfl (lv_at hl 2 rfl) ?_
          refine lv_iload_n hx hb dX13_cannot_85 rfl (lv_at hl 3 rfl) ?_
          obtain ⟨r_8, md_9, hc_, hf⟩ := bd2_some hf
          refine call_Vi X hI (Cj.keep (Cj.keep Cj.id)) (c_X13_hangNow l g a_md a_tn q_md_read md tn x2 x3 r_8 md_9 hc_) ⟨rfl, rfl⟩ ⟨ht _ w_2204, w_2207, ht _ w_155, lk_X13_hangNow⟩ w_2206 w_119 rfl rfl rfl hl rfl rfl dX13_cannot_86 rfl rfl rfl rfl (fun H locs hI => ?_)
          refine lv_if_eq (tgt := 96) hx hb dX13_cannot_89 (by decide) (fun h_ => ?_) (fun h_ => ?_)
          · replace hf := if_t h_ hf
            refine lv_iconst (v := 0) hx hb dX13_cannot_96 (by decide) ?_
            exact L_97 x2 x3 (0 : Int32) md_9 _ _ _ _ (lv_sub hl [0, 2, 3] rfl) hI hf (fun z_0 z_1 z_2 z_3 _ _ _ hl hI hf => ih z_0 z_1 z_2 z_3 k61 _ _ _ hl hI hf hk61)
          · replace hf := if_f h_ hf
            exact L_92 x2 x3 md_9 _ _ _ _ (lv_sub hl [0, 2, 3] rfl) hI hf (fun z_0 z_1 z_2 z_3 _ _ _ hl hI hf => ih z_0 z_1 z_2 z_3 k61 _ _ _ hl hI hf hk61)
  have L_120 : ∀ (t1i : Int32) (md : MdS) (H : Heap) (locs : List Loc) (ls : Array Slot), lv_has ls 4 [] → In g A s.heap s (wMd g a_md (some (a_tn 0)) q_md_read md ++ (wTn g a_tn tn ++ [])) H locs → f_X13_cannot_L120 t1i md = some (r_, o_md) → W p l e rm_X13_cannot s m args below meth c H locs 0 0 Q (F0 m 120 ls [.int t1i, .ref (a_md 0)]) := by
    intro t1i md H locs ls hl hI hf
    unfold f_X13_cannot_L120 at hf
    obtain ⟨r_5, md_6, hc_, hf⟩ := bd2_some hf
    refine call_Vi X hI (Cj.keep Cj.nil) (c_X13_good l g a_md (some (a_tn 0)) q_md_read md t1i r_5 md_6 hc_) ⟨rfl, rfl⟩ ⟨ht _ w_1998, w_2001, ht _ w_155, lk_X13_good⟩ w_2000 w_92 rfl rfl rfl hl rfl rfl dX13_cannot_120 rfl rfl rfl rfl (fun H locs hI => ?_)
    cases hf
    exact end_i hQ hA X hI dX13_cannot_123
  have L_61 : ∀ (n_ : Nat) (x1 : Int32) (x2 : Int32) (md : MdS) (H : Heap) (locs : List Loc) (ls : Array Slot), lv_has ls 4 [(0, .ref (a_md 0)), (1, .int x1), (2, .int x2)] → In g A s.heap s (wMd g a_md (some (a_tn 0)) q_md_read md ++ (wTn g a_tn tn ++ [])) H locs → f_X13_cannot_L61 n_ x1 x2 md tn = some (r_, o_md) → W p l e rm_X13_cannot s m args below meth c H locs 0 0 Q (F0 m 61 ls []) := by
    intro n_
    induction n_ with
    | zero =>
      intro x1 x2 md H locs ls hl hI hf
      rw [f_X13_cannot_L61] at hf
      cases hf
    | succ n_ ih =>
      intro x1 x2 md H locs ls hl hI hf
      rw [f_X13_cannot_L61] at hf
      refine lv_iload_n hx hb dX13_cannot_61 rfl (lv_at hl 2 rfl) ?_
      refine lv_aload_n hx hb dX13_cannot_62 rfl (lv_at hl 0 rfl) ?_
      refine g_Md_tangle_S X hI has_Md.l (X.fl w_1586) dX13_cannot_63 ?_
      refine g_Tn_rings X hI has_Tn.l.r (hI.fn (List.mem_of_getElem? (i := 84) rfl)) dX13_cannot_66 ?_
      refine lv_icmp_ge (tgt := 110) hx hb dX13_cannot_69 (by decide) (fun h_ => ?_) (fun h_ => ?_)
      · replace hf := if_t h_ hf
        refine lv_aload_n hx hb dX13_cannot_110 rfl (lv_at hl 0 rfl) ?_
        refine lv_iload_n hx hb dX13_cannot_111 rfl (lv_at hl 1 rfl) ?_
        refine lv_if_eq (tgt := 119) hx hb dX13_cannot_112 (by decide) (fun h_ => ?_) (fun h_ => ?_)
        · replace hf := if_t h_ hf
          refine lv_iconst (v := 0) hx hb dX13_cannot_119 (by decide) ?_
          exact L_120 (0 : Int32) md _ _ _ (lv_sub hl [] rfl) hI hf
        · replace hf := if_f h_ hf
          refine lv_iconst (v := 1) hx hb dX13_cannot_115 (by decide) ?_
          refine lv_goto (tgt := 120) hx hb dX13_cannot_116 (by decide) ?_
          exact L_120 (1 : Int32) md _ _ _ (lv_sub hl [] rfl) hI hf
      · replace hf := if_f h_ hf
        refine lv_iconst (v := 0) hx hb dX13_cannot_72 (by decide) ?_
        refine lv_istore_n (lv' := [(3, .int (0 : Int32)), (0, .ref (a_md 0)), (1, .int x1), (2, .int x2)]) hx hb dX13_cannot_73 rfl hl (by decide) rfl (fun ls hl => ?_)
        exact L_74 FU x1 x2 (0 : Int32) md _ _ _ _ (lv_sub hl [1, 2, 3, 0] rfl) hI hf (fun z_0 z_1 z_2 _ _ _ hl hI hf => ih z_0 z_1 z_2 _ _ _ hl hI hf)
  have L_22 : ∀ (n_ : Nat) (x1 : Int32) (x2 : Int32) (md : MdS) (H : Heap) (locs : List Loc) (ls : Array Slot), lv_has ls 4 [(0, .ref (a_md 0)), (1, .int x1), (2, .int x2)] → In g A s.heap s (wMd g a_md (some (a_tn 0)) q_md_read md ++ (wTn g a_tn tn ++ [])) H locs → f_X13_cannot_L22 n_ x1 x2 md tn = some (r_, o_md) → W p l e rm_X13_cannot s m args below meth c H locs 0 0 Q (F0 m 22 ls []) := by
    intro n_
    induction n_ with
    | zero =>
      intro x1 x2 md H locs ls hl hI hf
      rw [f_X13_cannot_L22] at hf
      cases hf
    | succ n_ ih =>
      intro x1 x2 md H locs ls hl hI hf
      rw [f_X13_cannot_L22] at hf
      refine lv_iload_n hx hb dX13_cannot_22 rfl (lv_at hl 2 rfl) ?_
      refine lv_bipush (v := 8) hx hb dX13_cannot_23 (by decide) ?_
      refine lv_icmp_ge (tgt := 59) hx hb dX13_cannot_25 (by decide) (fun h_ => ?_) (fun h_ => ?_)
      · replace hf := if_t h_ hf
        refine lv_iconst (v := 0) hx hb dX13_cannot_59 (by decide) ?_
        refine lv_istore_n (lv' := [(2, .int (0 : Int32)), (0, .ref (a_md 0)), (1, .int x1)]) hx hb dX13_cannot_60 rfl hl (by decide) rfl (fun ls hl => ?_)
        exact L_61 FU x1 (0 : Int32) md _ _ _ (lv_sub hl [1, 2, 0] rfl) hI hf
      · replace hf := if_f h_ hf
        refine lv_iload_n hx hb dX13_cannot_28 rfl (lv_at hl 1 rfl) ?_
        refine lv_if_ne (tgt := 47) hx hb dX13_cannot_29 (by decide) (fun h_ => ?_) (fun h_ => ?_)
        · replace hf := if_f h_ hf
          exact L_47 x2 md _ _ _ _ (lv_sub hl [0, 2] rfl) hI hf (fun z_0 z_1 z_2 _ _ _ hl hI hf => ih z_0 z_1 z_2 _ _ _ hl hI hf)
        · replace hf := if_t h_ hf
          refine lv_aload_n hx hb dX13_cannot_32 rfl (lv_at hl 0 rfl) ?_
          refine lv_iload_n hx hb dX13_cannot_33 rfl (lv_at hl 2 rfl) ?_
          obtain ⟨r_2, md_3, hc_, hf⟩ := bd2_some hf
          refine call_Vi X hI (Cj.keep (Cj.keep Cj.id)) (c_X13_coloursNow l g a_md a_tn q_md_read md tn x2 r_2 md_3 hc_) ⟨rfl, rfl⟩ ⟨ht _ w_2212, w_2215, ht _ w_155, lk_X13_coloursNow⟩ w_2214 w_120 rfl rfl rfl hl rfl rfl dX13_cannot_34 rfl rfl rfl rfl (fun H locs hI => ?_)
          refine lv_aload_n hx hb dX13_cannot_37 rfl (lv_at hl 0 rfl) ?_
          refine g_Md_tangle_S X hI has_Md.l (X.fl w_1586) dX13_cannot_38 ?_
          refine g_Tn_rings X hI has_Tn.l.r (hI.fn (List.mem_of_getElem? (i := 84) rfl)) dX13_cannot_41 ?_
          refine lv_icmp_eq (tgt := 51) hx hb dX13_cannot_44 (by decide) (fun h_ => ?_) (fun h_ => ?_)
          · replace hf := if_t h_ hf
            refine lv_iconst (v := 0) hx hb dX13_cannot_51 (by decide) ?_
            exact L_52 x2 (0 : Int32) md_3 _ _ _ _ (lv_sub hl [0, 2] rfl) hI hf (fun z_0 z_1 z_2 _ _ _ hl hI hf => ih z_0 z_1 z_2 _ _ _ hl hI hf)
          · replace hf := if_f h_ hf
            exact L_47 x2 md_3 _ _ _ _ (lv_sub hl [0, 2] rfl) hI hf (fun z_0 z_1 z_2 _ _ _ hl hI hf => ih z_0 z_1 z_2 _ _ _ hl hI hf)
  unfold f_X13_cannot at hf
  refine lv_aload_n hx hb dX13_cannot_0 rfl (lv_at hl 0 rfl) ?_
  refine lv_iconst (v := 0) hx hb dX13_cannot_1 (by decide) ?_
  refine p_Md_thrown X hI up_Md_thrown.l (X.fl w_1583) dX13_cannot_2 (fun H locs hI => ?_)
  generalize hz_ : (Md_thrown' md (0 : Int32)) = md_1 at hI hf
  clear hz_
  replace hf := lt_e hf
  refine lv_aload_n hx hb dX13_cannot_5 rfl (lv_at hl 0 rfl) ?_
  refine g_Md_tangle_S X hI has_Md.l (X.fl w_1586) dX13_cannot_6 ?_
  refine lv_ifnonnull (tgt := 18) hx hb dX13_cannot_9 (by decide) ?_
  refine lv_iconst (v := 0) hx hb dX13_cannot_18 (by decide) ?_
  refine lv_istore_n (lv' := [(1, .int (0 : Int32)), (0, .ref (a_md 0))]) hx hb dX13_cannot_19 rfl hl (by decide) rfl (fun ls hl => ?_)
  refine lv_iconst (v := 3) hx hb dX13_cannot_20 (by decide) ?_
  refine lv_istore_n (lv' := [(2, .int (3 : Int32)), (1, .int (0 : Int32)), (0, .ref (a_md 0))]) hx hb dX13_cannot_21 rfl hl (by decide) rfl (fun ls hl => ?_)
  exact L_22 FU (0 : Int32) (3 : Int32) md_1 _ _ _ (lv_sub hl [2, 1, 0] rfl) hI hf
abbrev rm_X13_partedFrom : Room := { frames := 3, cells := 0, slots := 0, locals := 71 }
set_option maxRecDepth 20000 in
theorem c_X13_partedFrom (l : Launch) (g : GT) (a_md : Nat → Nat) (a_tn : Nat → Nat) (q_md_read : Option Nat) (md : MdS) (tn : TnS) (p1 : Int64) (p3 : Int32) (r_ : Int64) (o_md : MdS) (hf : f_X13_partedFrom md tn p1 p3 = some (r_, o_md)) : CL l yX13_partedFrom cX13_partedFrom 7 (some .long) rm_X13_partedFrom g [.ref (a_md 0), .long p1, .int p3] (wMd g a_md (some (a_tn 0)) q_md_read md ++ (wTn g a_tn tn ++ [])) (wMd g a_md (some (a_tn 0)) q_md_read o_md ++ (wTn g a_tn tn ++ [])) r_ := by
  refine start2 (y := yX13_partedFrom) (cc := cX13_partedFrom) (n := 7) (av := [.ref (a_md 0), .long p1, .int p3]) (ws := (wMd g a_md (some (a_tn 0)) q_md_read md ++ (wTn g a_tn tn ++ []))) (Qc := fun sz => QL g (wMd g a_md (some (a_tn 0)) q_md_read md ++ (wTn g a_tn tn ++ [])) (wMd g a_md (some (a_tn 0)) q_md_read o_md ++ (wTn g a_tn tn ++ [])) r_ sz) (by decide) rfl ?_
  intro p e s m args below meth c ls Q A ha hQ hA X hl hI hin
  have X : Cx p s m args meth c cX13_partedFrom 7 RX13 (some .long) := X
  have hl : lv_has ls 7 [(0, .ref (a_md 0)), (1, .long p1), (3, .int p3)] := hl
  obtain ⟨hx, hb, hml, hown, ht, hr, hlk⟩ := id X
  clear ha hin
  have L_64 : ∀ (x1 : Int64) (x3 : Int32) (x4 : Int64) (x6 : Int32) (md : MdS) (k11 : (Int64) → (Int32) → (Int64) → (Int32) → (MdS) → (TnS) → Option (Int64 × (MdS))) (H : Heap) (locs : List Loc) (ls : Array Slot), lv_has ls 7 [(0, .ref (a_md 0)), (1, .long x1), (3, .int x3), (4, .long x4), (6, .int x6)] → In g A s.heap s (wMd g a_md (some (a_tn 0)) q_md_read md ++ (wTn g a_tn tn ++ [])) H locs → f_X13_partedFrom_L64 x1 x3 x4 x6 md tn k11 = some (r_, o_md) → (∀ (x1 : Int64) (x3 : Int32) (x4 : Int64) (x6 : Int32) (md : MdS) (H : Heap) (locs : List Loc) (ls : Array Slot), lv_has ls 7 [(0, .ref (a_md 0)), (1, .long x1), (3, .int x3), (4, .long x4), (6, .int x6)] → In g A s.heap s (wMd g a_md (some (a_tn 0)) q_md_read md ++ (wTn g a_tn tn ++ [])) H locs → k11 x1 x3 x4 x6 md tn = some (r_, o_md) → W p l e rm_X13_partedFrom s m args below meth c H locs 0 0 Q (F0 m 11 ls [])) → W p l e rm_X13_partedFrom s m args below meth c H locs 0 0 Q (F0 m 64 ls []) := by
    intro x1 x3 x4 x6 md k11 H locs ls hl hI hf hk11
    unfold f_X13_partedFrom_L64 at hf
    obtain ⟨v_5, e_⟩ : ∃ y : Int32, y = (x6 + (1 : Int32)) := ⟨_, rfl⟩
    replace hf := lt_to e_ hf
    refine lv_iinc (v := v_5) (lv' := [(6, .int v_5), (0, .ref (a_md 0)), (1, .long x1), (3, .int x3), (4, .long x4)]) hx hb dX13_partedFrom_64 hl (k := 4) rfl (by rw [e_]; rfl) (by decide) rfl (fun ls hl => ?_)
    clear e_
    refine lv_goto (tgt := 11) hx hb dX13_partedFrom_67 (by decide) ?_
    exact hk11 x1 x3 x4 v_5 md _ _ _ (lv_sub hl [1, 2, 3, 4, 0] rfl) hI hf
  have L_11 : ∀ (n_ : Nat) (x1 : Int64) (x3 : Int32) (x4 : Int64) (x6 : Int32) (md : MdS) (H : Heap) (locs : List Loc) (ls : Array Slot), lv_has ls 7 [(0, .ref (a_md 0)), (1, .long x1), (3, .int x3), (4, .long x4), (6, .int x6)] → In g A s.heap s (wMd g a_md (some (a_tn 0)) q_md_read md ++ (wTn g a_tn tn ++ [])) H locs → f_X13_partedFrom_L11 n_ x1 x3 x4 x6 md tn = some (r_, o_md) → W p l e rm_X13_partedFrom s m args below meth c H locs 0 0 Q (F0 m 11 ls []) := by
    intro n_
    induction n_ with
    | zero =>
      intro x1 x3 x4 x6 md H locs ls hl hI hf
      rw [f_X13_partedFrom_L11] at hf
      cases hf
    | succ n_ ih =>
      intro x1 x3 x4 x6 md H locs ls hl hI hf
      rw [f_X13_partedFrom_L11] at hf
      refine lv_iload hx hb dX13_partedFrom_11 (lv_at hl 4 rfl) ?_
      refine lv_aload_n hx hb dX13_partedFrom_13 rfl (lv_at hl 0 rfl) ?_
      refine g_Md_tangle_S X hI has_Md.l (X.fl w_1586) dX13_partedFrom_14 ?_
      refine g_Tn_standings X hI has_Tn.l.r (hI.fn (List.mem_of_getElem? (i := 85) rfl)) dX13_partedFrom_17 ?_
      refine lv_icmp_ge (tgt := 70) hx hb dX13_partedFrom_20 (by decide) (fun h_ => ?_) (fun h_ => ?_)
      · replace hf := if_t h_ hf
        refine lv_lload hx hb dX13_partedFrom_70 (lv_at hl 3 rfl) ?_
        cases hf
        exact end_l hQ hA X hI dX13_partedFrom_72
      · replace hf := if_f h_ hf
        refine lv_aload_n hx hb dX13_partedFrom_23 rfl (lv_at hl 0 rfl) ?_
        refine g_Md_tangle_S X hI has_Md.l (X.fl w_1586) dX13_partedFrom_24 ?_
        refine g_Tn_standLink X hI has_Tn.l.r (hI.fn (List.mem_of_getElem? (i := 109) rfl)) dX13_partedFrom_27 ?_
        refine lv_iload hx hb dX13_partedFrom_30 (lv_at hl 4 rfl) ?_
        obtain ⟨h_, hf⟩ := ck_someM hf
        refine ld_I X hI has_Tn_standLink.l.r h_ dX13_partedFrom_32 ?_
        refine lv_iload_n hx hb dX13_partedFrom_33 rfl (lv_at hl 2 rfl) ?_
        refine lv_icmp_ne (tgt := 64) hx hb dX13_partedFrom_34 (by decide) (fun h_ => ?_) (fun h_ => ?_)
        · replace hf := if_f h_ hf
          exact L_64 x1 x3 x4 x6 md _ _ _ _ hl hI hf (fun z_0 z_1 z_2 z_3 z_4 _ _ _ hl hI hf => ih z_0 z_1 z_2 z_3 z_4 _ _ _ hl hI hf)
        · replace hf := if_t h_ hf
          refine lv_lload_n hx hb dX13_partedFrom_37 rfl (lv_at hl 1 rfl) ?_
          refine lv_iload hx hb dX13_partedFrom_38 (lv_at hl 4 rfl) ?_
          obtain ⟨r_2, hc_, hf⟩ := bd1_some hf
          refine call_Si X hI Cj.nil (c_X13_at l g x1 x6 r_2 hc_) ⟨rfl, rfl⟩ ⟨ht _ w_2051, w_2053, ht _ w_155, lk_X13_at⟩ w_2052 rfl hl rfl rfl dX13_partedFrom_40 rfl rfl rfl rfl (fun H locs hI => ?_)
          refine lv_bipush (v := 15) hx hb dX13_partedFrom_43 (by decide) ?_
          refine lv_icmp_eq (tgt := 64) hx hb dX13_partedFrom_45 (by decide) (fun h_ => ?_) (fun h_ => ?_)
          · replace hf := if_t h_ hf
            exact L_64 x1 x3 x4 x6 md _ _ _ _ hl hI hf (fun z_0 z_1 z_2 z_3 z_4 _ _ _ hl hI hf => ih z_0 z_1 z_2 z_3 z_4 _ _ _ hl hI hf)
          · replace hf := if_f h_ hf
            refine lv_aload_n hx hb dX13_partedFrom_48 rfl (lv_at hl 0 rfl) ?_
            refine lv_lload hx hb dX13_partedFrom_49 (lv_at hl 3 rfl) ?_
            refine lv_lload_n hx hb dX13_partedFrom_51 rfl (lv_at hl 1 rfl) ?_
            refine lv_iload hx hb dX13_partedFrom_52 (lv_at hl 4 rfl) ?_
            obtain ⟨r_3, hc_, hf⟩ := bd1_some hf
            refine call_Si X hI Cj.nil (c_X13_at l g x1 x6 r_3 hc_) ⟨rfl, rfl⟩ ⟨ht _ w_2051, w_2053, ht _ w_155, lk_X13_at⟩ w_2052 rfl hl rfl rfl dX13_partedFrom_54 rfl rfl rfl rfl (fun H locs hI => ?_)
            refine lv_iconst (v := 2) hx hb dX13_partedFrom_57 (by decide) ?_
            refine lv_idiv hx hb dX13_partedFrom_58 (by decide) ?_
            obtain ⟨r_4, hc_, hf⟩ := bd1_some hf
            refine call_Vl X hI (Cj.keep Cj.nil) (c_X13_without l g a_md (some (a_tn 0)) q_md_read md x4 (r_3 / (2 : Int32)) r_4 hc_) ⟨rfl, rfl⟩ ⟨ht _ w_2172, w_2175, ht _ w_155, lk_X13_without⟩ w_2174 w_115 rfl rfl rfl hl rfl rfl dX13_partedFrom_59 rfl rfl rfl rfl (fun H locs hI => ?_)
            refine lv_lstore (lv' := [(4, .long r_4), (0, .ref (a_md 0)), (1, .long x1), (3, .int x3), (6, .int x6)]) hx hb dX13_partedFrom_62 hl (by decide) rfl (fun ls hl => ?_)
            exact L_64 x1 x3 r_4 x6 md _ _ _ _ (lv_sub hl [1, 2, 3, 0, 4] rfl) hI hf (fun z_0 z_1 z_2 z_3 z_4 _ _ _ hl hI hf => ih z_0 z_1 z_2 z_3 z_4 _ _ _ hl hI hf)
  unfold f_X13_partedFrom at hf
  refine lv_aload_n hx hb dX13_partedFrom_0 rfl (lv_at hl 0 rfl) ?_
  refine lv_lload_n hx hb dX13_partedFrom_1 rfl (lv_at hl 1 rfl) ?_
  obtain ⟨md_1, hc_, hf⟩ := bd1_some hf
  refine call_Vv X hI (Cj.keep (Cj.keep Cj.id)) (c_X13_looks l g a_md a_tn q_md_read md tn p1 md_1 hc_) ⟨rfl, rfl⟩ ⟨ht _ w_2071, w_2074, ht _ w_155, lk_X13_looks⟩ w_2073 w_99 rfl rfl rfl hl rfl rfl dX13_partedFrom_2 rfl rfl rfl rfl (fun H locs hI => ?_)
  refine lv_lload_n hx hb dX13_partedFrom_5 rfl (lv_at hl 1 rfl) ?_
  refine lv_lstore (lv' := [(4, .long p1), (0, .ref (a_md 0)), (1, .long p1), (3, .int p3)]) hx hb dX13_partedFrom_6 hl (by decide) rfl (fun ls hl => ?_)
  refine lv_iconst (v := 0) hx hb dX13_partedFrom_8 (by decide) ?_
  refine lv_istore (lv' := [(6, .int (0 : Int32)), (4, .long p1), (0, .ref (a_md 0)), (1, .long p1), (3, .int p3)]) hx hb dX13_partedFrom_9 hl (by decide) rfl (fun ls hl => ?_)
  exact L_11 FU p1 p3 p1 (0 : Int32) md_1 _ _ _ (lv_sub hl [2, 3, 4, 1, 0] rfl) hI hf
abbrev rm_X13_part : Room := { frames := 7, cells := 0, slots := 0, locals := 161 }
set_option maxRecDepth 20000 in
theorem c_X13_part (l : Launch) (g : GT) (a_md : Nat → Nat) (a_tn : Nat → Nat) (q_md_read : Option Nat) (md : MdS) (tn : TnS) (p1 : Int32) (r_ : Int32) (o_md : MdS) (hf : f_X13_part md tn p1 = some (r_, o_md)) : CI l yX13_part cX13_part 9 (some .int) rm_X13_part g [.ref (a_md 0), .int p1] (wMd g a_md (some (a_tn 0)) q_md_read md ++ (wTn g a_tn tn ++ [])) (wMd g a_md (some (a_tn 0)) q_md_read o_md ++ (wTn g a_tn tn ++ [])) r_ := by
  refine start2 (y := yX13_part) (cc := cX13_part) (n := 9) (av := [.ref (a_md 0), .int p1]) (ws := (wMd g a_md (some (a_tn 0)) q_md_read md ++ (wTn g a_tn tn ++ []))) (Qc := fun sz => QI g (wMd g a_md (some (a_tn 0)) q_md_read md ++ (wTn g a_tn tn ++ [])) (wMd g a_md (some (a_tn 0)) q_md_read o_md ++ (wTn g a_tn tn ++ [])) r_ sz) (by decide) rfl ?_
  intro p e s m args below meth c ls Q A ha hQ hA X hl hI hin
  have X : Cx p s m args meth c cX13_part 9 RX13 (some .int) := X
  have hl : lv_has ls 9 [(0, .ref (a_md 0)), (1, .int p1)] := hl
  obtain ⟨hx, hb, hml, hown, ht, hr, hlk⟩ := id X
  clear ha hin
  have L_150 : ∀ (x1 : Int32) (x2 : Int32) (x3 : Int32) (x4 : Int32) (x5 : Int32) (md : MdS) (k60 : (Int32) → (Int32) → (Int32) → (Int32) → (Int32) → (MdS) → (TnS) → Option (Int32 × (MdS))) (H : Heap) (locs : List Loc) (ls : Array Slot), lv_has ls 9 [(0, .ref (a_md 0)), (1, .int x1), (2, .int x2), (3, .int x3), (4, .int x4), (5, .int x5)] → In g A s.heap s (wMd g a_md (some (a_tn 0)) q_md_read md ++ (wTn g a_tn tn ++ [])) H locs → f_X13_part_L150 x1 x2 x3 x4 x5 md tn k60 = some (r_, o_md) → (∀ (x1 : Int32) (x2 : Int32) (x3 : Int32) (x4 : Int32) (x5 : Int32) (md : MdS) (H : Heap) (locs : List Loc) (ls : Array Slot), lv_has ls 9 [(0, .ref (a_md 0)), (1, .int x1), (2, .int x2), (3, .int x3), (4, .int x4), (5, .int x5)] → In g A s.heap s (wMd g a_md (some (a_tn 0)) q_md_read md ++ (wTn g a_tn tn ++ [])) H locs → k60 x1 x2 x3 x4 x5 md tn = some (r_, o_md) → W p l e rm_X13_part s m args below meth c H locs 0 0 Q (F0 m 60 ls [])) → W p l e rm_X13_part s m args below meth c H locs 0 0 Q (F0 m 150 ls []) := by
    intro x1 x2 x3 x4 x5 md k60 H locs ls hl hI hf hk60
    unfold f_X13_part_L150 at hf
    obtain ⟨v_17, e_⟩ : ∃ y : Int32, y = (x5 + (1 : Int32)) := ⟨_, rfl⟩
    replace hf := lt_to e_ hf
    refine lv_iinc (v := v_17) (lv' := [(5, .int v_17), (0, .ref (a_md 0)), (1, .int x1), (2, .int x2), (3, .int x3), (4, .int x4)]) hx hb dX13_part_150 hl (k := 5) rfl (by rw [e_]; rfl) (by decide) rfl (fun ls hl => ?_)
    clear e_
    refine lv_goto (tgt := 60) hx hb dX13_part_153 (by decide) ?_
    exact hk60 x1 x2 x3 x4 v_17 md _ _ _ (lv_sub hl [1, 2, 3, 4, 5, 0] rfl) hI hf
  have L_144 : ∀ (x1 : Int32) (x4 : Int32) (x5 : Int32) (x8 : Int32) (md : MdS) (k60 : (Int32) → (Int32) → (Int32) → (Int32) → (Int32) → (MdS) → (TnS) → Option (Int32 × (MdS))) (H : Heap) (locs : List Loc) (ls : Array Slot), lv_has ls 9 [(0, .ref (a_md 0)), (1, .int x1), (4, .int x4), (5, .int x5), (8, .int x8)] → In g A s.heap s (wMd g a_md (some (a_tn 0)) q_md_read md ++ (wTn g a_tn tn ++ [])) H locs → f_X13_part_L144 x1 x4 x5 x8 md tn k60 = some (r_, o_md) → (∀ (x1 : Int32) (x2 : Int32) (x3 : Int32) (x4 : Int32) (x5 : Int32) (md : MdS) (H : Heap) (locs : List Loc) (ls : Array Slot), lv_has ls 9 [(0, .ref (a_md 0)), (1, .int x1), (2, .int x2), (3, .int x3), (4, .int x4), (5, .int x5)] → In g A s.heap s (wMd g a_md (some (a_tn 0)) q_md_read md ++ (wTn g a_tn tn ++ [])) H locs → k60 x1 x2 x3 x4 x5 md tn = some (r_, o_md) → W p l e rm_X13_part s m args below meth c H locs 0 0 Q (F0 m 60 ls [])) → W p l e rm_X13_part s m args below meth c H locs 0 0 Q (F0 m 144 ls []) := by
    intro x1 x4 x5 x8 md k60 H locs ls hl hI hf hk60
    unfold f_X13_part_L144 at hf
    refine lv_iload hx hb dX13_part_144 (lv_at hl 3 rfl) ?_
    refine lv_istore_n (lv' := [(2, .int x5), (0, .ref (a_md 0)), (1, .int x1), (4, .int x4), (5, .int x5), (8, .int x8)]) hx hb dX13_part_146 rfl hl (by decide) rfl (fun ls hl => ?_)
    refine lv_iload hx hb dX13_part_147 (lv_at hl 5 rfl) ?_
    refine lv_istore_n (lv' := [(3, .int x8), (2, .int x5), (0, .ref (a_md 0)), (1, .int x1), (4, .int x4), (5, .int x5), (8, .int x8)]) hx hb dX13_part_149 rfl hl (by decide) rfl (fun ls hl => ?_)
    exact L_150 x1 x5 x8 x4 x5 md _ _ _ _ (lv_sub hl [2, 3, 1, 0, 4, 5] rfl) hI hf hk60
  have L_122 : ∀ (x1 : Int32) (x2 : Int32) (x3 : Int32) (x5 : Int32) (x8 : Int32) (t0i : Int32) (md : MdS) (k60 : (Int32) → (Int32) → (Int32) → (Int32) → (Int32) → (MdS) → (TnS) → Option (Int32 × (MdS))) (H : Heap) (locs : List Loc) (ls : Array Slot), lv_has ls 9 [(0, .ref (a_md 0)), (1, .int x1), (2, .int x2), (3, .int x3), (5, .int x5), (8, .int x8)] → In g A s.heap s (wMd g a_md (some (a_tn 0)) q_md_read md ++ (wTn g a_tn tn ++ [])) H locs → f_X13_part_L122 x1 x2 x3 x5 x8 t0i md tn k60 = some (r_, o_md) → (∀ (x1 : Int32) (x2 : Int32) (x3 : Int32) (x4 : Int32) (x5 : Int32) (md : MdS) (H : Heap) (locs : List Loc) (ls : Array Slot), lv_has ls 9 [(0, .ref (a_md 0)), (1, .int x1), (2, .int x2), (3, .int x3), (4, .int x4), (5, .int x5)] → In g A s.heap s (wMd g a_md (some (a_tn 0)) q_md_read md ++ (wTn g a_tn tn ++ [])) H locs → k60 x1 x2 x3 x4 x5 md tn = some (r_, o_md) → W p l e rm_X13_part s m args below meth c H locs 0 0 Q (F0 m 60 ls [])) → W p l e rm_X13_part s m args below meth c H locs 0 0 Q (F0 m 122 ls [.int t0i]) := by
    intro x1 x2 x3 x5 x8 t0i md k60 H locs ls hl hI hf hk60
    unfold f_X13_part_L122 at hf
    refine lv_istore (lv' := [(4, .int t0i), (0, .ref (a_md 0)), (1, .int x1), (2, .int x2), (3, .int x3), (5, .int x5), (8, .int x8)]) hx hb dX13_part_122 hl (by decide) rfl (fun ls hl => ?_)
    refine lv_iload hx hb dX13_part_124 (lv_at hl 6 rfl) ?_
    refine lv_if_lt (tgt := 150) hx hb dX13_part_126 (by decide) (fun h_ => ?_) (fun h_ => ?_)
    · replace hf := if_t h_ hf
      exact L_150 x1 x2 x3 t0i x5 md _ _ _ _ (lv_sub hl [1, 2, 3, 4, 0, 5] rfl) hI hf hk60
    · replace hf := if_f h_ hf
      refine lv_iload_n hx hb dX13_part_129 rfl (lv_at hl 3 rfl) ?_
      refine lv_bipush (v := (-2)) hx hb dX13_part_130 (by decide) ?_
      refine lv_icmp_eq (tgt := 144) hx hb dX13_part_132 (by decide) (fun h_ => ?_) (fun h_ => ?_)
      · replace hf := if_t h_ hf
        exact L_144 x1 t0i x5 x8 md _ _ _ _ (lv_sub hl [1, 2, 0, 5, 6] rfl) hI hf hk60
      · replace hf := if_f h_ hf
        refine lv_iload hx hb dX13_part_135 (lv_at hl 6 rfl) ?_
        refine lv_iload_n hx hb dX13_part_137 rfl (lv_at hl 4 rfl) ?_
        refine lv_icmp_lt (tgt := 144) hx hb dX13_part_138 (by decide) (fun h_ => ?_) (fun h_ => ?_)
        · replace hf := if_t h_ hf
          exact L_144 x1 t0i x5 x8 md _ _ _ _ (lv_sub hl [1, 2, 0, 5, 6] rfl) hI hf hk60
        · replace hf := if_f h_ hf
          refine lv_goto (tgt := 150) hx hb dX13_part_141 (by decide) ?_
          exact L_150 x1 x2 x3 t0i x5 md _ _ _ _ (lv_sub hl [1, 2, 3, 4, 0, 5] rfl) hI hf hk60
  have L_117 : ∀ (x1 : Int32) (x2 : Int32) (x3 : Int32) (x5 : Int32) (x8 : Int32) (md : MdS) (k60 : (Int32) → (Int32) → (Int32) → (Int32) → (Int32) → (MdS) → (TnS) → Option (Int32 × (MdS))) (H : Heap) (locs : List Loc) (ls : Array Slot), lv_has ls 9 [(0, .ref (a_md 0)), (1, .int x1), (2, .int x2), (3, .int x3), (5, .int x5), (8, .int x8)] → In g A s.heap s (wMd g a_md (some (a_tn 0)) q_md_read md ++ (wTn g a_tn tn ++ [])) H locs → f_X13_part_L117 x1 x2 x3 x5 x8 md tn k60 = some (r_, o_md) → (∀ (x1 : Int32) (x2 : Int32) (x3 : Int32) (x4 : Int32) (x5 : Int32) (md : MdS) (H : Heap) (locs : List Loc) (ls : Array Slot), lv_has ls 9 [(0, .ref (a_md 0)), (1, .int x1), (2, .int x2), (3, .int x3), (4, .int x4), (5, .int x5)] → In g A s.heap s (wMd g a_md (some (a_tn 0)) q_md_read md ++ (wTn g a_tn tn ++ [])) H locs → k60 x1 x2 x3 x4 x5 md tn = some (r_, o_md) → W p l e rm_X13_part s m args below meth c H locs 0 0 Q (F0 m 60 ls [])) → W p l e rm_X13_part s m args below meth c H locs 0 0 Q (F0 m 117 ls []) := by
    intro x1 x2 x3 x5 x8 md k60 H locs ls hl hI hf hk60
    unfold f_X13_part_L117 at hf
    refine lv_iconst (v := 1) hx hb dX13_part_117 (by decide) ?_
    refine lv_goto (tgt := 122) hx hb dX13_part_118 (by decide) ?_
    exact L_122 x1 x2 x3 x5 x8 (1 : Int32) md _ _ _ _ hl hI hf hk60
  have L_60 : ∀ (n_ : Nat) (x1 : Int32) (x2 : Int32) (x3 : Int32) (x4 : Int32) (x5 : Int32) (md : MdS) (H : Heap) (locs : List Loc) (ls : Array Slot), lv_has ls 9 [(0, .ref (a_md 0)), (1, .int x1), (2, .int x2), (3, .int x3), (4, .int x4), (5, .int x5)] → In g A s.heap s (wMd g a_md (some (a_tn 0)) q_md_read md ++ (wTn g a_tn tn ++ [])) H locs → f_X13_part_L60 n_ x1 x2 x3 x4 x5 md tn = some (r_, o_md) → W p l e rm_X13_part s m args below meth c H locs 0 0 Q (F0 m 60 ls []) := by
    intro n_
    induction n_ with
    | zero =>
      intro x1 x2 x3 x4 x5 md H locs ls hl hI hf
      rw [f_X13_part_L60] at hf
      cases hf
    | succ n_ ih =>
      intro x1 x2 x3 x4 x5 md H locs ls hl hI hf
      rw [f_X13_part_L60] at hf
      refine lv_iload hx hb dX13_part_60 (lv_at hl 5 rfl) ?_
      refine lv_aload_n hx hb dX13_part_62 rfl (lv_at hl 0 rfl) ?_
      refine g_Md_tangle_S X hI has_Md.l (X.fl w_1586) dX13_part_63 ?_
      refine g_Tn_links X hI has_Tn.l.r (hI.fn (List.mem_of_getElem? (i := 81) rfl)) dX13_part_66 ?_
      refine lv_icmp_ge (tgt := 156) hx hb dX13_part_69 (by decide) (fun h_ => ?_) (fun h_ => ?_)
      · replace hf := if_t h_ hf
        refine lv_iload hx hb dX13_part_156 (lv_at hl 4 rfl) ?_
        refine lv_if_eq (tgt := 169) hx hb dX13_part_158 (by decide) (fun h_ => ?_) (fun h_ => ?_)
        · replace hf := if_t h_ hf
          refine lv_aload_n hx hb dX13_part_169 rfl (lv_at hl 0 rfl) ?_
          refine lv_iload_n hx hb dX13_part_170 rfl (lv_at hl 2 rfl) ?_
          obtain ⟨r_7, md_8, hc_, hf⟩ := bd2_some hf
          refine call_Vi X hI (Cj.keep Cj.nil) (c_X13_good l g a_md (some (a_tn 0)) q_md_read md x2 r_7 md_8 hc_) ⟨rfl, rfl⟩ ⟨ht _ w_1998, w_2001, ht _ w_155, lk_X13_good⟩ w_2000 w_92 rfl rfl rfl hl rfl rfl dX13_part_171 rfl rfl rfl rfl (fun H locs hI => ?_)
          cases hf
          exact end_i hQ hA X hI dX13_part_174
        · replace hf := if_f h_ hf
          refine lv_aload_n hx hb dX13_part_161 rfl (lv_at hl 0 rfl) ?_
          refine lv_iconst (v := 3) hx hb dX13_part_162 (by decide) ?_
          obtain ⟨r_9, md_10, hc_, hf⟩ := bd2_some hf
          refine call_Vi X hI (Cj.keep Cj.nil) (c_X13_refused l g a_md (some (a_tn 0)) q_md_read md (3 : Int32) r_9 md_10 hc_) ⟨rfl, rfl⟩ ⟨ht _ w_1719, w_1722, ht _ w_155, lk_X13_refused⟩ w_1721 w_65 rfl rfl rfl hl rfl rfl dX13_part_163 rfl rfl rfl rfl (fun H locs hI => ?_)
          refine lv_goto (tgt := 174) hx hb dX13_part_166 (by decide) ?_
          cases hf
          exact end_i hQ hA X hI dX13_part_174
      · replace hf := if_f h_ hf
        refine lv_aload_n hx hb dX13_part_72 rfl (lv_at hl 0 rfl) ?_
        refine lv_aload_n hx hb dX13_part_73 rfl (lv_at hl 0 rfl) ?_
        refine g_Md_now X hI has_Md.l (X.fl w_1598) dX13_part_74 ?_
        refine lv_iload hx hb dX13_part_77 (lv_at hl 5 rfl) ?_
        obtain ⟨r_11, md_12, hc_, hf⟩ := bd2_some hf
        refine call_Vl X hI (Cj.keep (Cj.keep Cj.id)) (c_X13_partedFrom l g a_md a_tn q_md_read md tn (Md_now md) x5 r_11 md_12 hc_) ⟨rfl, rfl⟩ ⟨ht _ w_2239, w_2242, ht _ w_155, lk_X13_partedFrom⟩ w_2241 w_124 rfl rfl rfl hl rfl rfl dX13_part_79 rfl rfl rfl rfl (fun H locs hI => ?_)
        refine lv_lstore (lv' := [(6, .long r_11), (0, .ref (a_md 0)), (1, .int x1), (2, .int x2), (3, .int x3), (4, .int x4), (5, .int x5)]) hx hb dX13_part_82 hl (by decide) rfl (fun ls hl => ?_)
        refine lv_aload_n hx hb dX13_part_84 rfl (lv_at hl 1 rfl) ?_
        refine lv_iload hx hb dX13_part_85 (lv_at hl 6 rfl) ?_
        refine p_Md_parted X hI up_Md_parted.l (X.fl w_1599) dX13_part_87 (fun H locs hI => ?_)
        generalize hz_ : (Md_parted' md_12 x5) = md_13 at hI hf
        clear hz_
        replace hf := lt_e hf
        refine lv_aload_n hx hb dX13_part_90 rfl (lv_at hl 1 rfl) ?_
        refine lv_lload hx hb dX13_part_91 (lv_at hl 0 rfl) ?_
        refine lv_iload_n hx hb dX13_part_93 rfl (lv_at hl 2 rfl) ?_
        obtain ⟨r_14, md_15, hc_, hf⟩ := bd2_some hf
        refine call_Vi X hI (Cj.keep (Cj.keep Cj.id)) (c_X13_fewestFrom l g a_md a_tn q_md_read md_13 tn r_11 x1 r_14 md_15 hc_) ⟨rfl, rfl⟩ ⟨ht _ w_2154, w_2157, ht _ w_155, lk_X13_fewestFrom⟩ w_2156 w_111 rfl rfl rfl hl rfl rfl dX13_part_94 rfl rfl rfl rfl (fun H locs hI => ?_)
        refine lv_istore (lv' := [(8, .int r_14), (6, .long r_11), (0, .ref (a_md 0)), (1, .int x1), (2, .int x2), (3, .int x3), (4, .int x4), (5, .int x5)]) hx hb dX13_part_97 hl (by decide) rfl (fun ls hl => ?_)
        refine lv_aload_n hx hb dX13_part_99 rfl (lv_at hl 2 rfl) ?_
        refine lv_bipush (v := (-2)) hx hb dX13_part_100 (by decide) ?_
        refine p_Md_parted X hI up_Md_parted.l (X.fl w_1599) dX13_part_102 (fun H locs hI => ?_)
        generalize hz_ : (Md_parted' md_15 (-2 : Int32)) = md_16 at hI hf
        clear hz_
        replace hf := lt_e hf
        refine lv_iload hx hb dX13_part_105 (lv_at hl 6 rfl) ?_
        refine lv_if_ne (tgt := 117) hx hb dX13_part_107 (by decide) (fun h_ => ?_) (fun h_ => ?_)
        · replace hf := if_f h_ hf
          exact L_117 x1 x2 x3 x5 r_14 md_16 _ _ _ _ (lv_sub hl [2, 3, 4, 5, 7, 0] rfl) hI hf (fun z_0 z_1 z_2 z_3 z_4 z_5 _ _ _ hl hI hf => ih z_0 z_1 z_2 z_3 z_4 z_5 _ _ _ hl hI hf)
        · replace hf := if_t h_ hf
          refine lv_iload hx hb dX13_part_110 (lv_at hl 0 rfl) ?_
          refine lv_bipush (v := (-9)) hx hb dX13_part_112 (by decide) ?_
          refine lv_icmp_ne (tgt := 121) hx hb dX13_part_114 (by decide) (fun h_ => ?_) (fun h_ => ?_)
          · replace hf := if_f h_ hf
            refine lv_iconst (v := 0) hx hb dX13_part_121 (by decide) ?_
            exact L_122 x1 x2 x3 x5 r_14 (0 : Int32) md_16 _ _ _ _ (lv_sub hl [2, 3, 4, 5, 7, 0] rfl) hI hf (fun z_0 z_1 z_2 z_3 z_4 z_5 _ _ _ hl hI hf => ih z_0 z_1 z_2 z_3 z_4 z_5 _ _ _ hl hI hf)
          · replace hf := if_t h_ hf
            exact L_117 x1 x2 x3 x5 r_14 md_16 _ _ _ _ (lv_sub hl [2, 3, 4, 5, 7, 0] rfl) hI hf (fun z_0 z_1 z_2 z_3 z_4 z_5 _ _ _ hl hI hf => ih z_0 z_1 z_2 z_3 z_4 z_5 _ _ _ hl hI hf)
  unfold f_X13_part at hf
  refine lv_aload_n hx hb dX13_part_0 rfl (lv_at hl 0 rfl) ?_
  refine lv_iconst (v := 0) hx hb dX13_part_1 (by decide) ?_
  refine p_Md_thrown X hI up_Md_thrown.l (X.fl w_1583) dX13_part_2 (fun H locs hI => ?_)
  generalize hz_ : (Md_thrown' md (0 : Int32)) = md_1 at hI hf
  clear hz_
  replace hf := lt_e hf
  refine lv_aload_n hx hb dX13_part_5 rfl (lv_at hl 0 rfl) ?_
  refine g_Md_tangle_S X hI has_Md.l (X.fl w_1586) dX13_part_6 ?_
  refine lv_ifnonnull (tgt := 18) hx hb dX13_part_9 (by decide) ?_
  refine lv_iload_n hx hb dX13_part_18 rfl (lv_at hl 1 rfl) ?_
  refine lv_iconst (v := 0) hx hb dX13_part_19 (by decide) ?_
  refine lv_bipush (v := 8) hx hb dX13_part_20 (by decide) ?_
  obtain ⟨r_2, hc_, hf⟩ := bd1_some hf
  refine call_Si X hI Cj.nil (c_X13_in l g p1 (0 : Int32) (8 : Int32) r_2 hc_) ⟨rfl, rfl⟩ ⟨ht _ w_1910, w_1912, ht _ w_155, lk_X13_in⟩ w_1911 rfl hl rfl rfl dX13_part_22 rfl rfl rfl rfl (fun H locs hI => ?_)
  refine lv_if_ne (tgt := 34) hx hb dX13_part_25 (by decide) (fun h_ => ?_) (fun h_ => ?_)
  · replace hf := if_f h_ hf
    refine lv_aload_n hx hb dX13_part_34 rfl (lv_at hl 0 rfl) ?_
    refine g_Md_parted X hI has_Md.l (X.fl w_1599) dX13_part_35 ?_
    refine lv_bipush (v := (-2)) hx hb dX13_part_38 (by decide) ?_
    refine lv_icmp_eq (tgt := 49) hx hb dX13_part_40 (by decide) (fun h_ => ?_) (fun h_ => ?_)
    · replace hf := if_t h_ hf
      refine lv_bipush (v := (-2)) hx hb dX13_part_49 (by decide) ?_
      refine lv_istore_n (lv' := [(2, .int (-2 : Int32)), (0, .ref (a_md 0)), (1, .int p1)]) hx hb dX13_part_51 rfl hl (by decide) rfl (fun ls hl => ?_)
      refine lv_iconst (v := 0) hx hb dX13_part_52 (by decide) ?_
      refine lv_istore_n (lv' := [(3, .int (0 : Int32)), (2, .int (-2 : Int32)), (0, .ref (a_md 0)), (1, .int p1)]) hx hb dX13_part_53 rfl hl (by decide) rfl (fun ls hl => ?_)
      refine lv_iconst (v := 0) hx hb dX13_part_54 (by decide) ?_
      refine lv_istore (lv' := [(4, .int (0 : Int32)), (3, .int (0 : Int32)), (2, .int (-2 : Int32)), (0, .ref (a_md 0)), (1, .int p1)]) hx hb dX13_part_55 hl (by decide) rfl (fun ls hl => ?_)
      refine lv_iconst (v := 0) hx hb dX13_part_57 (by decide) ?_
      refine lv_istore (lv' := [(5, .int (0 : Int32)), (4, .int (0 : Int32)), (3, .int (0 : Int32)), (2, .int (-2 : Int32)), (0, .ref (a_md 0)), (1, .int p1)]) hx hb dX13_part_58 hl (by decide) rfl (fun ls hl => ?_)
      exact L_60 FU p1 (-2 : Int32) (0 : Int32) (0 : Int32) (0 : Int32) md_1 _ _ _ (lv_sub hl [4, 5, 3, 2, 1, 0] rfl) hI hf
    · replace hf := if_f h_ hf
      refine lv_aload_n hx hb dX13_part_43 rfl (lv_at hl 0 rfl) ?_
      refine lv_iconst (v := 5) hx hb dX13_part_44 (by decide) ?_
      obtain ⟨r_3, md_4, hc_, hf⟩ := bd2_some hf
      refine call_Vi X hI (Cj.keep Cj.nil) (c_X13_refused l g a_md (some (a_tn 0)) q_md_read md_1 (5 : Int32) r_3 md_4 hc_) ⟨rfl, rfl⟩ ⟨ht _ w_1719, w_1722, ht _ w_155, lk_X13_refused⟩ w_1721 w_65 rfl rfl rfl hl rfl rfl dX13_part_45 rfl rfl rfl rfl (fun H locs hI => ?_)
      cases hf
      exact end_i hQ hA X hI dX13_part_48
  · replace hf := if_t h_ hf
    refine lv_aload_n hx hb dX13_part_28 rfl (lv_at hl 0 rfl) ?_
    refine lv_iconst (v := 2) hx hb dX13_part_29 (by decide) ?_
    obtain ⟨r_5, md_6, hc_, hf⟩ := bd2_some hf
    refine call_Vi X hI (Cj.keep Cj.nil) (c_X13_refused l g a_md (some (a_tn 0)) q_md_read md_1 (2 : Int32) r_5 md_6 hc_) ⟨rfl, rfl⟩ ⟨ht _ w_1719, w_1722, ht _ w_155, lk_X13_refused⟩ w_1721 w_65 rfl rfl rfl hl rfl rfl dX13_part_30 rfl rfl rfl rfl (fun H locs hI => ?_)
    cases hf
    exact end_i hQ hA X hI dX13_part_33
abbrev rm_X13_isCrossing : Room := { frames := 0, cells := 0, slots := 0, locals := 0 }
set_option maxRecDepth 20000 in
theorem c_X13_isCrossing (l : Launch) (g : GT) (a_md : Nat → Nat) (a_tn : Nat → Nat) (q_md_read : Option Nat) (md : MdS) (tn : TnS) (p1 : Int32) (r_ : Int32) (hf : f_X13_isCrossing tn p1 = some (r_)) : CI l yX13_isCrossing cX13_isCrossing 2 (some .boolean) rm_X13_isCrossing g [.ref (a_md 0), .int p1] (wMd g a_md (some (a_tn 0)) q_md_read md ++ (wTn g a_tn tn ++ [])) (wMd g a_md (some (a_tn 0)) q_md_read md ++ (wTn g a_tn tn ++ [])) r_ := by
  refine start2 (y := yX13_isCrossing) (cc := cX13_isCrossing) (n := 2) (av := [.ref (a_md 0), .int p1]) (ws := (wMd g a_md (some (a_tn 0)) q_md_read md ++ (wTn g a_tn tn ++ []))) (Qc := fun sz => QI g (wMd g a_md (some (a_tn 0)) q_md_read md ++ (wTn g a_tn tn ++ [])) (wMd g a_md (some (a_tn 0)) q_md_read md ++ (wTn g a_tn tn ++ [])) r_ sz) (by decide) rfl ?_
  intro p e s m args below meth c ls Q A ha hQ hA X hl hI hin
  have X : Cx p s m args meth c cX13_isCrossing 2 RX13 (some .boolean) := X
  have hl : lv_has ls 2 [(0, .ref (a_md 0)), (1, .int p1)] := hl
  obtain ⟨hx, hb, hml, hown, ht, hr, hlk⟩ := id X
  clear ha hin
  unfold f_X13_isCrossing at hf
  refine lv_aload_n hx hb dX13_isCrossing_0 rfl (lv_at hl 0 rfl) ?_
  refine g_Md_tangle_S X hI has_Md.l (X.fl w_1586) dX13_isCrossing_1 ?_
  refine lv_ifnull hx hb dX13_isCrossing_4 ?_
  refine lv_iload_n hx hb dX13_isCrossing_7 rfl (lv_at hl 1 rfl) ?_
  refine lv_if_lt (tgt := 26) hx hb dX13_isCrossing_8 (by decide) (fun h_ => ?_) (fun h_ => ?_)
  · replace hf := if_t h_ hf
    refine lv_iconst (v := 0) hx hb dX13_isCrossing_26 (by decide) ?_
    cases hf
    exact end_z hQ hA X hI rfl dX13_isCrossing_27
  · replace hf := if_f h_ hf
    refine lv_iload_n hx hb dX13_isCrossing_11 rfl (lv_at hl 1 rfl) ?_
    refine lv_aload_n hx hb dX13_isCrossing_12 rfl (lv_at hl 0 rfl) ?_
    refine g_Md_tangle_S X hI has_Md.l (X.fl w_1586) dX13_isCrossing_13 ?_
    refine g_Tn_crossings X hI has_Tn.l.r (hI.fn (List.mem_of_getElem? (i := 82) rfl)) dX13_isCrossing_16 ?_
    refine lv_icmp_ge (tgt := 26) hx hb dX13_isCrossing_19 (by decide) (fun h_ => ?_) (fun h_ => ?_)
    · replace hf := if_t h_ hf
      refine lv_iconst (v := 0) hx hb dX13_isCrossing_26 (by decide) ?_
      cases hf
      exact end_z hQ hA X hI rfl dX13_isCrossing_27
    · replace hf := if_f h_ hf
      refine lv_iconst (v := 1) hx hb dX13_isCrossing_22 (by decide) ?_
      refine lv_goto (tgt := 27) hx hb dX13_isCrossing_23 (by decide) ?_
      cases hf
      exact end_z hQ hA X hI rfl dX13_isCrossing_27
abbrev rm_X13_liftedFrom : Room := { frames := 1, cells := 0, slots := 0, locals := 23 }
set_option maxRecDepth 20000 in
theorem c_X13_liftedFrom (l : Launch) (g : GT) (a_md : Nat → Nat) (q_md_tangle : Option Nat) (q_md_read : Option Nat) (md : MdS) (p1 : Int64) (p3 : Int32) (r_ : Int64) (hf : f_X13_liftedFrom md p1 p3 = some (r_)) : CL l yX13_liftedFrom cX13_liftedFrom 4 (some .long) rm_X13_liftedFrom g [.ref (a_md 0), .long p1, .int p3] (wMd g a_md q_md_tangle q_md_read md ++ []) (wMd g a_md q_md_tangle q_md_read md ++ []) r_ := by
  refine start2 (y := yX13_liftedFrom) (cc := cX13_liftedFrom) (n := 4) (av := [.ref (a_md 0), .long p1, .int p3]) (ws := (wMd g a_md q_md_tangle q_md_read md ++ [])) (Qc := fun sz => QL g (wMd g a_md q_md_tangle q_md_read md ++ []) (wMd g a_md q_md_tangle q_md_read md ++ []) r_ sz) (by decide) rfl ?_
  intro p e s m args below meth c ls Q A ha hQ hA X hl hI hin
  have X : Cx p s m args meth c cX13_liftedFrom 4 RX13 (some .long) := X
  have hl : lv_has ls 4 [(0, .ref (a_md 0)), (1, .long p1), (3, .int p3)] := hl
  obtain ⟨hx, hb, hml, hown, ht, hr, hlk⟩ := id X
  clear ha hin
  unfold f_X13_liftedFrom at hf
  refine lv_lload_n hx hb dX13_liftedFrom_0 rfl (lv_at hl 1 rfl) ?_
  refine lv_aload_n hx hb dX13_liftedFrom_1 rfl (lv_at hl 0 rfl) ?_
  refine g_Md_spotOf X hI has_Md.l (X.fl w_1602) dX13_liftedFrom_2 ?_
  refine lv_iconst (v := 2) hx hb dX13_liftedFrom_5 (by decide) ?_
  refine lv_iload_n hx hb dX13_liftedFrom_6 rfl (lv_at hl 2 rfl) ?_
  refine lv_imul hx hb dX13_liftedFrom_7 ?_
  obtain ⟨h_, hf⟩ := ck_someM hf
  refine ld_I X hI has_Md_spotOf.l h_ dX13_liftedFrom_8 ?_
  refine lv_iconst (v := 2) hx hb dX13_liftedFrom_9 (by decide) ?_
  refine lv_iload_n hx hb dX13_liftedFrom_10 rfl (lv_at hl 2 rfl) ?_
  refine lv_imul hx hb dX13_liftedFrom_11 ?_
  refine lv_iconst (v := 1) hx hb dX13_liftedFrom_12 (by decide) ?_
  refine lv_iadd hx hb dX13_liftedFrom_13 ?_
  obtain ⟨r_1, hc_, hf⟩ := bd1_some hf
  refine call_Sl X hI Cj.nil (c_X13_with l g p1 (Md_spotOf md (Int32.toNatClampNeg ((2 : Int32) * p3))) (((2 : Int32) * p3) + (1 : Int32)) r_1 hc_) ⟨rfl, rfl⟩ ⟨ht _ w_2176, w_2178, ht _ w_155, lk_X13_with⟩ w_2177 rfl hl rfl rfl dX13_liftedFrom_14 rfl rfl rfl rfl (fun H locs hI => ?_)
  refine lv_aload_n hx hb dX13_liftedFrom_17 rfl (lv_at hl 0 rfl) ?_
  refine g_Md_spotOf X hI has_Md.l (X.fl w_1602) dX13_liftedFrom_18 ?_
  refine lv_iconst (v := 2) hx hb dX13_liftedFrom_21 (by decide) ?_
  refine lv_iload_n hx hb dX13_liftedFrom_22 rfl (lv_at hl 2 rfl) ?_
  refine lv_imul hx hb dX13_liftedFrom_23 ?_
  refine lv_iconst (v := 1) hx hb dX13_liftedFrom_24 (by decide) ?_
  refine lv_iadd hx hb dX13_liftedFrom_25 ?_
  obtain ⟨h_, hf⟩ := ck_someM hf
  refine ld_I X hI has_Md_spotOf.l h_ dX13_liftedFrom_26 ?_
  refine lv_iconst (v := 2) hx hb dX13_liftedFrom_27 (by decide) ?_
  refine lv_iload_n hx hb dX13_liftedFrom_28 rfl (lv_at hl 2 rfl) ?_
  refine lv_imul hx hb dX13_liftedFrom_29 ?_
  obtain ⟨r_2, hc_, hf⟩ := bd1_some hf
  refine call_Sl X hI Cj.nil (c_X13_with l g r_1 (Md_spotOf md (Int32.toNatClampNeg (((2 : Int32) * p3) + (1 : Int32)))) ((2 : Int32) * p3) r_2 hc_) ⟨rfl, rfl⟩ ⟨ht _ w_2176, w_2178, ht _ w_155, lk_X13_with⟩ w_2177 rfl hl rfl rfl dX13_liftedFrom_30 rfl rfl rfl rfl (fun H locs hI => ?_)
  cases hf
  exact end_l hQ hA X hI dX13_liftedFrom_33
abbrev rm_X13_lift : Room := { frames := 7, cells := 0, slots := 0, locals := 161 }
set_option maxRecDepth 20000 in
theorem c_X13_lift (l : Launch) (g : GT) (a_md : Nat → Nat) (a_tn : Nat → Nat) (q_md_read : Option Nat) (md : MdS) (tn : TnS) (p1 : Int32) (r_ : Int32) (o_md : MdS) (hf : f_X13_lift md tn p1 = some (r_, o_md)) : CI l yX13_lift cX13_lift 9 (some .int) rm_X13_lift g [.ref (a_md 0), .int p1] (wMd g a_md (some (a_tn 0)) q_md_read md ++ (wTn g a_tn tn ++ [])) (wMd g a_md (some (a_tn 0)) q_md_read o_md ++ (wTn g a_tn tn ++ [])) r_ := by
  refine start2 (y := yX13_lift) (cc := cX13_lift) (n := 9) (av := [.ref (a_md 0), .int p1]) (ws := (wMd g a_md (some (a_tn 0)) q_md_read md ++ (wTn g a_tn tn ++ []))) (Qc := fun sz => QI g (wMd g a_md (some (a_tn 0)) q_md_read md ++ (wTn g a_tn tn ++ [])) (wMd g a_md (some (a_tn 0)) q_md_read o_md ++ (wTn g a_tn tn ++ [])) r_ sz) (by decide) rfl ?_
  intro p e s m args below meth c ls Q A ha hQ hA X hl hI hin
  have X : Cx p s m args meth c cX13_lift 9 RX13 (some .int) := X
  have hl : lv_has ls 9 [(0, .ref (a_md 0)), (1, .int p1)] := hl
  obtain ⟨hx, hb, hml, hown, ht, hr, hlk⟩ := id X
  clear ha hin
  have L_161 : ∀ (x1 : Int32) (x2 : Int32) (x3 : Int32) (x4 : Int32) (x5 : Int32) (md : MdS) (k45 : (Int32) → (Int32) → (Int32) → (Int32) → (Int32) → (MdS) → (TnS) → Option (Int32 × (MdS))) (H : Heap) (locs : List Loc) (ls : Array Slot), lv_has ls 9 [(0, .ref (a_md 0)), (1, .int x1), (2, .int x2), (3, .int x3), (4, .int x4), (5, .int x5)] → In g A s.heap s (wMd g a_md (some (a_tn 0)) q_md_read md ++ (wTn g a_tn tn ++ [])) H locs → f_X13_lift_L161 x1 x2 x3 x4 x5 md tn k45 = some (r_, o_md) → (∀ (x1 : Int32) (x2 : Int32) (x3 : Int32) (x4 : Int32) (x5 : Int32) (md : MdS) (H : Heap) (locs : List Loc) (ls : Array Slot), lv_has ls 9 [(0, .ref (a_md 0)), (1, .int x1), (2, .int x2), (3, .int x3), (4, .int x4), (5, .int x5)] → In g A s.heap s (wMd g a_md (some (a_tn 0)) q_md_read md ++ (wTn g a_tn tn ++ [])) H locs → k45 x1 x2 x3 x4 x5 md tn = some (r_, o_md) → W p l e rm_X13_lift s m args below meth c H locs 0 0 Q (F0 m 45 ls [])) → W p l e rm_X13_lift s m args below meth c H locs 0 0 Q (F0 m 161 ls []) := by
    intro x1 x2 x3 x4 x5 md k45 H locs ls hl hI hf hk45
    unfold f_X13_lift_L161 at hf
    obtain ⟨v_16, e_⟩ : ∃ y : Int32, y = (x5 + (1 : Int32)) := ⟨_, rfl⟩
    replace hf := lt_to e_ hf
    refine lv_iinc (v := v_16) (lv' := [(5, .int v_16), (0, .ref (a_md 0)), (1, .int x1), (2, .int x2), (3, .int x3), (4, .int x4)]) hx hb dX13_lift_161 hl (k := 5) rfl (by rw [e_]; rfl) (by decide) rfl (fun ls hl => ?_)
    clear e_
    refine lv_goto (tgt := 45) hx hb dX13_lift_164 (by decide) ?_
    exact hk45 x1 x2 x3 x4 v_16 md _ _ _ (lv_sub hl [1, 2, 3, 4, 5, 0] rfl) hI hf
  have L_155 : ∀ (x1 : Int32) (x4 : Int32) (x5 : Int32) (x8 : Int32) (md : MdS) (k45 : (Int32) → (Int32) → (Int32) → (Int32) → (Int32) → (MdS) → (TnS) → Option (Int32 × (MdS))) (H : Heap) (locs : List Loc) (ls : Array Slot), lv_has ls 9 [(0, .ref (a_md 0)), (1, .int x1), (4, .int x4), (5, .int x5), (8, .int x8)] → In g A s.heap s (wMd g a_md (some (a_tn 0)) q_md_read md ++ (wTn g a_tn tn ++ [])) H locs → f_X13_lift_L155 x1 x4 x5 x8 md tn k45 = some (r_, o_md) → (∀ (x1 : Int32) (x2 : Int32) (x3 : Int32) (x4 : Int32) (x5 : Int32) (md : MdS) (H : Heap) (locs : List Loc) (ls : Array Slot), lv_has ls 9 [(0, .ref (a_md 0)), (1, .int x1), (2, .int x2), (3, .int x3), (4, .int x4), (5, .int x5)] → In g A s.heap s (wMd g a_md (some (a_tn 0)) q_md_read md ++ (wTn g a_tn tn ++ [])) H locs → k45 x1 x2 x3 x4 x5 md tn = some (r_, o_md) → W p l e rm_X13_lift s m args below meth c H locs 0 0 Q (F0 m 45 ls [])) → W p l e rm_X13_lift s m args below meth c H locs 0 0 Q (F0 m 155 ls []) := by
    intro x1 x4 x5 x8 md k45 H locs ls hl hI hf hk45
    unfold f_X13_lift_L155 at hf
    refine lv_iload hx hb dX13_lift_155 (lv_at hl 3 rfl) ?_
    refine lv_istore_n (lv' := [(2, .int x5), (0, .ref (a_md 0)), (1, .int x1), (4, .int x4), (5, .int x5), (8, .int x8)]) hx hb dX13_lift_157 rfl hl (by decide) rfl (fun ls hl => ?_)
    refine lv_iload hx hb dX13_lift_158 (lv_at hl 5 rfl) ?_
    refine lv_istore_n (lv' := [(3, .int x8), (2, .int x5), (0, .ref (a_md 0)), (1, .int x1), (4, .int x4), (5, .int x5), (8, .int x8)]) hx hb dX13_lift_160 rfl hl (by decide) rfl (fun ls hl => ?_)
    exact L_161 x1 x5 x8 x4 x5 md _ _ _ _ (lv_sub hl [2, 3, 1, 0, 4, 5] rfl) hI hf hk45
  have L_133 : ∀ (x1 : Int32) (x2 : Int32) (x3 : Int32) (x5 : Int32) (x8 : Int32) (t0i : Int32) (md : MdS) (k45 : (Int32) → (Int32) → (Int32) → (Int32) → (Int32) → (MdS) → (TnS) → Option (Int32 × (MdS))) (H : Heap) (locs : List Loc) (ls : Array Slot), lv_has ls 9 [(0, .ref (a_md 0)), (1, .int x1), (2, .int x2), (3, .int x3), (5, .int x5), (8, .int x8)] → In g A s.heap s (wMd g a_md (some (a_tn 0)) q_md_read md ++ (wTn g a_tn tn ++ [])) H locs → f_X13_lift_L133 x1 x2 x3 x5 x8 t0i md tn k45 = some (r_, o_md) → (∀ (x1 : Int32) (x2 : Int32) (x3 : Int32) (x4 : Int32) (x5 : Int32) (md : MdS) (H : Heap) (locs : List Loc) (ls : Array Slot), lv_has ls 9 [(0, .ref (a_md 0)), (1, .int x1), (2, .int x2), (3, .int x3), (4, .int x4), (5, .int x5)] → In g A s.heap s (wMd g a_md (some (a_tn 0)) q_md_read md ++ (wTn g a_tn tn ++ [])) H locs → k45 x1 x2 x3 x4 x5 md tn = some (r_, o_md) → W p l e rm_X13_lift s m args below meth c H locs 0 0 Q (F0 m 45 ls [])) → W p l e rm_X13_lift s m args below meth c H locs 0 0 Q (F0 m 133 ls [.int t0i]) := by
    intro x1 x2 x3 x5 x8 t0i md k45 H locs ls hl hI hf hk45
    unfold f_X13_lift_L133 at hf
    refine lv_istore (lv' := [(4, .int t0i), (0, .ref (a_md 0)), (1, .int x1), (2, .int x2), (3, .int x3), (5, .int x5), (8, .int x8)]) hx hb dX13_lift_133 hl (by decide) rfl (fun ls hl => ?_)
    refine lv_iload hx hb dX13_lift_135 (lv_at hl 6 rfl) ?_
    refine lv_if_lt (tgt := 161) hx hb dX13_lift_137 (by decide) (fun h_ => ?_) (fun h_ => ?_)
    · replace hf := if_t h_ hf
      exact L_161 x1 x2 x3 t0i x5 md _ _ _ _ (lv_sub hl [1, 2, 3, 4, 0, 5] rfl) hI hf hk45
    · replace hf := if_f h_ hf
      refine lv_iload_n hx hb dX13_lift_140 rfl (lv_at hl 3 rfl) ?_
      refine lv_bipush (v := (-2)) hx hb dX13_lift_141 (by decide) ?_
      refine lv_icmp_eq (tgt := 155) hx hb dX13_lift_143 (by decide) (fun h_ => ?_) (fun h_ => ?_)
      · replace hf := if_t h_ hf
        exact L_155 x1 t0i x5 x8 md _ _ _ _ (lv_sub hl [1, 2, 0, 5, 6] rfl) hI hf hk45
      · replace hf := if_f h_ hf
        refine lv_iload hx hb dX13_lift_146 (lv_at hl 6 rfl) ?_
        refine lv_iload_n hx hb dX13_lift_148 rfl (lv_at hl 4 rfl) ?_
        refine lv_icmp_lt (tgt := 155) hx hb dX13_lift_149 (by decide) (fun h_ => ?_) (fun h_ => ?_)
        · replace hf := if_t h_ hf
          exact L_155 x1 t0i x5 x8 md _ _ _ _ (lv_sub hl [1, 2, 0, 5, 6] rfl) hI hf hk45
        · replace hf := if_f h_ hf
          refine lv_goto (tgt := 161) hx hb dX13_lift_152 (by decide) ?_
          exact L_161 x1 x2 x3 t0i x5 md _ _ _ _ (lv_sub hl [1, 2, 3, 4, 0, 5] rfl) hI hf hk45
  have L_128 : ∀ (x1 : Int32) (x2 : Int32) (x3 : Int32) (x5 : Int32) (x8 : Int32) (md : MdS) (k45 : (Int32) → (Int32) → (Int32) → (Int32) → (Int32) → (MdS) → (TnS) → Option (Int32 × (MdS))) (H : Heap) (locs : List Loc) (ls : Array Slot), lv_has ls 9 [(0, .ref (a_md 0)), (1, .int x1), (2, .int x2), (3, .int x3), (5, .int x5), (8, .int x8)] → In g A s.heap s (wMd g a_md (some (a_tn 0)) q_md_read md ++ (wTn g a_tn tn ++ [])) H locs → f_X13_lift_L128 x1 x2 x3 x5 x8 md tn k45 = some (r_, o_md) → (∀ (x1 : Int32) (x2 : Int32) (x3 : Int32) (x4 : Int32) (x5 : Int32) (md : MdS) (H : Heap) (locs : List Loc) (ls : Array Slot), lv_has ls 9 [(0, .ref (a_md 0)), (1, .int x1), (2, .int x2), (3, .int x3), (4, .int x4), (5, .int x5)] → In g A s.heap s (wMd g a_md (some (a_tn 0)) q_md_read md ++ (wTn g a_tn tn ++ [])) H locs → k45 x1 x2 x3 x4 x5 md tn = some (r_, o_md) → W p l e rm_X13_lift s m args below meth c H locs 0 0 Q (F0 m 45 ls [])) → W p l e rm_X13_lift s m args below meth c H locs 0 0 Q (F0 m 128 ls []) := by
    intro x1 x2 x3 x5 x8 md k45 H locs ls hl hI hf hk45
    unfold f_X13_lift_L128 at hf
    refine lv_iconst (v := 1) hx hb dX13_lift_128 (by decide) ?_
    refine lv_goto (tgt := 133) hx hb dX13_lift_129 (by decide) ?_
    exact L_133 x1 x2 x3 x5 x8 (1 : Int32) md _ _ _ _ hl hI hf hk45
  have L_45 : ∀ (n_ : Nat) (x1 : Int32) (x2 : Int32) (x3 : Int32) (x4 : Int32) (x5 : Int32) (md : MdS) (H : Heap) (locs : List Loc) (ls : Array Slot), lv_has ls 9 [(0, .ref (a_md 0)), (1, .int x1), (2, .int x2), (3, .int x3), (4, .int x4), (5, .int x5)] → In g A s.heap s (wMd g a_md (some (a_tn 0)) q_md_read md ++ (wTn g a_tn tn ++ [])) H locs → f_X13_lift_L45 n_ x1 x2 x3 x4 x5 md tn = some (r_, o_md) → W p l e rm_X13_lift s m args below meth c H locs 0 0 Q (F0 m 45 ls []) := by
    intro n_
    induction n_ with
    | zero =>
      intro x1 x2 x3 x4 x5 md H locs ls hl hI hf
      rw [f_X13_lift_L45] at hf
      cases hf
    | succ n_ ih =>
      intro x1 x2 x3 x4 x5 md H locs ls hl hI hf
      rw [f_X13_lift_L45] at hf
      refine lv_iload hx hb dX13_lift_45 (lv_at hl 5 rfl) ?_
      refine lv_aload_n hx hb dX13_lift_47 rfl (lv_at hl 0 rfl) ?_
      refine g_Md_tangle_S X hI has_Md.l (X.fl w_1586) dX13_lift_48 ?_
      refine g_Tn_crossings X hI has_Tn.l.r (hI.fn (List.mem_of_getElem? (i := 82) rfl)) dX13_lift_51 ?_
      refine lv_icmp_ge (tgt := 167) hx hb dX13_lift_54 (by decide) (fun h_ => ?_) (fun h_ => ?_)
      · replace hf := if_t h_ hf
        refine lv_iload hx hb dX13_lift_167 (lv_at hl 4 rfl) ?_
        refine lv_if_eq (tgt := 180) hx hb dX13_lift_169 (by decide) (fun h_ => ?_) (fun h_ => ?_)
        · replace hf := if_t h_ hf
          refine lv_aload_n hx hb dX13_lift_180 rfl (lv_at hl 0 rfl) ?_
          refine lv_iload_n hx hb dX13_lift_181 rfl (lv_at hl 2 rfl) ?_
          obtain ⟨r_5, md_6, hc_, hf⟩ := bd2_some hf
          refine call_Vi X hI (Cj.keep Cj.nil) (c_X13_good l g a_md (some (a_tn 0)) q_md_read md x2 r_5 md_6 hc_) ⟨rfl, rfl⟩ ⟨ht _ w_1998, w_2001, ht _ w_155, lk_X13_good⟩ w_2000 w_92 rfl rfl rfl hl rfl rfl dX13_lift_182 rfl rfl rfl rfl (fun H locs hI => ?_)
          cases hf
          exact end_i hQ hA X hI dX13_lift_185
        · replace hf := if_f h_ hf
          refine lv_aload_n hx hb dX13_lift_172 rfl (lv_at hl 0 rfl) ?_
          refine lv_iconst (v := 3) hx hb dX13_lift_173 (by decide) ?_
          obtain ⟨r_7, md_8, hc_, hf⟩ := bd2_some hf
          refine call_Vi X hI (Cj.keep Cj.nil) (c_X13_refused l g a_md (some (a_tn 0)) q_md_read md (3 : Int32) r_7 md_8 hc_) ⟨rfl, rfl⟩ ⟨ht _ w_1719, w_1722, ht _ w_155, lk_X13_refused⟩ w_1721 w_65 rfl rfl rfl hl rfl rfl dX13_lift_174 rfl rfl rfl rfl (fun H locs hI => ?_)
          refine lv_goto (tgt := 185) hx hb dX13_lift_177 (by decide) ?_
          cases hf
          exact end_i hQ hA X hI dX13_lift_185
      · replace hf := if_f h_ hf
        refine lv_aload_n hx hb dX13_lift_57 rfl (lv_at hl 0 rfl) ?_
        refine lv_iload hx hb dX13_lift_58 (lv_at hl 5 rfl) ?_
        obtain ⟨r_9, md_10, hc_, hf⟩ := bd2_some hf
        refine call_Vi X hI (Cj.keep (Cj.keep Cj.id)) (c_X13_isLeft l g a_md a_tn q_md_read md tn x5 r_9 md_10 hc_) ⟨rfl, rfl⟩ ⟨ht _ w_2067, w_2070, ht _ w_155, lk_X13_isLeft⟩ w_2069 w_98 rfl rfl rfl hl rfl rfl dX13_lift_60 rfl rfl rfl rfl (fun H locs hI => ?_)
        refine lv_if_ne (tgt := 69) hx hb dX13_lift_63 (by decide) (fun h_ => ?_) (fun h_ => ?_)
        · replace hf := if_f h_ hf
          refine lv_aload_n hx hb dX13_lift_69 rfl (lv_at hl 0 rfl) ?_
          refine lv_aload_n hx hb dX13_lift_70 rfl (lv_at hl 0 rfl) ?_
          refine g_Md_now X hI has_Md.l (X.fl w_1598) dX13_lift_71 ?_
          refine lv_iload hx hb dX13_lift_74 (lv_at hl 5 rfl) ?_
          obtain ⟨r_11, hc_, hf⟩ := bd1_some hf
          refine call_Vl X hI (Cj.keep Cj.nil) (c_X13_liftedFrom l g a_md (some (a_tn 0)) q_md_read md_10 (Md_now md_10) x5 r_11 hc_) ⟨rfl, rfl⟩ ⟨ht _ w_2247, w_2250, ht _ w_155, lk_X13_liftedFrom⟩ w_2249 w_125 rfl rfl rfl hl rfl rfl dX13_lift_76 rfl rfl rfl rfl (fun H locs hI => ?_)
          refine lv_lstore (lv' := [(6, .long r_11), (0, .ref (a_md 0)), (1, .int x1), (2, .int x2), (3, .int x3), (4, .int x4), (5, .int x5)]) hx hb dX13_lift_79 hl (by decide) rfl (fun ls hl => ?_)
          refine lv_aload_n hx hb dX13_lift_81 rfl (lv_at hl 1 rfl) ?_
          refine lv_dup hx hb dX13_lift_82 rfl ?_
          refine g_Md_lifted X hI has_Md.l (X.fl w_1600) dX13_lift_83 ?_
          refine lv_iconst (v := 1) hx hb dX13_lift_86 (by decide) ?_
          refine lv_iload hx hb dX13_lift_87 (lv_at hl 6 rfl) ?_
          refine lv_ishl hx hb dX13_lift_89 ?_
          refine lv_ixor hx hb dX13_lift_90 ?_
          refine p_Md_lifted X hI up_Md_lifted.l (X.fl w_1600) dX13_lift_91 (fun H locs hI => ?_)
          generalize hz_ : (Md_lifted' md_10 ((Md_lifted md_10) ^^^ ((1 : Int32) <<< (x5 &&& 31)))) = md_12 at hI hf
          clear hz_
          replace hf := lt_e hf
          refine lv_aload_n hx hb dX13_lift_94 rfl (lv_at hl 1 rfl) ?_
          refine lv_lload hx hb dX13_lift_95 (lv_at hl 0 rfl) ?_
          refine lv_iload_n hx hb dX13_lift_97 rfl (lv_at hl 2 rfl) ?_
          obtain ⟨r_13, md_14, hc_, hf⟩ := bd2_some hf
          refine call_Vi X hI (Cj.keep (Cj.keep Cj.id)) (c_X13_fewestFrom l g a_md a_tn q_md_read md_12 tn r_11 x1 r_13 md_14 hc_) ⟨rfl, rfl⟩ ⟨ht _ w_2154, w_2157, ht _ w_155, lk_X13_fewestFrom⟩ w_2156 w_111 rfl rfl rfl hl rfl rfl dX13_lift_98 rfl rfl rfl rfl (fun H locs hI => ?_)
          refine lv_istore (lv' := [(8, .int r_13), (6, .long r_11), (0, .ref (a_md 0)), (1, .int x1), (2, .int x2), (3, .int x3), (4, .int x4), (5, .int x5)]) hx hb dX13_lift_101 hl (by decide) rfl (fun ls hl => ?_)
          refine lv_aload_n hx hb dX13_lift_103 rfl (lv_at hl 2 rfl) ?_
          refine lv_dup hx hb dX13_lift_104 rfl ?_
          refine g_Md_lifted X hI has_Md.l (X.fl w_1600) dX13_lift_105 ?_
          refine lv_iconst (v := 1) hx hb dX13_lift_108 (by decide) ?_
          refine lv_iload hx hb dX13_lift_109 (lv_at hl 7 rfl) ?_
          refine lv_ishl hx hb dX13_lift_111 ?_
          refine lv_ixor hx hb dX13_lift_112 ?_
          refine p_Md_lifted X hI up_Md_lifted.l (X.fl w_1600) dX13_lift_113 (fun H locs hI => ?_)
          generalize hz_ : (Md_lifted' md_14 ((Md_lifted md_14) ^^^ ((1 : Int32) <<< (x5 &&& 31)))) = md_15 at hI hf
          clear hz_
          replace hf := lt_e hf
          refine lv_iload hx hb dX13_lift_116 (lv_at hl 6 rfl) ?_
          refine lv_if_ne (tgt := 128) hx hb dX13_lift_118 (by decide) (fun h_ => ?_) (fun h_ => ?_)
          · replace hf := if_f h_ hf
            exact L_128 x1 x2 x3 x5 r_13 md_15 _ _ _ _ (lv_sub hl [2, 3, 4, 5, 7, 0] rfl) hI hf (fun z_0 z_1 z_2 z_3 z_4 z_5 _ _ _ hl hI hf => ih z_0 z_1 z_2 z_3 z_4 z_5 _ _ _ hl hI hf)
          · replace hf := if_t h_ hf
            refine lv_iload hx hb dX13_lift_121 (lv_at hl 0 rfl) ?_
            refine lv_bipush (v := (-9)) hx hb dX13_lift_123 (by decide) ?_
            refine lv_icmp_ne (tgt := 132) hx hb dX13_lift_125 (by decide) (fun h_ => ?_) (fun h_ => ?_)
            · replace hf := if_f h_ hf
              refine lv_iconst (v := 0) hx hb dX13_lift_132 (by decide) ?_
              exact L_133 x1 x2 x3 x5 r_13 (0 : Int32) md_15 _ _ _ _ (lv_sub hl [2, 3, 4, 5, 7, 0] rfl) hI hf (fun z_0 z_1 z_2 z_3 z_4 z_5 _ _ _ hl hI hf => ih z_0 z_1 z_2 z_3 z_4 z_5 _ _ _ hl hI hf)
            · replace hf := if_t h_ hf
              exact L_128 x1 x2 x3 x5 r_13 md_15 _ _ _ _ (lv_sub hl [2, 3, 4, 5, 7, 0] rfl) hI hf (fun z_0 z_1 z_2 z_3 z_4 z_5 _ _ _ hl hI hf => ih z_0 z_1 z_2 z_3 z_4 z_5 _ _ _ hl hI hf)
        · replace hf := if_t h_ hf
          refine lv_goto (tgt := 161) hx hb dX13_lift_66 (by decide) ?_
          exact L_161 x1 x2 x3 x4 x5 md_10 _ _ _ _ hl hI hf (fun z_0 z_1 z_2 z_3 z_4 z_5 _ _ _ hl hI hf => ih z_0 z_1 z_2 z_3 z_4 z_5 _ _ _ hl hI hf)
  unfold f_X13_lift at hf
  refine lv_aload_n hx hb dX13_lift_0 rfl (lv_at hl 0 rfl) ?_
  refine lv_iconst (v := 0) hx hb dX13_lift_1 (by decide) ?_
  refine p_Md_thrown X hI up_Md_thrown.l (X.fl w_1583) dX13_lift_2 (fun H locs hI => ?_)
  generalize hz_ : (Md_thrown' md (0 : Int32)) = md_1 at hI hf
  clear hz_
  replace hf := lt_e hf
  refine lv_aload_n hx hb dX13_lift_5 rfl (lv_at hl 0 rfl) ?_
  refine g_Md_tangle_S X hI has_Md.l (X.fl w_1586) dX13_lift_6 ?_
  refine lv_ifnonnull (tgt := 18) hx hb dX13_lift_9 (by decide) ?_
  refine lv_iload_n hx hb dX13_lift_18 rfl (lv_at hl 1 rfl) ?_
  refine lv_iconst (v := 0) hx hb dX13_lift_19 (by decide) ?_
  refine lv_bipush (v := 8) hx hb dX13_lift_20 (by decide) ?_
  obtain ⟨r_2, hc_, hf⟩ := bd1_some hf
  refine call_Si X hI Cj.nil (c_X13_in l g p1 (0 : Int32) (8 : Int32) r_2 hc_) ⟨rfl, rfl⟩ ⟨ht _ w_1910, w_1912, ht _ w_155, lk_X13_in⟩ w_1911 rfl hl rfl rfl dX13_lift_22 rfl rfl rfl rfl (fun H locs hI => ?_)
  refine lv_if_ne (tgt := 34) hx hb dX13_lift_25 (by decide) (fun h_ => ?_) (fun h_ => ?_)
  · replace hf := if_f h_ hf
    refine lv_bipush (v := (-2)) hx hb dX13_lift_34 (by decide) ?_
    refine lv_istore_n (lv' := [(2, .int (-2 : Int32)), (0, .ref (a_md 0)), (1, .int p1)]) hx hb dX13_lift_36 rfl hl (by decide) rfl (fun ls hl => ?_)
    refine lv_iconst (v := 0) hx hb dX13_lift_37 (by decide) ?_
    refine lv_istore_n (lv' := [(3, .int (0 : Int32)), (2, .int (-2 : Int32)), (0, .ref (a_md 0)), (1, .int p1)]) hx hb dX13_lift_38 rfl hl (by decide) rfl (fun ls hl => ?_)
    refine lv_iconst (v := 0) hx hb dX13_lift_39 (by decide) ?_
    refine lv_istore (lv' := [(4, .int (0 : Int32)), (3, .int (0 : Int32)), (2, .int (-2 : Int32)), (0, .ref (a_md 0)), (1, .int p1)]) hx hb dX13_lift_40 hl (by decide) rfl (fun ls hl => ?_)
    refine lv_iconst (v := 0) hx hb dX13_lift_42 (by decide) ?_
    refine lv_istore (lv' := [(5, .int (0 : Int32)), (4, .int (0 : Int32)), (3, .int (0 : Int32)), (2, .int (-2 : Int32)), (0, .ref (a_md 0)), (1, .int p1)]) hx hb dX13_lift_43 hl (by decide) rfl (fun ls hl => ?_)
    exact L_45 FU p1 (-2 : Int32) (0 : Int32) (0 : Int32) (0 : Int32) md_1 _ _ _ (lv_sub hl [4, 5, 3, 2, 1, 0] rfl) hI hf
  · replace hf := if_t h_ hf
    refine lv_aload_n hx hb dX13_lift_28 rfl (lv_at hl 0 rfl) ?_
    refine lv_iconst (v := 2) hx hb dX13_lift_29 (by decide) ?_
    obtain ⟨r_3, md_4, hc_, hf⟩ := bd2_some hf
    refine call_Vi X hI (Cj.keep Cj.nil) (c_X13_refused l g a_md (some (a_tn 0)) q_md_read md_1 (2 : Int32) r_3 md_4 hc_) ⟨rfl, rfl⟩ ⟨ht _ w_1719, w_1722, ht _ w_155, lk_X13_refused⟩ w_1721 w_65 rfl rfl rfl hl rfl rfl dX13_lift_30 rfl rfl rfl rfl (fun H locs hI => ?_)
    cases hf
    exact end_i hQ hA X hI dX13_lift_33
abbrev rm_X13_keeps : Room := { frames := 0, cells := 0, slots := 0, locals := 0 }
set_option maxRecDepth 20000 in
theorem c_X13_keeps (l : Launch) (g : GT) (a_md : Nat → Nat) (q_md_tangle : Option Nat) (q_md_read : Option Nat) (md : MdS) (o_md : MdS) (hf : f_X13_keeps md = some (o_md)) : CV l yX13_keeps cX13_keeps 2 none rm_X13_keeps g [.ref (a_md 0)] (wMd g a_md q_md_tangle q_md_read md ++ []) (wMd g a_md q_md_tangle q_md_read o_md ++ []) := by
  refine start2 (y := yX13_keeps) (cc := cX13_keeps) (n := 2) (av := [.ref (a_md 0)]) (ws := (wMd g a_md q_md_tangle q_md_read md ++ [])) (Qc := fun sz => QV g (wMd g a_md q_md_tangle q_md_read md ++ []) (wMd g a_md q_md_tangle q_md_read o_md ++ []) sz) (by decide) rfl ?_
  intro p e s m args below meth c ls Q A ha hQ hA X hl hI hin
  have X : Cx p s m args meth c cX13_keeps 2 RX13 none := X
  have hl : lv_has ls 2 [(0, .ref (a_md 0))] := hl
  obtain ⟨hx, hb, hml, hown, ht, hr, hlk⟩ := id X
  clear ha hin
  have L_91 : ∀ (md : MdS) (H : Heap) (locs : List Loc) (ls : Array Slot), lv_has ls 2 [(0, .ref (a_md 0))] → In g A s.heap s (wMd g a_md q_md_tangle q_md_read md ++ []) H locs → f_X13_keeps_L91 md = some (o_md) → W p l e rm_X13_keeps s m args below meth c H locs 0 0 Q (F0 m 91 ls []) := by
    intro md H locs ls hl hI hf
    unfold f_X13_keeps_L91 at hf
    refine lv_aload_n hx hb dX13_keeps_91 rfl (lv_at hl 0 rfl) ?_
    refine g_Md_pastNow X hI has_Md.l (X.fl w_1614) dX13_keeps_92 ?_
    refine lv_aload_n hx hb dX13_keeps_95 rfl (lv_at hl 0 rfl) ?_
    refine g_Md_acts X hI has_Md.l (X.fl w_1622) dX13_keeps_96 ?_
    refine lv_aload_n hx hb dX13_keeps_99 rfl (lv_at hl 0 rfl) ?_
    refine g_Md_now X hI has_Md.l (X.fl w_1598) dX13_keeps_100 ?_
    obtain ⟨h_, hf⟩ := ck_someM hf
    refine st_J X hI up_Md_pastNow.l h_ dX13_keeps_103 (fun H locs hI => ?_)
    generalize hz_ : (Md_pastNow' md (vp_updL (Md_pastNow md) (Int32.toNatClampNeg (Md_acts md)) (Md_now md))) = md_1 at hI hf
    clear hz_
    replace hf := lt_e hf
    refine lv_aload_n hx hb dX13_keeps_104 rfl (lv_at hl 0 rfl) ?_
    refine g_Md_pastParted X hI has_Md.l (X.fl w_1616) dX13_keeps_105 ?_
    refine lv_aload_n hx hb dX13_keeps_108 rfl (lv_at hl 0 rfl) ?_
    refine g_Md_acts X hI has_Md.l (X.fl w_1622) dX13_keeps_109 ?_
    refine lv_aload_n hx hb dX13_keeps_112 rfl (lv_at hl 0 rfl) ?_
    refine g_Md_parted X hI has_Md.l (X.fl w_1599) dX13_keeps_113 ?_
    obtain ⟨h_, hf⟩ := ck_someM hf
    refine st_I X hI up_Md_pastParted.l h_ dX13_keeps_116 (fun H locs hI => ?_)
    generalize hz_ : (Md_pastParted' md_1 (upd (Md_pastParted md_1) (Int32.toNatClampNeg (Md_acts md_1)) (Md_parted md_1))) = md_2 at hI hf
    clear hz_
    replace hf := lt_e hf
    refine lv_aload_n hx hb dX13_keeps_117 rfl (lv_at hl 0 rfl) ?_
    refine g_Md_pastSeed X hI has_Md.l (X.fl w_1617) dX13_keeps_118 ?_
    refine lv_aload_n hx hb dX13_keeps_121 rfl (lv_at hl 0 rfl) ?_
    refine g_Md_acts X hI has_Md.l (X.fl w_1622) dX13_keeps_122 ?_
    refine lv_aload_n hx hb dX13_keeps_125 rfl (lv_at hl 0 rfl) ?_
    refine g_Md_seed X hI has_Md.l (X.fl w_1601) dX13_keeps_126 ?_
    obtain ⟨h_, hf⟩ := ck_someM hf
    refine st_I X hI up_Md_pastSeed.l h_ dX13_keeps_129 (fun H locs hI => ?_)
    generalize hz_ : (Md_pastSeed' md_2 (upd (Md_pastSeed md_2) (Int32.toNatClampNeg (Md_acts md_2)) (Md_seed md_2))) = md_3 at hI hf
    clear hz_
    replace hf := lt_e hf
    refine lv_aload_n hx hb dX13_keeps_130 rfl (lv_at hl 0 rfl) ?_
    refine g_Md_pastLifted X hI has_Md.l (X.fl w_1618) dX13_keeps_131 ?_
    refine lv_aload_n hx hb dX13_keeps_134 rfl (lv_at hl 0 rfl) ?_
    refine g_Md_acts X hI has_Md.l (X.fl w_1622) dX13_keeps_135 ?_
    refine lv_aload_n hx hb dX13_keeps_138 rfl (lv_at hl 0 rfl) ?_
    refine g_Md_lifted X hI has_Md.l (X.fl w_1600) dX13_keeps_139 ?_
    obtain ⟨h_, hf⟩ := ck_someM hf
    refine st_I X hI up_Md_pastLifted.l h_ dX13_keeps_142 (fun H locs hI => ?_)
    generalize hz_ : (Md_pastLifted' md_3 (upd (Md_pastLifted md_3) (Int32.toNatClampNeg (Md_acts md_3)) (Md_lifted md_3))) = md_4 at hI hf
    clear hz_
    replace hf := lt_e hf
    refine lv_aload_n hx hb dX13_keeps_143 rfl (lv_at hl 0 rfl) ?_
    refine lv_dup hx hb dX13_keeps_144 rfl ?_
    refine g_Md_acts X hI has_Md.l (X.fl w_1622) dX13_keeps_145 ?_
    refine lv_iconst (v := 1) hx hb dX13_keeps_148 (by decide) ?_
    refine lv_iadd hx hb dX13_keeps_149 ?_
    refine p_Md_acts X hI up_Md_acts.l (X.fl w_1622) dX13_keeps_150 (fun H locs hI => ?_)
    generalize hz_ : (Md_acts' md_4 ((Md_acts md_4) + (1 : Int32))) = md_5 at hI hf
    clear hz_
    replace hf := lt_e hf
    cases hf
    exact end_v hQ hA X hI dX13_keeps_153
  have L_11 : ∀ (n_ : Nat) (x1 : Int32) (md : MdS) (H : Heap) (locs : List Loc) (ls : Array Slot), lv_has ls 2 [(0, .ref (a_md 0)), (1, .int x1)] → In g A s.heap s (wMd g a_md q_md_tangle q_md_read md ++ []) H locs → f_X13_keeps_L11 n_ x1 md = some (o_md) → W p l e rm_X13_keeps s m args below meth c H locs 0 0 Q (F0 m 11 ls []) := by
    intro n_
    induction n_ with
    | zero =>
      intro x1 md H locs ls hl hI hf
      rw [f_X13_keeps_L11] at hf
      cases hf
    | succ n_ ih =>
      intro x1 md H locs ls hl hI hf
      rw [f_X13_keeps_L11] at hf
      refine lv_iload_n hx hb dX13_keeps_11 rfl (lv_at hl 1 rfl) ?_
      refine lv_iconst (v := 1) hx hb dX13_keeps_12 (by decide) ?_
      refine lv_iadd hx hb dX13_keeps_13 ?_
      refine lv_bipush (v := 16) hx hb dX13_keeps_14 (by decide) ?_
      refine lv_icmp_ge (tgt := 81) hx hb dX13_keeps_16 (by decide) (fun h_ => ?_) (fun h_ => ?_)
      · replace hf := if_t h_ hf
        refine lv_aload_n hx hb dX13_keeps_81 rfl (lv_at hl 0 rfl) ?_
        refine lv_dup hx hb dX13_keeps_82 rfl ?_
        refine g_Md_acts X hI has_Md.l (X.fl w_1622) dX13_keeps_83 ?_
        refine lv_iconst (v := 1) hx hb dX13_keeps_86 (by decide) ?_
        refine lv_isub hx hb dX13_keeps_87 ?_
        refine p_Md_acts X hI up_Md_acts.l (X.fl w_1622) dX13_keeps_88 (fun H locs hI => ?_)
        generalize hz_ : (Md_acts' md ((Md_acts md) - (1 : Int32))) = md_6 at hI hf
        clear hz_
        replace hf := lt_e hf
        exact L_91 md_6 _ _ _ (lv_sub hl [0] rfl) hI hf
      · replace hf := if_f h_ hf
        refine lv_aload_n hx hb dX13_keeps_19 rfl (lv_at hl 0 rfl) ?_
        refine g_Md_pastNow X hI has_Md.l (X.fl w_1614) dX13_keeps_20 ?_
        refine lv_iload_n hx hb dX13_keeps_23 rfl (lv_at hl 1 rfl) ?_
        refine lv_aload_n hx hb dX13_keeps_24 rfl (lv_at hl 0 rfl) ?_
        refine g_Md_pastNow X hI has_Md.l (X.fl w_1614) dX13_keeps_25 ?_
        refine lv_iload_n hx hb dX13_keeps_28 rfl (lv_at hl 1 rfl) ?_
        refine lv_iconst (v := 1) hx hb dX13_keeps_29 (by decide) ?_
        refine lv_iadd hx hb dX13_keeps_30 ?_
        obtain ⟨h_, hf⟩ := ck_someM hf
        refine ld_J X hI has_Md_pastNow.l h_ dX13_keeps_31 ?_
        obtain ⟨h_, hf⟩ := ck_someM hf
        refine st_J X hI up_Md_pastNow.l h_ dX13_keeps_32 (fun H locs hI => ?_)
        generalize hz_ : (Md_pastNow' md (vp_updL (Md_pastNow md) (Int32.toNatClampNeg x1) (Md_pastNow md (Int32.toNatClampNeg (x1 + (1 : Int32)))))) = md_7 at hI hf
        clear hz_
        replace hf := lt_e hf
        refine lv_aload_n hx hb dX13_keeps_33 rfl (lv_at hl 0 rfl) ?_
        refine g_Md_pastParted X hI has_Md.l (X.fl w_1616) dX13_keeps_34 ?_
        refine lv_iload_n hx hb dX13_keeps_37 rfl (lv_at hl 1 rfl) ?_
        refine lv_aload_n hx hb dX13_keeps_38 rfl (lv_at hl 0 rfl) ?_
        refine g_Md_pastParted X hI has_Md.l (X.fl w_1616) dX13_keeps_39 ?_
        refine lv_iload_n hx hb dX13_keeps_42 rfl (lv_at hl 1 rfl) ?_
        refine lv_iconst (v := 1) hx hb dX13_keeps_43 (by decide) ?_
        refine lv_iadd hx hb dX13_keeps_44 ?_
        obtain ⟨h_, hf⟩ := ck_someM hf
        refine ld_I X hI has_Md_pastParted.l h_ dX13_keeps_45 ?_
        obtain ⟨h_, hf⟩ := ck_someM hf
        refine st_I X hI up_Md_pastParted.l h_ dX13_keeps_46 (fun H locs hI => ?_)
        generalize hz_ : (Md_pastParted' md_7 (upd (Md_pastParted md_7) (Int32.toNatClampNeg x1) (Md_pastParted md_7 (Int32.toNatClampNeg (x1 + (1 : Int32)))))) = md_8 at hI hf
        clear hz_
        replace hf := lt_e hf
        refine lv_aload_n hx hb dX13_keeps_47 rfl (lv_at hl 0 rfl) ?_
        refine g_Md_pastSeed X hI has_Md.l (X.fl w_1617) dX13_keeps_48 ?_
        refine lv_iload_n hx hb dX13_keeps_51 rfl (lv_at hl 1 rfl) ?_
        refine lv_aload_n hx hb dX13_keeps_52 rfl (lv_at hl 0 rfl) ?_
        refine g_Md_pastSeed X hI has_Md.l (X.fl w_1617) dX13_keeps_53 ?_
        refine lv_iload_n hx hb dX13_keeps_56 rfl (lv_at hl 1 rfl) ?_
        refine lv_iconst (v := 1) hx hb dX13_keeps_57 (by decide) ?_
        refine lv_iadd hx hb dX13_keeps_58 ?_
        obtain ⟨h_, hf⟩ := ck_someM hf
        refine ld_I X hI has_Md_pastSeed.l h_ dX13_keeps_59 ?_
        obtain ⟨h_, hf⟩ := ck_someM hf
        refine st_I X hI up_Md_pastSeed.l h_ dX13_keeps_60 (fun H locs hI => ?_)
        generalize hz_ : (Md_pastSeed' md_8 (upd (Md_pastSeed md_8) (Int32.toNatClampNeg x1) (Md_pastSeed md_8 (Int32.toNatClampNeg (x1 + (1 : Int32)))))) = md_9 at hI hf
        clear hz_
        replace hf := lt_e hf
        refine lv_aload_n hx hb dX13_keeps_61 rfl (lv_at hl 0 rfl) ?_
        refine g_Md_pastLifted X hI has_Md.l (X.fl w_1618) dX13_keeps_62 ?_
        refine lv_iload_n hx hb dX13_keeps_65 rfl (lv_at hl 1 rfl) ?_
        refine lv_aload_n hx hb dX13_keeps_66 rfl (lv_at hl 0 rfl) ?_
        refine g_Md_pastLifted X hI has_Md.l (X.fl w_1618) dX13_keeps_67 ?_
        refine lv_iload_n hx hb dX13_keeps_70 rfl (lv_at hl 1 rfl) ?_
        refine lv_iconst (v := 1) hx hb dX13_keeps_71 (by decide) ?_
        refine lv_iadd hx hb dX13_keeps_72 ?_
        obtain ⟨h_, hf⟩ := ck_someM hf
        refine ld_I X hI has_Md_pastLifted.l h_ dX13_keeps_73 ?_
        obtain ⟨h_, hf⟩ := ck_someM hf
        refine st_I X hI up_Md_pastLifted.l h_ dX13_keeps_74 (fun H locs hI => ?_)
        generalize hz_ : (Md_pastLifted' md_9 (upd (Md_pastLifted md_9) (Int32.toNatClampNeg x1) (Md_pastLifted md_9 (Int32.toNatClampNeg (x1 + (1 : Int32)))))) = md_10 at hI hf
        clear hz_
        replace hf := lt_e hf
        obtain ⟨v_11, e_⟩ : ∃ y : Int32, y = (x1 + (1 : Int32)) := ⟨_, rfl⟩
        replace hf := lt_to e_ hf
        refine lv_iinc (v := v_11) (lv' := [(1, .int v_11), (0, .ref (a_md 0))]) hx hb dX13_keeps_75 hl (k := 1) rfl (by rw [e_]; rfl) (by decide) rfl (fun ls hl => ?_)
        clear e_
        refine lv_goto (tgt := 11) hx hb dX13_keeps_78 (by decide) ?_
        exact ih v_11 md_10 _ _ _ (lv_sub hl [1, 0] rfl) hI hf
  unfold f_X13_keeps at hf
  refine lv_aload_n hx hb dX13_keeps_0 rfl (lv_at hl 0 rfl) ?_
  refine g_Md_acts X hI has_Md.l (X.fl w_1622) dX13_keeps_1 ?_
  refine lv_bipush (v := 16) hx hb dX13_keeps_4 (by decide) ?_
  refine lv_icmp_ne (tgt := 91) hx hb dX13_keeps_6 (by decide) (fun h_ => ?_) (fun h_ => ?_)
  · replace hf := if_f h_ hf
    exact L_91 md _ _ _ hl hI hf
  · replace hf := if_t h_ hf
    refine lv_iconst (v := 0) hx hb dX13_keeps_9 (by decide) ?_
    refine lv_istore_n (lv' := [(1, .int (0 : Int32)), (0, .ref (a_md 0))]) hx hb dX13_keeps_10 rfl hl (by decide) rfl (fun ls hl => ?_)
    exact L_11 FU (0 : Int32) md _ _ _ (lv_sub hl [1, 0] rfl) hI hf
abbrev rm_X13_lifts : Room := { frames := 4, cells := 0, slots := 0, locals := 92 }
set_option maxRecDepth 20000 in
theorem c_X13_lifts (l : Launch) (g : GT) (a_md : Nat → Nat) (a_tn : Nat → Nat) (q_md_read : Option Nat) (md : MdS) (tn : TnS) (p1 : Int32) (r_ : Int32) (o_md : MdS) (hf : f_X13_lifts md tn p1 = some (r_, o_md)) : CI l yX13_lifts cX13_lifts 2 (some .int) rm_X13_lifts g [.ref (a_md 0), .int p1] (wMd g a_md (some (a_tn 0)) q_md_read md ++ (wTn g a_tn tn ++ [])) (wMd g a_md (some (a_tn 0)) q_md_read o_md ++ (wTn g a_tn tn ++ [])) r_ := by
  refine start2 (y := yX13_lifts) (cc := cX13_lifts) (n := 2) (av := [.ref (a_md 0), .int p1]) (ws := (wMd g a_md (some (a_tn 0)) q_md_read md ++ (wTn g a_tn tn ++ []))) (Qc := fun sz => QI g (wMd g a_md (some (a_tn 0)) q_md_read md ++ (wTn g a_tn tn ++ [])) (wMd g a_md (some (a_tn 0)) q_md_read o_md ++ (wTn g a_tn tn ++ [])) r_ sz) (by decide) rfl ?_
  intro p e s m args below meth c ls Q A ha hQ hA X hl hI hin
  have X : Cx p s m args meth c cX13_lifts 2 RX13 (some .int) := X
  have hl : lv_has ls 2 [(0, .ref (a_md 0)), (1, .int p1)] := hl
  obtain ⟨hx, hb, hml, hown, ht, hr, hlk⟩ := id X
  clear ha hin
  unfold f_X13_lifts at hf
  refine lv_aload_n hx hb dX13_lifts_0 rfl (lv_at hl 0 rfl) ?_
  refine lv_iconst (v := 0) hx hb dX13_lifts_1 (by decide) ?_
  refine p_Md_thrown X hI up_Md_thrown.l (X.fl w_1583) dX13_lifts_2 (fun H locs hI => ?_)
  generalize hz_ : (Md_thrown' md (0 : Int32)) = md_1 at hI hf
  clear hz_
  replace hf := lt_e hf
  refine lv_aload_n hx hb dX13_lifts_5 rfl (lv_at hl 0 rfl) ?_
  refine lv_iload_n hx hb dX13_lifts_6 rfl (lv_at hl 1 rfl) ?_
  obtain ⟨r_2, hc_, hf⟩ := bd1_some hf
  refine call_Vi X hI (Cj.keep (Cj.keep Cj.id)) (c_X13_isCrossing l g a_md a_tn q_md_read md_1 tn p1 r_2 hc_) ⟨rfl, rfl⟩ ⟨ht _ w_2255, w_2258, ht _ w_155, lk_X13_isCrossing⟩ w_2257 w_126 rfl rfl rfl hl rfl rfl dX13_lifts_7 rfl rfl rfl rfl (fun H locs hI => ?_)
  refine lv_if_ne (tgt := 19) hx hb dX13_lifts_10 (by decide) (fun h_ => ?_) (fun h_ => ?_)
  · replace hf := if_f h_ hf
    refine lv_aload_n hx hb dX13_lifts_19 rfl (lv_at hl 0 rfl) ?_
    refine lv_iload_n hx hb dX13_lifts_20 rfl (lv_at hl 1 rfl) ?_
    obtain ⟨r_3, md_4, hc_, hf⟩ := bd2_some hf
    refine call_Vi X hI (Cj.keep (Cj.keep Cj.id)) (c_X13_isLeft l g a_md a_tn q_md_read md_1 tn p1 r_3 md_4 hc_) ⟨rfl, rfl⟩ ⟨ht _ w_2067, w_2070, ht _ w_155, lk_X13_isLeft⟩ w_2069 w_98 rfl rfl rfl hl rfl rfl dX13_lifts_21 rfl rfl rfl rfl (fun H locs hI => ?_)
    refine lv_if_ne (tgt := 33) hx hb dX13_lifts_24 (by decide) (fun h_ => ?_) (fun h_ => ?_)
    · replace hf := if_f h_ hf
      refine lv_aload_n hx hb dX13_lifts_33 rfl (lv_at hl 0 rfl) ?_
      obtain ⟨md_5, hc_, hf⟩ := bd1_some hf
      refine call_Vv X hI (Cj.keep Cj.nil) (c_X13_keeps l g a_md (some (a_tn 0)) q_md_read md_4 md_5 hc_) ⟨rfl, rfl⟩ ⟨ht _ w_2259, w_2262, ht _ w_155, lk_X13_keeps⟩ w_2261 w_127 rfl rfl rfl hl rfl rfl dX13_lifts_34 rfl rfl rfl rfl (fun H locs hI => ?_)
      refine lv_aload_n hx hb dX13_lifts_37 rfl (lv_at hl 0 rfl) ?_
      refine lv_aload_n hx hb dX13_lifts_38 rfl (lv_at hl 0 rfl) ?_
      refine lv_aload_n hx hb dX13_lifts_39 rfl (lv_at hl 0 rfl) ?_
      refine g_Md_now X hI has_Md.l (X.fl w_1598) dX13_lifts_40 ?_
      refine lv_iload_n hx hb dX13_lifts_43 rfl (lv_at hl 1 rfl) ?_
      obtain ⟨r_6, hc_, hf⟩ := bd1_some hf
      refine call_Vl X hI (Cj.keep Cj.nil) (c_X13_liftedFrom l g a_md (some (a_tn 0)) q_md_read md_5 (Md_now md_5) p1 r_6 hc_) ⟨rfl, rfl⟩ ⟨ht _ w_2247, w_2250, ht _ w_155, lk_X13_liftedFrom⟩ w_2249 w_125 rfl rfl rfl hl rfl rfl dX13_lifts_44 rfl rfl rfl rfl (fun H locs hI => ?_)
      refine p_Md_now X hI up_Md_now.l (X.fl w_1598) dX13_lifts_47 (fun H locs hI => ?_)
      generalize hz_ : (Md_now' md_5 r_6) = md_7 at hI hf
      clear hz_
      replace hf := lt_e hf
      refine lv_aload_n hx hb dX13_lifts_50 rfl (lv_at hl 0 rfl) ?_
      refine lv_dup hx hb dX13_lifts_51 rfl ?_
      refine g_Md_lifted X hI has_Md.l (X.fl w_1600) dX13_lifts_52 ?_
      refine lv_iconst (v := 1) hx hb dX13_lifts_55 (by decide) ?_
      refine lv_iload_n hx hb dX13_lifts_56 rfl (lv_at hl 1 rfl) ?_
      refine lv_ishl hx hb dX13_lifts_57 ?_
      refine lv_ixor hx hb dX13_lifts_58 ?_
      refine p_Md_lifted X hI up_Md_lifted.l (X.fl w_1600) dX13_lifts_59 (fun H locs hI => ?_)
      generalize hz_ : (Md_lifted' md_7 ((Md_lifted md_7) ^^^ ((1 : Int32) <<< (p1 &&& 31)))) = md_8 at hI hf
      clear hz_
      replace hf := lt_e hf
      refine lv_aload_n hx hb dX13_lifts_62 rfl (lv_at hl 0 rfl) ?_
      refine lv_aload_n hx hb dX13_lifts_63 rfl (lv_at hl 0 rfl) ?_
      refine lv_iload_n hx hb dX13_lifts_64 rfl (lv_at hl 1 rfl) ?_
      obtain ⟨r_9, hc_, hf⟩ := bd1_some hf
      refine call_Vi X hI (Cj.keep (Cj.keep Cj.id)) (c_X13_signNow l g a_md a_tn q_md_read md_8 tn p1 r_9 hc_) ⟨rfl, rfl⟩ ⟨ht _ w_2083, w_2086, ht _ w_155, lk_X13_signNow⟩ w_2085 w_102 rfl rfl rfl hl rfl rfl dX13_lifts_65 rfl rfl rfl rfl (fun H locs hI => ?_)
      obtain ⟨r_10, md_11, hc_, hf⟩ := bd2_some hf
      refine call_Vi X hI (Cj.keep Cj.nil) (c_X13_good l g a_md (some (a_tn 0)) q_md_read md_8 r_9 r_10 md_11 hc_) ⟨rfl, rfl⟩ ⟨ht _ w_1998, w_2001, ht _ w_155, lk_X13_good⟩ w_2000 w_92 rfl rfl rfl hl rfl rfl dX13_lifts_68 rfl rfl rfl rfl (fun H locs hI => ?_)
      cases hf
      exact end_i hQ hA X hI dX13_lifts_71
    · replace hf := if_t h_ hf
      refine lv_aload_n hx hb dX13_lifts_27 rfl (lv_at hl 0 rfl) ?_
      refine lv_iconst (v := 5) hx hb dX13_lifts_28 (by decide) ?_
      obtain ⟨r_12, md_13, hc_, hf⟩ := bd2_some hf
      refine call_Vi X hI (Cj.keep Cj.nil) (c_X13_lost l g a_md (some (a_tn 0)) q_md_read md_4 (5 : Int32) r_12 md_13 hc_) ⟨rfl, rfl⟩ ⟨ht _ w_2063, w_2066, ht _ w_155, lk_X13_lost⟩ w_2065 w_97 rfl rfl rfl hl rfl rfl dX13_lifts_29 rfl rfl rfl rfl (fun H locs hI => ?_)
      cases hf
      exact end_i hQ hA X hI dX13_lifts_32
  · replace hf := if_t h_ hf
    refine lv_aload_n hx hb dX13_lifts_13 rfl (lv_at hl 0 rfl) ?_
    refine lv_iconst (v := 1) hx hb dX13_lifts_14 (by decide) ?_
    obtain ⟨r_14, md_15, hc_, hf⟩ := bd2_some hf
    refine call_Vi X hI (Cj.keep Cj.nil) (c_X13_lost l g a_md (some (a_tn 0)) q_md_read md_1 (1 : Int32) r_14 md_15 hc_) ⟨rfl, rfl⟩ ⟨ht _ w_2063, w_2066, ht _ w_155, lk_X13_lost⟩ w_2065 w_97 rfl rfl rfl hl rfl rfl dX13_lifts_15 rfl rfl rfl rfl (fun H locs hI => ?_)
    cases hf
    exact end_i hQ hA X hI dX13_lifts_18
