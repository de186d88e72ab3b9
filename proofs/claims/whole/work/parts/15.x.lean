abbrev rm_X2_traceArcs : Room := { frames := 1, cells := 0, slots := 0, locals := 21 }
set_option maxRecDepth 20000 in
theorem c_X2_traceArcs (l : Launch) (g : GT) (a_co : Nat → Nat) (a_bo : Nat → Nat) (a_ri : Nat → Nat) (co : CoS) (bo : BoS) (ri : RiS) (p2 : Int32) (o_co : CoS) (hf : f_X2_traceArcs co bo ri p2 = some (o_co)) : CV l yX2_traceArcs cX2_traceArcs 11 none rm_X2_traceArcs g [.ref (a_co 0), .ref (a_bo 0), .int p2] (wCo g a_co co ++ (wBo g a_bo (a_ri 0) bo ++ (wRi g a_ri ri ++ []))) (wCo g a_co o_co ++ (wBo g a_bo (a_ri 0) bo ++ (wRi g a_ri ri ++ []))) := by
  refine start2 (y := yX2_traceArcs) (cc := cX2_traceArcs) (n := 11) (av := [.ref (a_co 0), .ref (a_bo 0), .int p2]) (ws := (wCo g a_co co ++ (wBo g a_bo (a_ri 0) bo ++ (wRi g a_ri ri ++ [])))) (Qc := fun sz => QV g (wCo g a_co co ++ (wBo g a_bo (a_ri 0) bo ++ (wRi g a_ri ri ++ []))) (wCo g a_co o_co ++ (wBo g a_bo (a_ri 0) bo ++ (wRi g a_ri ri ++ []))) sz) (by decide) rfl ?_
  intro p e s m args below meth c ls Q A ha hQ hA X hl hI hin
  have X : Cx p s m args meth c cX2_traceArcs 11 RX2 none := X
  have hl : lv_has ls 11 [(0, .ref (a_co 0)), (1, .ref (a_bo 0)), (2, .int p2)] := hl
  obtain ⟨hx, hb, hml, hown, ht, hr, hlk⟩ := id X
  clear ha hin
  have L_49 : ∀ (x2 : Int32) (x3 : Int32) (x4 : Int32) (x6 : Int32) (t0i : Int32) (t1i : Int32) (co : CoS) (k23 : (Int32) → (Int32) → (Int32) → (Int32) → (Int32) → (CoS) → (BoS) → (RiS) → Option ((CoS))) (H : Heap) (locs : List Loc) (ls : Array Slot), lv_has ls 11 [(0, .ref (a_co 0)), (1, .ref (a_bo 0)), (2, .int x2), (3, .int x3), (4, .int x4), (6, .int x6)] → In g A s.heap s (wCo g a_co co ++ (wBo g a_bo (a_ri 0) bo ++ (wRi g a_ri ri ++ []))) H locs → f_X2_traceArcs_L49 x2 x3 x4 x6 t0i t1i co bo ri k23 = some (o_co) → (∀ (x2 : Int32) (x3 : Int32) (x4 : Int32) (x5 : Int32) (x6 : Int32) (co : CoS) (H : Heap) (locs : List Loc) (ls : Array Slot), lv_has ls 11 [(0, .ref (a_co 0)), (1, .ref (a_bo 0)), (2, .int x2), (3, .int x3), (4, .int x4), (5, .int x5), (6, .int x6)] → In g A s.heap s (wCo g a_co co ++ (wBo g a_bo (a_ri 0) bo ++ (wRi g a_ri ri ++ []))) H locs → k23 x2 x3 x4 x5 x6 co bo ri = some (o_co) → W p l e rm_X2_traceArcs s m args below meth c H locs 0 0 Q (F0 m 23 ls [])) → W p l e rm_X2_traceArcs s m args below meth c H locs 0 0 Q (F0 m 49 ls [.int t1i, .int t0i]) := by
    intro x2 x3 x4 x6 t0i t1i co k23 H locs ls hl hI hf hk23
    unfold f_X2_traceArcs_L49 at hf
    refine lv_iadd hx hb dX2_traceArcs_49 ?_
    refine lv_topi (fun v_5 e_ => ?_)
    replace hf := lt_to e_ hf
    clear e_
    refine lv_istore (lv' := [(5, .int v_5), (0, .ref (a_co 0)), (1, .ref (a_bo 0)), (2, .int x2), (3, .int x3), (4, .int x4), (6, .int x6)]) hx hb dX2_traceArcs_50 hl (by decide) rfl (fun ls hl => ?_)
    obtain ⟨v_6, e_⟩ : ∃ y : Int32, y = (x6 + (1 : Int32)) := ⟨_, rfl⟩
    replace hf := lt_to e_ hf
    refine lv_iinc (v := v_6) (lv' := [(6, .int v_6), (5, .int v_5), (0, .ref (a_co 0)), (1, .ref (a_bo 0)), (2, .int x2), (3, .int x3), (4, .int x4)]) hx hb dX2_traceArcs_52 hl (k := 6) rfl (by rw [e_]; rfl) (by decide) rfl (fun ls hl => ?_)
    clear e_
    refine lv_goto (tgt := 23) hx hb dX2_traceArcs_55 (by decide) ?_
    exact hk23 x2 x3 x4 v_5 v_6 co _ _ _ (lv_sub hl [2, 3, 4, 5, 6, 1, 0] rfl) hI hf
  have L_193 : ∀ (x4 : Int32) (x7 : Int32) (x8 : Int32) (x9 : Int32) (co : CoS) (k111 : (Int32) → (Int32) → (Int32) → (Int32) → (CoS) → (BoS) → Option ((CoS))) (H : Heap) (locs : List Loc) (ls : Array Slot), lv_has ls 11 [(0, .ref (a_co 0)), (1, .ref (a_bo 0)), (4, .int x4), (7, .int x7), (8, .int x8), (9, .int x9)] → In g A s.heap s (wCo g a_co co ++ (wBo g a_bo (a_ri 0) bo ++ (wRi g a_ri ri ++ []))) H locs → f_X2_traceArcs_L193 x4 x7 x8 x9 co bo k111 = some (o_co) → (∀ (x4 : Int32) (x7 : Int32) (x8 : Int32) (x9 : Int32) (co : CoS) (H : Heap) (locs : List Loc) (ls : Array Slot), lv_has ls 11 [(0, .ref (a_co 0)), (1, .ref (a_bo 0)), (4, .int x4), (7, .int x7), (8, .int x8), (9, .int x9)] → In g A s.heap s (wCo g a_co co ++ (wBo g a_bo (a_ri 0) bo ++ (wRi g a_ri ri ++ []))) H locs → k111 x4 x7 x8 x9 co bo = some (o_co) → W p l e rm_X2_traceArcs s m args below meth c H locs 0 0 Q (F0 m 111 ls [])) → W p l e rm_X2_traceArcs s m args below meth c H locs 0 0 Q (F0 m 193 ls []) := by
    intro x4 x7 x8 x9 co k111 H locs ls hl hI hf hk111
    unfold f_X2_traceArcs_L193 at hf
    obtain ⟨v_12, e_⟩ : ∃ y : Int32, y = (x9 + (1 : Int32)) := ⟨_, rfl⟩
    replace hf := lt_to e_ hf
    refine lv_iinc (v := v_12) (lv' := [(9, .int v_12), (0, .ref (a_co 0)), (1, .ref (a_bo 0)), (4, .int x4), (7, .int x7), (8, .int x8)]) hx hb dX2_traceArcs_193 hl (k := 5) rfl (by rw [e_]; rfl) (by decide) rfl (fun ls hl => ?_)
    clear e_
    refine lv_goto (tgt := 111) hx hb dX2_traceArcs_196 (by decide) ?_
    exact hk111 x4 x7 x8 v_12 co _ _ _ (lv_sub hl [1, 2, 3, 4, 5, 0] rfl) hI hf
  have L_182 : ∀ (x4 : Int32) (x7 : Int32) (x9 : Int32) (x10 : Int32) (t0i : Int32) (co : CoS) (k111 : (Int32) → (Int32) → (Int32) → (Int32) → (CoS) → (BoS) → Option ((CoS))) (H : Heap) (locs : List Loc) (ls : Array Slot), lv_has ls 11 [(0, .ref (a_co 0)), (1, .ref (a_bo 0)), (4, .int x4), (7, .int x7), (9, .int x9), (10, .int x10)] → In g A s.heap s (wCo g a_co co ++ (wBo g a_bo (a_ri 0) bo ++ (wRi g a_ri ri ++ []))) H locs → f_X2_traceArcs_L182 x4 x7 x9 x10 t0i co bo k111 = some (o_co) → (∀ (x4 : Int32) (x7 : Int32) (x8 : Int32) (x9 : Int32) (co : CoS) (H : Heap) (locs : List Loc) (ls : Array Slot), lv_has ls 11 [(0, .ref (a_co 0)), (1, .ref (a_bo 0)), (4, .int x4), (7, .int x7), (8, .int x8), (9, .int x9)] → In g A s.heap s (wCo g a_co co ++ (wBo g a_bo (a_ri 0) bo ++ (wRi g a_ri ri ++ []))) H locs → k111 x4 x7 x8 x9 co bo = some (o_co) → W p l e rm_X2_traceArcs s m args below meth c H locs 0 0 Q (F0 m 111 ls [])) → W p l e rm_X2_traceArcs s m args below meth c H locs 0 0 Q (F0 m 182 ls [.int t0i]) := by
    intro x4 x7 x9 x10 t0i co k111 H locs ls hl hI hf hk111
    unfold f_X2_traceArcs_L182 at hf
    refine lv_istore (lv' := [(8, .int t0i), (0, .ref (a_co 0)), (1, .ref (a_bo 0)), (4, .int x4), (7, .int x7), (9, .int x9), (10, .int x10)]) hx hb dX2_traceArcs_182 hl (by decide) rfl (fun ls hl => ?_)
    refine lv_aload_n hx hb dX2_traceArcs_184 rfl (lv_at hl 1 rfl) ?_
    refine g_Co_arcBehind X hI has_Co.l (X.fl w_646) dX2_traceArcs_185 ?_
    refine lv_iload hx hb dX2_traceArcs_188 (lv_at hl 6 rfl) ?_
    refine lv_iload hx hb dX2_traceArcs_190 (lv_at hl 0 rfl) ?_
    obtain ⟨h_, hf⟩ := ck_someM hf
    refine st_I X hI up_Co_arcBehind.l h_ dX2_traceArcs_192 (fun H locs hI => ?_)
    generalize hz_ : (Co_arcBehind' co (upd (Co_arcBehind co) (Int32.toNatClampNeg x10) t0i)) = co_11 at hI hf
    clear hz_
    replace hf := lt_e hf
    exact L_193 x4 x7 t0i x9 co_11 _ _ _ _ (lv_sub hl [1, 2, 3, 4, 0, 5] rfl) hI hf hk111
  have L_111 : ∀ (n_ : Nat) (x4 : Int32) (x7 : Int32) (x8 : Int32) (x9 : Int32) (co : CoS) (H : Heap) (locs : List Loc) (ls : Array Slot), lv_has ls 11 [(0, .ref (a_co 0)), (1, .ref (a_bo 0)), (4, .int x4), (7, .int x7), (8, .int x8), (9, .int x9)] → In g A s.heap s (wCo g a_co co ++ (wBo g a_bo (a_ri 0) bo ++ (wRi g a_ri ri ++ []))) H locs → f_X2_traceArcs_L111 n_ x4 x7 x8 x9 co bo = some (o_co) → W p l e rm_X2_traceArcs s m args below meth c H locs 0 0 Q (F0 m 111 ls []) := by
    intro n_
    induction n_ with
    | zero =>
      intro x4 x7 x8 x9 co H locs ls hl hI hf
      rw [f_X2_traceArcs_L111] at hf
      cases hf
    | succ n_ ih =>
      intro x4 x7 x8 x9 co H locs ls hl hI hf
      rw [f_X2_traceArcs_L111] at hf
      refine lv_iload hx hb dX2_traceArcs_111 (lv_at hl 5 rfl) ?_
      refine lv_iload hx hb dX2_traceArcs_113 (lv_at hl 2 rfl) ?_
      refine lv_icmp_ge (tgt := 199) hx hb dX2_traceArcs_115 (by decide) (fun h_ => ?_) (fun h_ => ?_)
      · replace hf := if_t h_ hf
        refine lv_aload_n hx hb dX2_traceArcs_199 rfl (lv_at hl 0 rfl) ?_
        refine lv_iload hx hb dX2_traceArcs_200 (lv_at hl 3 rfl) ?_
        refine p_Co_arcs X hI up_Co_arcs.l (X.fl w_648) dX2_traceArcs_202 (fun H locs hI => ?_)
        generalize hz_ : (Co_arcs' co x7) = co_7 at hI hf
        clear hz_
        replace hf := lt_e hf
        cases hf
        exact end_v hQ hA X hI dX2_traceArcs_205
      · replace hf := if_f h_ hf
        refine lv_aload_n hx hb dX2_traceArcs_118 rfl (lv_at hl 1 rfl) ?_
        refine g_Bo_walk X hI has_Bo.l.r (hI.fn (List.mem_of_getElem? (i := 71) rfl)) dX2_traceArcs_119 ?_
        refine lv_iload hx hb dX2_traceArcs_122 (lv_at hl 5 rfl) ?_
        obtain ⟨h_, hf⟩ := ck_someM hf
        refine ld_I X hI has_Bo_walk.l.r h_ dX2_traceArcs_124 ?_
        refine lv_iconst (v := 2) hx hb dX2_traceArcs_125 (by decide) ?_
        refine lv_idiv hx hb dX2_traceArcs_126 (by decide) ?_
        refine lv_topi (fun v_8 e_ => ?_)
        replace hf := lt_to e_ hf
        clear e_
        refine lv_istore (lv' := [(10, .int v_8), (0, .ref (a_co 0)), (1, .ref (a_bo 0)), (4, .int x4), (7, .int x7), (8, .int x8), (9, .int x9)]) hx hb dX2_traceArcs_127 hl (by decide) rfl (fun ls hl => ?_)
        refine lv_aload_n hx hb dX2_traceArcs_129 rfl (lv_at hl 2 rfl) ?_
        refine g_Bo_walk X hI has_Bo.l.r (hI.fn (List.mem_of_getElem? (i := 71) rfl)) dX2_traceArcs_130 ?_
        refine lv_iload hx hb dX2_traceArcs_133 (lv_at hl 6 rfl) ?_
        obtain ⟨h_, hf⟩ := ck_someM hf
        refine ld_I X hI has_Bo_walk.l.r h_ dX2_traceArcs_135 ?_
        refine lv_iconst (v := 1) hx hb dX2_traceArcs_136 (by decide) ?_
        refine lv_iand hx hb dX2_traceArcs_137 ?_
        refine lv_if_eq (tgt := 153) hx hb dX2_traceArcs_138 (by decide) (fun h_ => ?_) (fun h_ => ?_)
        · replace hf := if_t h_ hf
          refine lv_aload_n hx hb dX2_traceArcs_153 rfl (lv_at hl 1 rfl) ?_
          refine g_Co_arcBefore X hI has_Co.l (X.fl w_645) dX2_traceArcs_154 ?_
          refine lv_iload hx hb dX2_traceArcs_157 (lv_at hl 0 rfl) ?_
          refine lv_iload hx hb dX2_traceArcs_159 (lv_at hl 5 rfl) ?_
          obtain ⟨h_, hf⟩ := ck_someM hf
          refine st_I X hI up_Co_arcBefore.l h_ dX2_traceArcs_161 (fun H locs hI => ?_)
          generalize hz_ : (Co_arcBefore' co (upd (Co_arcBefore co) (Int32.toNatClampNeg v_8) x8)) = co_9 at hI hf
          clear hz_
          replace hf := lt_e hf
          refine lv_iload hx hb dX2_traceArcs_162 (lv_at hl 5 rfl) ?_
          refine lv_iconst (v := 1) hx hb dX2_traceArcs_164 (by decide) ?_
          refine lv_iadd hx hb dX2_traceArcs_165 ?_
          refine lv_iload hx hb dX2_traceArcs_166 (lv_at hl 4 rfl) ?_
          refine lv_icmp_ge (tgt := 178) hx hb dX2_traceArcs_168 (by decide) (fun h_ => ?_) (fun h_ => ?_)
          · replace hf := if_t h_ hf
            refine lv_aload_n hx hb dX2_traceArcs_178 rfl (lv_at hl 1 rfl) ?_
            refine g_Co_arcs X hI has_Co.l (X.fl w_648) dX2_traceArcs_179 ?_
            exact L_182 x4 x7 x9 v_8 (Co_arcs co_9) co_9 _ _ _ _ (lv_sub hl [1, 2, 3, 4, 6, 0] rfl) hI hf (fun z_0 z_1 z_2 z_3 z_4 _ _ _ hl hI hf => ih z_0 z_1 z_2 z_3 z_4 _ _ _ hl hI hf)
          · replace hf := if_f h_ hf
            refine lv_iload hx hb dX2_traceArcs_171 (lv_at hl 5 rfl) ?_
            refine lv_iconst (v := 1) hx hb dX2_traceArcs_173 (by decide) ?_
            refine lv_iadd hx hb dX2_traceArcs_174 ?_
            refine lv_goto (tgt := 182) hx hb dX2_traceArcs_175 (by decide) ?_
            exact L_182 x4 x7 x9 v_8 (x8 + (1 : Int32)) co_9 _ _ _ _ (lv_sub hl [1, 2, 3, 4, 6, 0] rfl) hI hf (fun z_0 z_1 z_2 z_3 z_4 _ _ _ hl hI hf => ih z_0 z_1 z_2 z_3 z_4 _ _ _ hl hI hf)
        · replace hf := if_f h_ hf
          refine lv_aload_n hx hb dX2_traceArcs_141 rfl (lv_at hl 1 rfl) ?_
          refine g_Co_overArc X hI has_Co.l (X.fl w_644) dX2_traceArcs_142 ?_
          refine lv_iload hx hb dX2_traceArcs_145 (lv_at hl 0 rfl) ?_
          refine lv_iload hx hb dX2_traceArcs_147 (lv_at hl 5 rfl) ?_
          obtain ⟨h_, hf⟩ := ck_someM hf
          refine st_I X hI up_Co_overArc.l h_ dX2_traceArcs_149 (fun H locs hI => ?_)
          generalize hz_ : (Co_overArc' co (upd (Co_overArc co) (Int32.toNatClampNeg v_8) x8)) = co_10 at hI hf
          clear hz_
          replace hf := lt_e hf
          refine lv_goto (tgt := 193) hx hb dX2_traceArcs_150 (by decide) ?_
          exact L_193 x4 x7 x8 x9 co_10 _ _ _ _ (lv_sub hl [1, 2, 3, 4, 5, 6] rfl) hI hf (fun z_0 z_1 z_2 z_3 z_4 _ _ _ hl hI hf => ih z_0 z_1 z_2 z_3 z_4 _ _ _ hl hI hf)
  have L_106 : ∀ (x3 : Int32) (x4 : Int32) (x7 : Int32) (t0i : Int32) (co : CoS) (H : Heap) (locs : List Loc) (ls : Array Slot), lv_has ls 11 [(0, .ref (a_co 0)), (1, .ref (a_bo 0)), (3, .int x3), (4, .int x4), (7, .int x7)] → In g A s.heap s (wCo g a_co co ++ (wBo g a_bo (a_ri 0) bo ++ (wRi g a_ri ri ++ []))) H locs → f_X2_traceArcs_L106 x3 x4 x7 t0i co bo = some (o_co) → W p l e rm_X2_traceArcs s m args below meth c H locs 0 0 Q (F0 m 106 ls [.int t0i]) := by
    intro x3 x4 x7 t0i co H locs ls hl hI hf
    unfold f_X2_traceArcs_L106 at hf
    refine lv_istore (lv' := [(8, .int t0i), (0, .ref (a_co 0)), (1, .ref (a_bo 0)), (3, .int x3), (4, .int x4), (7, .int x7)]) hx hb dX2_traceArcs_106 hl (by decide) rfl (fun ls hl => ?_)
    refine lv_iload_n hx hb dX2_traceArcs_108 rfl (lv_at hl 3 rfl) ?_
    refine lv_istore (lv' := [(9, .int x3), (8, .int t0i), (0, .ref (a_co 0)), (1, .ref (a_bo 0)), (3, .int x3), (4, .int x4), (7, .int x7)]) hx hb dX2_traceArcs_109 hl (by decide) rfl (fun ls hl => ?_)
    exact L_111 FU x4 x7 t0i x3 co _ _ _ (lv_sub hl [2, 3, 5, 6, 1, 0] rfl) hI hf
  have L_87 : ∀ (x3 : Int32) (x4 : Int32) (x6 : Int32) (t0i : Int32) (t1i : Int32) (co : CoS) (H : Heap) (locs : List Loc) (ls : Array Slot), lv_has ls 11 [(0, .ref (a_co 0)), (1, .ref (a_bo 0)), (3, .int x3), (4, .int x4), (6, .int x6)] → In g A s.heap s (wCo g a_co co ++ (wBo g a_bo (a_ri 0) bo ++ (wRi g a_ri ri ++ []))) H locs → f_X2_traceArcs_L87 x3 x4 x6 t0i t1i co bo = some (o_co) → W p l e rm_X2_traceArcs s m args below meth c H locs 0 0 Q (F0 m 87 ls [.int t1i, .int t0i]) := by
    intro x3 x4 x6 t0i t1i co H locs ls hl hI hf
    unfold f_X2_traceArcs_L87 at hf
    refine lv_iadd hx hb dX2_traceArcs_87 ?_
    refine lv_topi (fun v_4 e_ => ?_)
    replace hf := lt_to e_ hf
    clear e_
    refine lv_istore (lv' := [(7, .int v_4), (0, .ref (a_co 0)), (1, .ref (a_bo 0)), (3, .int x3), (4, .int x4), (6, .int x6)]) hx hb dX2_traceArcs_88 hl (by decide) rfl (fun ls hl => ?_)
    refine lv_iload hx hb dX2_traceArcs_90 (lv_at hl 5 rfl) ?_
    refine lv_if_eq (tgt := 102) hx hb dX2_traceArcs_92 (by decide) (fun h_ => ?_) (fun h_ => ?_)
    · replace hf := if_t h_ hf
      refine lv_iload hx hb dX2_traceArcs_102 (lv_at hl 0 rfl) ?_
      refine lv_iconst (v := 1) hx hb dX2_traceArcs_104 (by decide) ?_
      refine lv_isub hx hb dX2_traceArcs_105 ?_
      exact L_106 x3 x4 v_4 (v_4 - (1 : Int32)) co _ _ _ (lv_sub hl [1, 2, 3, 4, 0] rfl) hI hf
    · replace hf := if_f h_ hf
      refine lv_aload_n hx hb dX2_traceArcs_95 rfl (lv_at hl 1 rfl) ?_
      refine g_Co_arcs X hI has_Co.l (X.fl w_648) dX2_traceArcs_96 ?_
      refine lv_goto (tgt := 106) hx hb dX2_traceArcs_99 (by decide) ?_
      exact L_106 x3 x4 v_4 (Co_arcs co) co _ _ _ (lv_sub hl [1, 2, 3, 4, 0] rfl) hI hf
  have L_23 : ∀ (n_ : Nat) (x2 : Int32) (x3 : Int32) (x4 : Int32) (x5 : Int32) (x6 : Int32) (co : CoS) (H : Heap) (locs : List Loc) (ls : Array Slot), lv_has ls 11 [(0, .ref (a_co 0)), (1, .ref (a_bo 0)), (2, .int x2), (3, .int x3), (4, .int x4), (5, .int x5), (6, .int x6)] → In g A s.heap s (wCo g a_co co ++ (wBo g a_bo (a_ri 0) bo ++ (wRi g a_ri ri ++ []))) H locs → f_X2_traceArcs_L23 n_ x2 x3 x4 x5 x6 co bo ri = some (o_co) → W p l e rm_X2_traceArcs s m args below meth c H locs 0 0 Q (F0 m 23 ls []) := by
    intro n_
    induction n_ with
    | zero =>
      intro x2 x3 x4 x5 x6 co H locs ls hl hI hf
      rw [f_X2_traceArcs_L23] at hf
      cases hf
    | succ n_ ih =>
      intro x2 x3 x4 x5 x6 co H locs ls hl hI hf
      rw [f_X2_traceArcs_L23] at hf
      refine lv_iload hx hb dX2_traceArcs_23 (lv_at hl 6 rfl) ?_
      refine lv_iload hx hb dX2_traceArcs_25 (lv_at hl 4 rfl) ?_
      refine lv_icmp_ge (tgt := 58) hx hb dX2_traceArcs_27 (by decide) (fun h_ => ?_) (fun h_ => ?_)
      · replace hf := if_t h_ hf
        refine lv_aload_n hx hb dX2_traceArcs_58 rfl (lv_at hl 1 rfl) ?_
        refine lv_iload_n hx hb dX2_traceArcs_59 rfl (lv_at hl 2 rfl) ?_
        obtain ⟨r_3, hc_, hf⟩ := bd1_some hf
        refine call_Vi X hI (Cj.skip (Cj.keep (Cj.keep Cj.id))) (c_X0_isOpen l g a_bo a_ri bo ri x2 r_3 hc_) ⟨rfl, rfl⟩ ⟨ht _ w_1233, w_951, ht _ w_150, lk_X0_isOpen⟩ w_949 w_950 rfl rfl rfl hl rfl rfl dX2_traceArcs_60 rfl rfl rfl rfl (fun H locs hI => ?_)
        refine lv_istore (lv' := [(6, .int r_3), (0, .ref (a_co 0)), (1, .ref (a_bo 0)), (2, .int x2), (3, .int x3), (4, .int x4), (5, .int x5)]) hx hb dX2_traceArcs_63 hl (by decide) rfl (fun ls hl => ?_)
        refine lv_aload_n hx hb dX2_traceArcs_65 rfl (lv_at hl 1 rfl) ?_
        refine g_Co_arcs X hI has_Co.l (X.fl w_648) dX2_traceArcs_66 ?_
        refine lv_iload hx hb dX2_traceArcs_69 (lv_at hl 0 rfl) ?_
        refine lv_if_eq (tgt := 81) hx hb dX2_traceArcs_71 (by decide) (fun h_ => ?_) (fun h_ => ?_)
        · replace hf := if_t h_ hf
          refine lv_iload hx hb dX2_traceArcs_81 (lv_at hl 6 rfl) ?_
          refine lv_iconst (v := 1) hx hb dX2_traceArcs_83 (by decide) ?_
          refine va_mmax hx hb (by rw [hml]; exact hl.1.symm) hown (ht _ w_1234) (ht _ w_909) (ht _ w_156) (ht _ w_910) (Nat.le_of_ble_eq_true rfl) (Nat.le_of_ble_eq_true rfl) (Nat.le_of_ble_eq_true rfl) (Nat.le_of_ble_eq_true rfl) dX2_traceArcs_84 ?_
          exact L_87 x3 x4 r_3 (Co_arcs co) (if x5 < (1 : Int32) then (1 : Int32) else x5) co _ _ _ (lv_sub hl [1, 2, 4, 5, 0] rfl) hI hf
        · replace hf := if_f h_ hf
          refine lv_iload hx hb dX2_traceArcs_74 (lv_at hl 6 rfl) ?_
          refine lv_iconst (v := 1) hx hb dX2_traceArcs_76 (by decide) ?_
          refine lv_iadd hx hb dX2_traceArcs_77 ?_
          refine lv_goto (tgt := 87) hx hb dX2_traceArcs_78 (by decide) ?_
          exact L_87 x3 x4 r_3 (Co_arcs co) (x5 + (1 : Int32)) co _ _ _ (lv_sub hl [1, 2, 4, 5, 0] rfl) hI hf
      · replace hf := if_f h_ hf
        refine lv_iload hx hb dX2_traceArcs_30 (lv_at hl 5 rfl) ?_
        refine lv_aload_n hx hb dX2_traceArcs_32 rfl (lv_at hl 1 rfl) ?_
        refine g_Bo_walk X hI has_Bo.l.r (hI.fn (List.mem_of_getElem? (i := 71) rfl)) dX2_traceArcs_33 ?_
        refine lv_iload hx hb dX2_traceArcs_36 (lv_at hl 6 rfl) ?_
        obtain ⟨h_, hf⟩ := ck_someM hf
        refine ld_I X hI has_Bo_walk.l.r h_ dX2_traceArcs_38 ?_
        refine lv_iconst (v := 1) hx hb dX2_traceArcs_39 (by decide) ?_
        refine lv_iand hx hb dX2_traceArcs_40 ?_
        refine lv_if_ne (tgt := 48) hx hb dX2_traceArcs_41 (by decide) (fun h_ => ?_) (fun h_ => ?_)
        · replace hf := if_f h_ hf
          refine lv_iconst (v := 0) hx hb dX2_traceArcs_48 (by decide) ?_
          exact L_49 x2 x3 x4 x6 x5 (0 : Int32) co _ _ _ _ (lv_sub hl [0, 1, 2, 3, 4, 6] rfl) hI hf (fun z_0 z_1 z_2 z_3 z_4 z_5 _ _ _ hl hI hf => ih z_0 z_1 z_2 z_3 z_4 z_5 _ _ _ hl hI hf)
        · replace hf := if_t h_ hf
          refine lv_iconst (v := 1) hx hb dX2_traceArcs_44 (by decide) ?_
          refine lv_goto (tgt := 49) hx hb dX2_traceArcs_45 (by decide) ?_
          exact L_49 x2 x3 x4 x6 x5 (1 : Int32) co _ _ _ _ (lv_sub hl [0, 1, 2, 3, 4, 6] rfl) hI hf (fun z_0 z_1 z_2 z_3 z_4 z_5 _ _ _ hl hI hf => ih z_0 z_1 z_2 z_3 z_4 z_5 _ _ _ hl hI hf)
  unfold f_X2_traceArcs at hf
  refine lv_aload_n hx hb dX2_traceArcs_0 rfl (lv_at hl 1 rfl) ?_
  refine g_Bo_walkStart X hI has_Bo.l.r (hI.fn (List.mem_of_getElem? (i := 72) rfl)) dX2_traceArcs_1 ?_
  refine lv_iload_n hx hb dX2_traceArcs_4 rfl (lv_at hl 2 rfl) ?_
  obtain ⟨h_, hf⟩ := ck_someM hf
  refine ld_I X hI has_Bo_walkStart.l.r h_ dX2_traceArcs_5 ?_
  refine lv_topi (fun v_1 e_ => ?_)
  replace hf := lt_to e_ hf
  clear e_
  refine lv_istore_n (lv' := [(3, .int v_1), (0, .ref (a_co 0)), (1, .ref (a_bo 0)), (2, .int p2)]) hx hb dX2_traceArcs_6 rfl hl (by decide) rfl (fun ls hl => ?_)
  refine lv_aload_n hx hb dX2_traceArcs_7 rfl (lv_at hl 2 rfl) ?_
  refine g_Bo_walkStart X hI has_Bo.l.r (hI.fn (List.mem_of_getElem? (i := 72) rfl)) dX2_traceArcs_8 ?_
  refine lv_iload_n hx hb dX2_traceArcs_11 rfl (lv_at hl 3 rfl) ?_
  refine lv_iconst (v := 1) hx hb dX2_traceArcs_12 (by decide) ?_
  refine lv_iadd hx hb dX2_traceArcs_13 ?_
  obtain ⟨h_, hf⟩ := ck_someM hf
  refine ld_I X hI has_Bo_walkStart.l.r h_ dX2_traceArcs_14 ?_
  refine lv_topi (fun v_2 e_ => ?_)
  replace hf := lt_to e_ hf
  clear e_
  refine lv_istore (lv' := [(4, .int v_2), (3, .int v_1), (0, .ref (a_co 0)), (1, .ref (a_bo 0)), (2, .int p2)]) hx hb dX2_traceArcs_15 hl (by decide) rfl (fun ls hl => ?_)
  refine lv_iconst (v := 0) hx hb dX2_traceArcs_17 (by decide) ?_
  refine lv_istore (lv' := [(5, .int (0 : Int32)), (4, .int v_2), (3, .int v_1), (0, .ref (a_co 0)), (1, .ref (a_bo 0)), (2, .int p2)]) hx hb dX2_traceArcs_18 hl (by decide) rfl (fun ls hl => ?_)
  refine lv_iload_n hx hb dX2_traceArcs_20 rfl (lv_at hl 2 rfl) ?_
  refine lv_istore (lv' := [(6, .int v_1), (5, .int (0 : Int32)), (4, .int v_2), (3, .int v_1), (0, .ref (a_co 0)), (1, .ref (a_bo 0)), (2, .int p2)]) hx hb dX2_traceArcs_21 hl (by decide) rfl (fun ls hl => ?_)
  exact L_23 FU p2 v_1 v_2 (0 : Int32) v_1 co _ _ _ (lv_sub hl [4, 5, 6, 3, 2, 1, 0] rfl) hI hf
abbrev rm_X2_countArcs : Room := { frames := 2, cells := 0, slots := 0, locals := 51 }
set_option maxRecDepth 20000 in
theorem c_X2_countArcs (l : Launch) (g : GT) (a_co : Nat → Nat) (a_bo : Nat → Nat) (a_ri : Nat → Nat) (co : CoS) (bo : BoS) (ri : RiS) (p2 : Int32) (r_ : Int32) (o_co : CoS) (hf : f_X2_countArcs co bo ri p2 = some (r_, o_co)) : CI l yX2_countArcs cX2_countArcs 4 (some .int) rm_X2_countArcs g [.ref (a_co 0), .ref (a_bo 0), .int p2] (wCo g a_co co ++ (wBo g a_bo (a_ri 0) bo ++ (wRi g a_ri ri ++ []))) (wCo g a_co o_co ++ (wBo g a_bo (a_ri 0) bo ++ (wRi g a_ri ri ++ []))) r_ := by
  refine start2 (y := yX2_countArcs) (cc := cX2_countArcs) (n := 4) (av := [.ref (a_co 0), .ref (a_bo 0), .int p2]) (ws := (wCo g a_co co ++ (wBo g a_bo (a_ri 0) bo ++ (wRi g a_ri ri ++ [])))) (Qc := fun sz => QI g (wCo g a_co co ++ (wBo g a_bo (a_ri 0) bo ++ (wRi g a_ri ri ++ []))) (wCo g a_co o_co ++ (wBo g a_bo (a_ri 0) bo ++ (wRi g a_ri ri ++ []))) r_ sz) (by decide) rfl ?_
  intro p e s m args below meth c ls Q A ha hQ hA X hl hI hin
  have X : Cx p s m args meth c cX2_countArcs 4 RX2 (some .int) := X
  have hl : lv_has ls 4 [(0, .ref (a_co 0)), (1, .ref (a_bo 0)), (2, .int p2)] := hl
  obtain ⟨hx, hb, hml, hown, ht, hr, hlk⟩ := id X
  clear ha hin
  have L_7 : ∀ (n_ : Nat) (x2 : Int32) (x3 : Int32) (co : CoS) (H : Heap) (locs : List Loc) (ls : Array Slot), lv_has ls 4 [(0, .ref (a_co 0)), (1, .ref (a_bo 0)), (2, .int x2), (3, .int x3)] → In g A s.heap s (wCo g a_co co ++ (wBo g a_bo (a_ri 0) bo ++ (wRi g a_ri ri ++ []))) H locs → f_X2_countArcs_L7 n_ x2 x3 co bo ri = some (r_, o_co) → W p l e rm_X2_countArcs s m args below meth c H locs 0 0 Q (F0 m 7 ls []) := by
    intro n_
    induction n_ with
    | zero =>
      intro x2 x3 co H locs ls hl hI hf
      rw [f_X2_countArcs_L7] at hf
      cases hf
    | succ n_ ih =>
      intro x2 x3 co H locs ls hl hI hf
      rw [f_X2_countArcs_L7] at hf
      refine lv_iload_n hx hb dX2_countArcs_7 rfl (lv_at hl 3 rfl) ?_
      refine lv_iload_n hx hb dX2_countArcs_8 rfl (lv_at hl 2 rfl) ?_
      refine lv_icmp_ge (tgt := 24) hx hb dX2_countArcs_9 (by decide) (fun h_ => ?_) (fun h_ => ?_)
      · replace hf := if_t h_ hf
        refine lv_aload_n hx hb dX2_countArcs_24 rfl (lv_at hl 0 rfl) ?_
        refine g_Co_arcs X hI has_Co.l (X.fl w_648) dX2_countArcs_25 ?_
        cases hf
        exact end_i hQ hA X hI dX2_countArcs_28
      · replace hf := if_f h_ hf
        refine lv_aload_n hx hb dX2_countArcs_12 rfl (lv_at hl 0 rfl) ?_
        refine lv_aload_n hx hb dX2_countArcs_13 rfl (lv_at hl 1 rfl) ?_
        refine lv_iload_n hx hb dX2_countArcs_14 rfl (lv_at hl 3 rfl) ?_
        obtain ⟨co_2, hc_, hf⟩ := bd1_some hf
        refine call_Vv X hI (Cj.keep (Cj.keep (Cj.keep Cj.id))) (c_X2_traceArcs l g a_co a_bo a_ri co bo ri x3 co_2 hc_) ⟨rfl, rfl⟩ ⟨ht _ w_1229, w_1232, ht _ w_153, lk_X2_traceArcs⟩ w_1231 w_53 rfl rfl rfl hl rfl rfl dX2_countArcs_15 rfl rfl rfl rfl (fun H locs hI => ?_)
        obtain ⟨v_3, e_⟩ : ∃ y : Int32, y = (x3 + (1 : Int32)) := ⟨_, rfl⟩
        replace hf := lt_to e_ hf
        refine lv_iinc (v := v_3) (lv' := [(3, .int v_3), (0, .ref (a_co 0)), (1, .ref (a_bo 0)), (2, .int x2)]) hx hb dX2_countArcs_18 hl (k := 3) rfl (by rw [e_]; rfl) (by decide) rfl (fun ls hl => ?_)
        clear e_
        refine lv_goto (tgt := 7) hx hb dX2_countArcs_21 (by decide) ?_
        exact ih x2 v_3 co_2 _ _ _ (lv_sub hl [1, 2, 3, 0] rfl) hI hf
  unfold f_X2_countArcs at hf
  refine lv_aload_n hx hb dX2_countArcs_0 rfl (lv_at hl 0 rfl) ?_
  refine lv_iconst (v := 0) hx hb dX2_countArcs_1 (by decide) ?_
  refine p_Co_arcs X hI up_Co_arcs.l (X.fl w_648) dX2_countArcs_2 (fun H locs hI => ?_)
  generalize hz_ : (Co_arcs' co (0 : Int32)) = co_1 at hI hf
  clear hz_
  replace hf := lt_e hf
  refine lv_iconst (v := 0) hx hb dX2_countArcs_5 (by decide) ?_
  refine lv_istore_n (lv' := [(3, .int (0 : Int32)), (0, .ref (a_co 0)), (1, .ref (a_bo 0)), (2, .int p2)]) hx hb dX2_countArcs_6 rfl hl (by decide) rfl (fun ls hl => ?_)
  exact L_7 FU p2 (0 : Int32) co_1 _ _ _ (lv_sub hl [1, 2, 3, 0] rfl) hI hf
abbrev rm_X2_fillRow : Room := { frames := 1, cells := 0, slots := 0, locals := 23 }
set_option maxRecDepth 20000 in
theorem c_X2_fillRow (l : Launch) (g : GT) (a_co : Nat → Nat) (co : CoS) (j1 : Nat) (p2 : Int32) (p3 : Int32) (o_co : CoS) (hf : f_X2_fillRow co j1 p2 p3 = some (o_co)) : CV l yX2_fillRow cX2_fillRow 5 none rm_X2_fillRow g [.ref (a_co 0), .ref (a_co (5 + j1)), .int p2, .int p3] (wCo g a_co co ++ []) (wCo g a_co o_co ++ []) := by
  refine start2 (y := yX2_fillRow) (cc := cX2_fillRow) (n := 5) (av := [.ref (a_co 0), .ref (a_co (5 + j1)), .int p2, .int p3]) (ws := (wCo g a_co co ++ [])) (Qc := fun sz => QV g (wCo g a_co co ++ []) (wCo g a_co o_co ++ []) sz) (by decide) rfl ?_
  intro p e s m args below meth c ls Q A ha hQ hA X hl hI hin
  have X : Cx p s m args meth c cX2_fillRow 5 RX2 none := X
  have hl : lv_has ls 5 [(0, .ref (a_co 0)), (1, .ref (a_co (5 + j1))), (2, .int p2), (3, .int p3)] := hl
  obtain ⟨hx, hb, hml, hown, ht, hr, hlk⟩ := id X
  clear ha hin
  have L_48 : ∀ (n_ : Nat) (x3 : Int32) (x4 : Int32) (co : CoS) (H : Heap) (locs : List Loc) (ls : Array Slot), lv_has ls 5 [(1, .ref (a_co (5 + j1))), (3, .int x3), (4, .int x4)] → In g A s.heap s (wCo g a_co co ++ []) H locs → f_X2_fillRow_L48 n_ x3 x4 co j1 = some (o_co) → W p l e rm_X2_fillRow s m args below meth c H locs 0 0 Q (F0 m 48 ls []) := by
    intro n_
    induction n_ with
    | zero =>
      intro x3 x4 co H locs ls hl hI hf
      rw [f_X2_fillRow_L48] at hf
      cases hf
    | succ n_ ih =>
      intro x3 x4 co H locs ls hl hI hf
      rw [f_X2_fillRow_L48] at hf
      refine lv_iload hx hb dX2_fillRow_48 (lv_at hl 2 rfl) ?_
      refine lv_aload_n hx hb dX2_fillRow_50 rfl (lv_at hl 0 rfl) ?_
      obtain ⟨hj_, hf⟩ := ckn_some hf
      refine al_n (t0 := 0) (v := 16) 0 X hI (has_Co_rw hj_).l rfl (by decide) dX2_fillRow_51 ?_
      refine lv_icmp_ge (tgt := 73) hx hb dX2_fillRow_52 (by decide) (fun h_ => ?_) (fun h_ => ?_)
      · replace hf := if_t h_ hf
        cases hf
        exact end_v hQ hA X hI dX2_fillRow_73
      · replace hf := if_f h_ hf
        refine lv_aload_n hx hb dX2_fillRow_55 rfl (lv_at hl 0 rfl) ?_
        refine lv_iload hx hb dX2_fillRow_56 (lv_at hl 2 rfl) ?_
        refine lv_aload_n hx hb dX2_fillRow_58 rfl (lv_at hl 0 rfl) ?_
        refine lv_iload hx hb dX2_fillRow_59 (lv_at hl 2 rfl) ?_
        obtain ⟨hj_, hf⟩ := ckn_some hf
        obtain ⟨h_, hf⟩ := ck_someM hf
        refine ld_I X hI (has_Co_rw hj_).l h_ dX2_fillRow_61 ?_
        refine lv_iload_n hx hb dX2_fillRow_62 rfl (lv_at hl 1 rfl) ?_
        obtain ⟨r_6, hc_, hf⟩ := bd1_some hf
        refine call_Si X hI Cj.nil (c_J9_floorMod_7cf53 l g (Co_rw co j1 (Int32.toNatClampNeg x4)) x3 r_6 hc_) ⟨rfl, rfl⟩ ⟨ht _ w_1241, w_1243, ht _ w_156, lk_J9_floorMod_7cf53⟩ w_1242 rfl hl rfl rfl dX2_fillRow_63 rfl rfl rfl rfl (fun H locs hI => ?_)
        obtain ⟨hj_, hf⟩ := ckn_some hf
        obtain ⟨h_, hf⟩ := ck_someM hf
        refine st_I X hI (up_Co_rw hj_).l h_ dX2_fillRow_66 (fun H locs hI => ?_)
        generalize hz_ : (Co_rw' co (va_up (Co_rw co) j1 (upd (Co_rw co j1) (Int32.toNatClampNeg x4) r_6))) = co_7 at hI hf
        clear hz_
        replace hf := lt_e hf
        obtain ⟨v_8, e_⟩ : ∃ y : Int32, y = (x4 + (1 : Int32)) := ⟨_, rfl⟩
        replace hf := lt_to e_ hf
        refine lv_iinc (v := v_8) (lv' := [(4, .int v_8), (1, .ref (a_co (5 + j1))), (3, .int x3)]) hx hb dX2_fillRow_67 hl (k := 2) rfl (by rw [e_]; rfl) (by decide) rfl (fun ls hl => ?_)
        clear e_
        refine lv_goto (tgt := 48) hx hb dX2_fillRow_70 (by decide) ?_
        exact ih x3 v_8 co_7 _ _ _ (lv_sub hl [1, 2, 0] rfl) hI hf
  unfold f_X2_fillRow at hf
  refine lv_aload_n hx hb dX2_fillRow_0 rfl (lv_at hl 1 rfl) ?_
  refine lv_iconst (v := 0) hx hb dX2_fillRow_1 (by decide) ?_
  obtain ⟨hj_, hf⟩ := ckn_some hf
  obtain ⟨ra_1, hc_, hf⟩ := bd1_some hf
  refine call_Sv X hI (Cj.up (up_Co_rw hj_).l) (c_J7_fill_53178 l g (fun _ => (a_co (5 + j1))) (Co_rw co j1) 16 (0 : Int32) ra_1 hc_) ⟨rfl, rfl⟩ ⟨ht _ w_1240, w_776, ht _ w_157, lk_J7_fill_53178⟩ w_775 rfl hl rfl rfl dX2_fillRow_2 rfl rfl rfl rfl (fun H locs hI => ?_)
  generalize hz_ : (Co_rw' co (va_up (Co_rw co) j1 ra_1)) = co_2 at hI hf
  clear hz_
  replace hf := lt_e hf
  refine lv_aload_n hx hb dX2_fillRow_5 rfl (lv_at hl 1 rfl) ?_
  refine lv_aload_n hx hb dX2_fillRow_6 rfl (lv_at hl 0 rfl) ?_
  refine g_Co_overArc X hI has_Co.l (X.fl w_644) dX2_fillRow_7 ?_
  refine lv_iload_n hx hb dX2_fillRow_10 rfl (lv_at hl 2 rfl) ?_
  obtain ⟨h_, hf⟩ := ck_someM hf
  refine ld_I X hI has_Co_overArc.l h_ dX2_fillRow_11 ?_
  refine lv_dup2_11 hx hb dX2_fillRow_12 rfl rfl ?_
  obtain ⟨hj_, hf⟩ := ckn_some hf
  obtain ⟨h_, hf⟩ := ck_someM hf
  refine ld_I X hI (has_Co_rw hj_).l h_ dX2_fillRow_13 ?_
  refine lv_iconst (v := 2) hx hb dX2_fillRow_14 (by decide) ?_
  refine lv_iadd hx hb dX2_fillRow_15 ?_
  obtain ⟨hj_, hf⟩ := ckn_some hf
  obtain ⟨h_, hf⟩ := ck_someM hf
  refine st_I X hI (up_Co_rw hj_).l h_ dX2_fillRow_16 (fun H locs hI => ?_)
  generalize hz_ : (Co_rw' co_2 (va_up (Co_rw co_2) j1 (upd (Co_rw co_2 j1) (Int32.toNatClampNeg (Co_overArc co_2 (Int32.toNatClampNeg p2))) ((Co_rw co_2 j1 (Int32.toNatClampNeg (Co_overArc co_2 (Int32.toNatClampNeg p2)))) + (2 : Int32))))) = co_3 at hI hf
  clear hz_
  replace hf := lt_e hf
  refine lv_aload_n hx hb dX2_fillRow_17 rfl (lv_at hl 1 rfl) ?_
  refine lv_aload_n hx hb dX2_fillRow_18 rfl (lv_at hl 0 rfl) ?_
  refine g_Co_arcBefore X hI has_Co.l (X.fl w_645) dX2_fillRow_19 ?_
  refine lv_iload_n hx hb dX2_fillRow_22 rfl (lv_at hl 2 rfl) ?_
  obtain ⟨h_, hf⟩ := ck_someM hf
  refine ld_I X hI has_Co_arcBefore.l h_ dX2_fillRow_23 ?_
  refine lv_dup2_11 hx hb dX2_fillRow_24 rfl rfl ?_
  obtain ⟨hj_, hf⟩ := ckn_some hf
  obtain ⟨h_, hf⟩ := ck_someM hf
  refine ld_I X hI (has_Co_rw hj_).l h_ dX2_fillRow_25 ?_
  refine lv_iload_n hx hb dX2_fillRow_26 rfl (lv_at hl 3 rfl) ?_
  refine lv_iconst (v := 1) hx hb dX2_fillRow_27 (by decide) ?_
  refine lv_isub hx hb dX2_fillRow_28 ?_
  refine lv_iadd hx hb dX2_fillRow_29 ?_
  obtain ⟨hj_, hf⟩ := ckn_some hf
  obtain ⟨h_, hf⟩ := ck_someM hf
  refine st_I X hI (up_Co_rw hj_).l h_ dX2_fillRow_30 (fun H locs hI => ?_)
  generalize hz_ : (Co_rw' co_3 (va_up (Co_rw co_3) j1 (upd (Co_rw co_3 j1) (Int32.toNatClampNeg (Co_arcBefore co_3 (Int32.toNatClampNeg p2))) ((Co_rw co_3 j1 (Int32.toNatClampNeg (Co_arcBefore co_3 (Int32.toNatClampNeg p2)))) + (p3 - (1 : Int32)))))) = co_4 at hI hf
  clear hz_
  replace hf := lt_e hf
  refine lv_aload_n hx hb dX2_fillRow_31 rfl (lv_at hl 1 rfl) ?_
  refine lv_aload_n hx hb dX2_fillRow_32 rfl (lv_at hl 0 rfl) ?_
  refine g_Co_arcBehind X hI has_Co.l (X.fl w_646) dX2_fillRow_33 ?_
  refine lv_iload_n hx hb dX2_fillRow_36 rfl (lv_at hl 2 rfl) ?_
  obtain ⟨h_, hf⟩ := ck_someM hf
  refine ld_I X hI has_Co_arcBehind.l h_ dX2_fillRow_37 ?_
  refine lv_dup2_11 hx hb dX2_fillRow_38 rfl rfl ?_
  obtain ⟨hj_, hf⟩ := ckn_some hf
  obtain ⟨h_, hf⟩ := ck_someM hf
  refine ld_I X hI (has_Co_rw hj_).l h_ dX2_fillRow_39 ?_
  refine lv_iload_n hx hb dX2_fillRow_40 rfl (lv_at hl 3 rfl) ?_
  refine lv_iconst (v := 1) hx hb dX2_fillRow_41 (by decide) ?_
  refine lv_isub hx hb dX2_fillRow_42 ?_
  refine lv_iadd hx hb dX2_fillRow_43 ?_
  obtain ⟨hj_, hf⟩ := ckn_some hf
  obtain ⟨h_, hf⟩ := ck_someM hf
  refine st_I X hI (up_Co_rw hj_).l h_ dX2_fillRow_44 (fun H locs hI => ?_)
  generalize hz_ : (Co_rw' co_4 (va_up (Co_rw co_4) j1 (upd (Co_rw co_4 j1) (Int32.toNatClampNeg (Co_arcBehind co_4 (Int32.toNatClampNeg p2))) ((Co_rw co_4 j1 (Int32.toNatClampNeg (Co_arcBehind co_4 (Int32.toNatClampNeg p2)))) + (p3 - (1 : Int32)))))) = co_5 at hI hf
  clear hz_
  replace hf := lt_e hf
  refine lv_iconst (v := 0) hx hb dX2_fillRow_45 (by decide) ?_
  refine lv_istore (lv' := [(4, .int (0 : Int32)), (0, .ref (a_co 0)), (1, .ref (a_co (5 + j1))), (2, .int p2), (3, .int p3)]) hx hb dX2_fillRow_46 hl (by decide) rfl (fun ls hl => ?_)
  exact L_48 FU p3 (0 : Int32) co_5 _ _ _ (lv_sub hl [2, 4, 0] rfl) hI hf
abbrev rm_X2_bringsUp : Room := { frames := 0, cells := 0, slots := 0, locals := 0 }
set_option maxRecDepth 20000 in
theorem c_X2_bringsUp (l : Launch) (g : GT) (a_co : Nat → Nat) (co : CoS) (p1 : Int32) (p2 : Int32) (p3 : Int32) (r_ : Int32) (o_co : CoS) (hf : f_X2_bringsUp co p1 p2 p3 = some (r_, o_co)) : CI l yX2_bringsUp cX2_bringsUp 6 (some .boolean) rm_X2_bringsUp g [.ref (a_co 0), .int p1, .int p2, .int p3] (wCo g a_co co ++ []) (wCo g a_co o_co ++ []) r_ := by
  refine start2 (y := yX2_bringsUp) (cc := cX2_bringsUp) (n := 6) (av := [.ref (a_co 0), .int p1, .int p2, .int p3]) (ws := (wCo g a_co co ++ [])) (Qc := fun sz => QI g (wCo g a_co co ++ []) (wCo g a_co o_co ++ []) r_ sz) (by decide) rfl ?_
  intro p e s m args below meth c ls Q A ha hQ hA X hl hI hin
  have X : Cx p s m args meth c cX2_bringsUp 6 RX2 (some .boolean) := X
  have hl : lv_has ls 6 [(0, .ref (a_co 0)), (1, .int p1), (2, .int p2), (3, .int p3)] := hl
  obtain ⟨hx, hb, hml, hown, ht, hr, hlk⟩ := id X
  clear ha hin
  have L_3 : ∀ (n_ : Nat) (x1 : Int32) (x2 : Int32) (x3 : Int32) (x4 : Int32) (co : CoS) (H : Heap) (locs : List Loc) (ls : Array Slot), lv_has ls 6 [(0, .ref (a_co 0)), (1, .int x1), (2, .int x2), (3, .int x3), (4, .int x4)] → In g A s.heap s (wCo g a_co co ++ []) H locs → f_X2_bringsUp_L3 n_ x1 x2 x3 x4 co = some (r_, o_co) → W p l e rm_X2_bringsUp s m args below meth c H locs 0 0 Q (F0 m 3 ls []) := by
    intro n_
    induction n_ with
    | zero =>
      intro x1 x2 x3 x4 co H locs ls hl hI hf
      rw [f_X2_bringsUp_L3] at hf
      cases hf
    | succ n_ ih =>
      intro x1 x2 x3 x4 co H locs ls hl hI hf
      rw [f_X2_bringsUp_L3] at hf
      refine lv_iload hx hb dX2_bringsUp_3 (lv_at hl 4 rfl) ?_
      refine lv_iload_n hx hb dX2_bringsUp_5 rfl (lv_at hl 2 rfl) ?_
      refine lv_icmp_ge (tgt := 59) hx hb dX2_bringsUp_6 (by decide) (fun h_ => ?_) (fun h_ => ?_)
      · replace hf := if_t h_ hf
        refine lv_iconst (v := 0) hx hb dX2_bringsUp_59 (by decide) ?_
        cases hf
        exact end_z hQ hA X hI rfl dX2_bringsUp_60
      · replace hf := if_f h_ hf
        refine lv_aload_n hx hb dX2_bringsUp_9 rfl (lv_at hl 0 rfl) ?_
        refine g_Co_rows X hI has_Co.l (X.fl w_647) dX2_bringsUp_10 ?_
        refine lv_iload hx hb dX2_bringsUp_13 (lv_at hl 4 rfl) ?_
        obtain ⟨h_, hf⟩ := ck_someM hf
        refine ld_W X hI has_Co_rows.l h_ dX2_bringsUp_15 ?_
        refine lv_iload_n hx hb dX2_bringsUp_16 rfl (lv_at hl 3 rfl) ?_
        obtain ⟨hj_, hf⟩ := ckn_some hf
        obtain ⟨h_, hf⟩ := ck_someM hf
        refine ld_I X hI (has_Co_rw hj_).l h_ dX2_bringsUp_17 ?_
        refine lv_if_eq (tgt := 53) hx hb dX2_bringsUp_18 (by decide) (fun h_ => ?_) (fun h_ => ?_)
        · replace hf := if_t h_ hf
          obtain ⟨v_1, e_⟩ : ∃ y : Int32, y = (x4 + (1 : Int32)) := ⟨_, rfl⟩
          replace hf := lt_to e_ hf
          refine lv_iinc (v := v_1) (lv' := [(4, .int v_1), (0, .ref (a_co 0)), (1, .int x1), (2, .int x2), (3, .int x3)]) hx hb dX2_bringsUp_53 hl (k := 4) rfl (by rw [e_]; rfl) (by decide) rfl (fun ls hl => ?_)
          clear e_
          refine lv_goto (tgt := 3) hx hb dX2_bringsUp_56 (by decide) ?_
          exact ih x1 x2 x3 v_1 co _ _ _ (lv_sub hl [1, 2, 3, 4, 0] rfl) hI hf
        · replace hf := if_f h_ hf
          refine lv_aload_n hx hb dX2_bringsUp_21 rfl (lv_at hl 0 rfl) ?_
          refine g_Co_rows X hI has_Co.l (X.fl w_647) dX2_bringsUp_22 ?_
          refine lv_iload hx hb dX2_bringsUp_25 (lv_at hl 4 rfl) ?_
          obtain ⟨h_, hf⟩ := ck_someM hf
          refine ld_W X hI has_Co_rows.l h_ dX2_bringsUp_27 ?_
          refine lv_astore (lv' := [(5, .ref (a_co (5 + (Co_pi co (Int32.toNatClampNeg x4))))), (0, .ref (a_co 0)), (1, .int x1), (2, .int x2), (3, .int x3), (4, .int x4)]) hx hb dX2_bringsUp_28 hl (by decide) rfl (fun ls hl => ?_)
          refine lv_aload_n hx hb dX2_bringsUp_30 rfl (lv_at hl 1 rfl) ?_
          refine g_Co_rows X hI has_Co.l (X.fl w_647) dX2_bringsUp_31 ?_
          refine lv_iload hx hb dX2_bringsUp_34 (lv_at hl 5 rfl) ?_
          refine lv_aload_n hx hb dX2_bringsUp_36 rfl (lv_at hl 1 rfl) ?_
          refine g_Co_rows X hI has_Co.l (X.fl w_647) dX2_bringsUp_37 ?_
          refine lv_iload_n hx hb dX2_bringsUp_40 rfl (lv_at hl 2 rfl) ?_
          obtain ⟨h_, hf⟩ := ck_someM hf
          refine ld_W X hI has_Co_rows.l h_ dX2_bringsUp_41 ?_
          obtain ⟨hj_, hf⟩ := ckn_some hf
          obtain ⟨h_, hf⟩ := ck_someM hf
          refine st_W X hI up_Co_pi.l (has_Co_rw hj_).l h_ dX2_bringsUp_42 (fun H locs hI => ?_)
          generalize hz_ : (Co_pi' co (va_up (Co_pi co) (Int32.toNatClampNeg x4) (Co_pi co (Int32.toNatClampNeg x1)))) = co_2 at hI hf
          clear hz_
          replace hf := lt_e hf
          refine lv_aload_n hx hb dX2_bringsUp_43 rfl (lv_at hl 1 rfl) ?_
          refine g_Co_rows X hI has_Co.l (X.fl w_647) dX2_bringsUp_44 ?_
          refine lv_iload_n hx hb dX2_bringsUp_47 rfl (lv_at hl 2 rfl) ?_
          refine lv_aload hx hb dX2_bringsUp_48 (lv_at hl 0 rfl) ?_
          obtain ⟨hj_, hf⟩ := ckn_some hf
          obtain ⟨h_, hf⟩ := ck_someM hf
          refine st_W X hI up_Co_pi.l (has_Co_rw hj_).l h_ dX2_bringsUp_50 (fun H locs hI => ?_)
          generalize hz_ : (Co_pi' co_2 (va_up (Co_pi co_2) (Int32.toNatClampNeg x1) (Co_pi co (Int32.toNatClampNeg x4)))) = co_3 at hI hf
          clear hz_
          replace hf := lt_e hf
          refine lv_iconst (v := 1) hx hb dX2_bringsUp_51 (by decide) ?_
          cases hf
          exact end_z hQ hA X hI rfl dX2_bringsUp_52
  unfold f_X2_bringsUp at hf
  refine lv_iload_n hx hb dX2_bringsUp_0 rfl (lv_at hl 1 rfl) ?_
  refine lv_istore (lv' := [(4, .int p1), (0, .ref (a_co 0)), (1, .int p1), (2, .int p2), (3, .int p3)]) hx hb dX2_bringsUp_1 hl (by decide) rfl (fun ls hl => ?_)
  exact L_3 FU p1 p2 p3 p1 co _ _ _ (lv_sub hl [1, 2, 3, 4, 0] rfl) hI hf
abbrev rm_X2_clearColumn : Room := { frames := 1, cells := 0, slots := 0, locals := 22 }
set_option maxRecDepth 20000 in
theorem c_X2_clearColumn (l : Launch) (g : GT) (a_co : Nat → Nat) (co : CoS) (j1 : Nat) (j2 : Nat) (p2 : Int32) (p3 : Int32) (o_co : CoS) (hf : f_X2_clearColumn co j1 j2 p2 p3 = some (o_co)) : CV l yX2_clearColumn cX2_clearColumn 7 none rm_X2_clearColumn g [.ref (a_co (5 + j1)), .ref (a_co (5 + j2)), .int p2, .int p3] (wCo g a_co co ++ []) (wCo g a_co o_co ++ []) := by
  refine start2 (y := yX2_clearColumn) (cc := cX2_clearColumn) (n := 7) (av := [.ref (a_co (5 + j1)), .ref (a_co (5 + j2)), .int p2, .int p3]) (ws := (wCo g a_co co ++ [])) (Qc := fun sz => QV g (wCo g a_co co ++ []) (wCo g a_co o_co ++ []) sz) (by decide) rfl ?_
  intro p e s m args below meth c ls Q A ha hQ hA X hl hI hin
  have X : Cx p s m args meth c cX2_clearColumn 7 RX2 none := X
  have hl : lv_has ls 7 [(0, .ref (a_co (5 + j1))), (1, .ref (a_co (5 + j2))), (2, .int p2), (3, .int p3)] := hl
  obtain ⟨hx, hb, hml, hown, ht, hr, hlk⟩ := id X
  clear ha hin
  have L_13 : ∀ (n_ : Nat) (x3 : Int32) (x4 : Int32) (x5 : Int32) (x6 : Int32) (co : CoS) (H : Heap) (locs : List Loc) (ls : Array Slot), lv_has ls 7 [(0, .ref (a_co (5 + j1))), (1, .ref (a_co (5 + j2))), (3, .int x3), (4, .int x4), (5, .int x5), (6, .int x6)] → In g A s.heap s (wCo g a_co co ++ []) H locs → f_X2_clearColumn_L13 n_ x3 x4 x5 x6 co j1 j2 = some (o_co) → W p l e rm_X2_clearColumn s m args below meth c H locs 0 0 Q (F0 m 13 ls []) := by
    intro n_
    induction n_ with
    | zero =>
      intro x3 x4 x5 x6 co H locs ls hl hI hf
      rw [f_X2_clearColumn_L13] at hf
      cases hf
    | succ n_ ih =>
      intro x3 x4 x5 x6 co H locs ls hl hI hf
      rw [f_X2_clearColumn_L13] at hf
      refine lv_iload hx hb dX2_clearColumn_13 (lv_at hl 3 rfl) ?_
      refine lv_if_eq (tgt := 61) hx hb dX2_clearColumn_15 (by decide) (fun h_ => ?_) (fun h_ => ?_)
      · replace hf := if_t h_ hf
        cases hf
        exact end_v hQ hA X hI dX2_clearColumn_61
      · replace hf := if_f h_ hf
        refine lv_iload hx hb dX2_clearColumn_18 (lv_at hl 5 rfl) ?_
        refine lv_aload_n hx hb dX2_clearColumn_20 rfl (lv_at hl 0 rfl) ?_
        obtain ⟨hj_, hf⟩ := ckn_some hf
        refine al_n (t0 := 0) (v := 16) 0 X hI (has_Co_rw hj_).l rfl (by decide) dX2_clearColumn_21 ?_
        refine lv_icmp_ge (tgt := 61) hx hb dX2_clearColumn_22 (by decide) (fun h_ => ?_) (fun h_ => ?_)
        · replace hf := if_t h_ hf
          cases hf
          exact end_v hQ hA X hI dX2_clearColumn_61
        · replace hf := if_f h_ hf
          refine lv_iload hx hb dX2_clearColumn_25 (lv_at hl 5 rfl) ?_
          refine lv_aload_n hx hb dX2_clearColumn_27 rfl (lv_at hl 1 rfl) ?_
          obtain ⟨hj_, hf⟩ := ckn_some hf
          refine al_n (t0 := 0) (v := 16) 0 X hI (has_Co_rw hj_).l rfl (by decide) dX2_clearColumn_28 ?_
          refine lv_icmp_ge (tgt := 61) hx hb dX2_clearColumn_29 (by decide) (fun h_ => ?_) (fun h_ => ?_)
          · replace hf := if_t h_ hf
            cases hf
            exact end_v hQ hA X hI dX2_clearColumn_61
          · replace hf := if_f h_ hf
            refine lv_aload_n hx hb dX2_clearColumn_32 rfl (lv_at hl 0 rfl) ?_
            refine lv_iload hx hb dX2_clearColumn_33 (lv_at hl 5 rfl) ?_
            refine lv_aload_n hx hb dX2_clearColumn_35 rfl (lv_at hl 0 rfl) ?_
            refine lv_iload hx hb dX2_clearColumn_36 (lv_at hl 5 rfl) ?_
            obtain ⟨hj_, hf⟩ := ckn_some hf
            obtain ⟨h_, hf⟩ := ck_someM hf
            refine ld_I X hI (has_Co_rw hj_).l h_ dX2_clearColumn_38 ?_
            refine lv_iload hx hb dX2_clearColumn_39 (lv_at hl 4 rfl) ?_
            refine lv_imul hx hb dX2_clearColumn_41 ?_
            refine lv_aload_n hx hb dX2_clearColumn_42 rfl (lv_at hl 1 rfl) ?_
            refine lv_iload hx hb dX2_clearColumn_43 (lv_at hl 5 rfl) ?_
            obtain ⟨hj_, hf⟩ := ckn_some hf
            obtain ⟨h_, hf⟩ := ck_someM hf
            refine ld_I X hI (has_Co_rw hj_).l h_ dX2_clearColumn_45 ?_
            refine lv_iload hx hb dX2_clearColumn_46 (lv_at hl 3 rfl) ?_
            refine lv_imul hx hb dX2_clearColumn_48 ?_
            refine lv_isub hx hb dX2_clearColumn_49 ?_
            refine lv_iload_n hx hb dX2_clearColumn_50 rfl (lv_at hl 2 rfl) ?_
            obtain ⟨r_3, hc_, hf⟩ := bd1_some hf
            refine call_Si X hI Cj.nil (c_J9_floorMod_7cf53 l g (((Co_rw co j1 (Int32.toNatClampNeg x6)) * x5) - ((Co_rw co j2 (Int32.toNatClampNeg x6)) * x4)) x3 r_3 hc_) ⟨rfl, rfl⟩ ⟨ht _ w_1241, w_1243, ht _ w_156, lk_J9_floorMod_7cf53⟩ w_1242 rfl hl rfl rfl dX2_clearColumn_51 rfl rfl rfl rfl (fun H locs hI => ?_)
            obtain ⟨hj_, hf⟩ := ckn_some hf
            obtain ⟨h_, hf⟩ := ck_someM hf
            refine st_I X hI (up_Co_rw hj_).l h_ dX2_clearColumn_54 (fun H locs hI => ?_)
            generalize hz_ : (Co_rw' co (va_up (Co_rw co) j1 (upd (Co_rw co j1) (Int32.toNatClampNeg x6) r_3))) = co_4 at hI hf
            clear hz_
            replace hf := lt_e hf
            obtain ⟨v_5, e_⟩ : ∃ y : Int32, y = (x6 + (1 : Int32)) := ⟨_, rfl⟩
            replace hf := lt_to e_ hf
            refine lv_iinc (v := v_5) (lv' := [(6, .int v_5), (0, .ref (a_co (5 + j1))), (1, .ref (a_co (5 + j2))), (3, .int x3), (4, .int x4), (5, .int x5)]) hx hb dX2_clearColumn_55 hl (k := 5) rfl (by rw [e_]; rfl) (by decide) rfl (fun ls hl => ?_)
            clear e_
            refine lv_goto (tgt := 13) hx hb dX2_clearColumn_58 (by decide) ?_
            exact ih x3 x4 x5 v_5 co_4 _ _ _ (lv_sub hl [1, 2, 3, 4, 5, 0] rfl) hI hf
  unfold f_X2_clearColumn at hf
  refine lv_aload_n hx hb dX2_clearColumn_0 rfl (lv_at hl 0 rfl) ?_
  refine lv_iload_n hx hb dX2_clearColumn_1 rfl (lv_at hl 2 rfl) ?_
  obtain ⟨hj_, hf⟩ := ckn_some hf
  obtain ⟨h_, hf⟩ := ck_someM hf
  refine ld_I X hI (has_Co_rw hj_).l h_ dX2_clearColumn_2 ?_
  refine lv_topi (fun v_1 e_ => ?_)
  replace hf := lt_to e_ hf
  clear e_
  refine lv_istore (lv' := [(4, .int v_1), (0, .ref (a_co (5 + j1))), (1, .ref (a_co (5 + j2))), (2, .int p2), (3, .int p3)]) hx hb dX2_clearColumn_3 hl (by decide) rfl (fun ls hl => ?_)
  refine lv_aload_n hx hb dX2_clearColumn_5 rfl (lv_at hl 2 rfl) ?_
  refine lv_iload_n hx hb dX2_clearColumn_6 rfl (lv_at hl 3 rfl) ?_
  obtain ⟨hj_, hf⟩ := ckn_some hf
  obtain ⟨h_, hf⟩ := ck_someM hf
  refine ld_I X hI (has_Co_rw hj_).l h_ dX2_clearColumn_7 ?_
  refine lv_topi (fun v_2 e_ => ?_)
  replace hf := lt_to e_ hf
  clear e_
  refine lv_istore (lv' := [(5, .int v_2), (4, .int v_1), (0, .ref (a_co (5 + j1))), (1, .ref (a_co (5 + j2))), (2, .int p2), (3, .int p3)]) hx hb dX2_clearColumn_8 hl (by decide) rfl (fun ls hl => ?_)
  refine lv_iconst (v := 0) hx hb dX2_clearColumn_10 (by decide) ?_
  refine lv_istore (lv' := [(6, .int (0 : Int32)), (5, .int v_2), (4, .int v_1), (0, .ref (a_co (5 + j1))), (1, .ref (a_co (5 + j2))), (2, .int p2), (3, .int p3)]) hx hb dX2_clearColumn_11 hl (by decide) rfl (fun ls hl => ?_)
  exact L_13 FU p3 v_1 v_2 (0 : Int32) co _ _ _ (lv_sub hl [3, 4, 6, 2, 1, 0] rfl) hI hf
abbrev rm_X2_rank : Room := { frames := 2, cells := 0, slots := 0, locals := 48 }
set_option maxRecDepth 20000 in
theorem c_X2_rank (l : Launch) (g : GT) (a_co : Nat → Nat) (co : CoS) (p1 : Int32) (p2 : Int32) (r_ : Int32) (o_co : CoS) (hf : f_X2_rank co p1 p2 = some (r_, o_co)) : CI l yX2_rank cX2_rank 6 (some .int) rm_X2_rank g [.ref (a_co 0), .int p1, .int p2] (wCo g a_co co ++ []) (wCo g a_co o_co ++ []) r_ := by
  refine start2 (y := yX2_rank) (cc := cX2_rank) (n := 6) (av := [.ref (a_co 0), .int p1, .int p2]) (ws := (wCo g a_co co ++ [])) (Qc := fun sz => QI g (wCo g a_co co ++ []) (wCo g a_co o_co ++ []) r_ sz) (by decide) rfl ?_
  intro p e s m args below meth c ls Q A ha hQ hA X hl hI hin
  have X : Cx p s m args meth c cX2_rank 6 RX2 (some .int) := X
  have hl : lv_has ls 6 [(0, .ref (a_co 0)), (1, .int p1), (2, .int p2)] := hl
  obtain ⟨hx, hb, hml, hown, ht, hr, hlk⟩ := id X
  clear ha hin
  have L_71 : ∀ (x1 : Int32) (x2 : Int32) (x3 : Int32) (x4 : Int32) (co : CoS) (k5 : (Int32) → (Int32) → (Int32) → (Int32) → (CoS) → Option (Int32 × (CoS))) (H : Heap) (locs : List Loc) (ls : Array Slot), lv_has ls 6 [(0, .ref (a_co 0)), (1, .int x1), (2, .int x2), (3, .int x3), (4, .int x4)] → In g A s.heap s (wCo g a_co co ++ []) H locs → f_X2_rank_L71 x1 x2 x3 x4 co k5 = some (r_, o_co) → (∀ (x1 : Int32) (x2 : Int32) (x3 : Int32) (x4 : Int32) (co : CoS) (H : Heap) (locs : List Loc) (ls : Array Slot), lv_has ls 6 [(0, .ref (a_co 0)), (1, .int x1), (2, .int x2), (3, .int x3), (4, .int x4)] → In g A s.heap s (wCo g a_co co ++ []) H locs → k5 x1 x2 x3 x4 co = some (r_, o_co) → W p l e rm_X2_rank s m args below meth c H locs 0 0 Q (F0 m 5 ls [])) → W p l e rm_X2_rank s m args below meth c H locs 0 0 Q (F0 m 71 ls []) := by
    intro x1 x2 x3 x4 co k5 H locs ls hl hI hf hk5
    unfold f_X2_rank_L71 at hf
    obtain ⟨v_4, e_⟩ : ∃ y : Int32, y = (x4 + (1 : Int32)) := ⟨_, rfl⟩
    replace hf := lt_to e_ hf
    refine lv_iinc (v := v_4) (lv' := [(4, .int v_4), (0, .ref (a_co 0)), (1, .int x1), (2, .int x2), (3, .int x3)]) hx hb dX2_rank_71 hl (k := 4) rfl (by rw [e_]; rfl) (by decide) rfl (fun ls hl => ?_)
    clear e_
    refine lv_goto (tgt := 5) hx hb dX2_rank_74 (by decide) ?_
    exact hk5 x1 x2 x3 v_4 co _ _ _ (lv_sub hl [1, 2, 3, 4, 0] rfl) hI hf
  have L_37 : ∀ (n_ : Nat) (x1 : Int32) (x2 : Int32) (x3 : Int32) (x4 : Int32) (x5 : Int32) (co : CoS) (k5 : (Int32) → (Int32) → (Int32) → (Int32) → (CoS) → Option (Int32 × (CoS))) (H : Heap) (locs : List Loc) (ls : Array Slot), lv_has ls 6 [(0, .ref (a_co 0)), (1, .int x1), (2, .int x2), (3, .int x3), (4, .int x4), (5, .int x5)] → In g A s.heap s (wCo g a_co co ++ []) H locs → f_X2_rank_L37 n_ x1 x2 x3 x4 x5 co k5 = some (r_, o_co) → (∀ (x1 : Int32) (x2 : Int32) (x3 : Int32) (x4 : Int32) (co : CoS) (H : Heap) (locs : List Loc) (ls : Array Slot), lv_has ls 6 [(0, .ref (a_co 0)), (1, .int x1), (2, .int x2), (3, .int x3), (4, .int x4)] → In g A s.heap s (wCo g a_co co ++ []) H locs → k5 x1 x2 x3 x4 co = some (r_, o_co) → W p l e rm_X2_rank s m args below meth c H locs 0 0 Q (F0 m 5 ls [])) → W p l e rm_X2_rank s m args below meth c H locs 0 0 Q (F0 m 37 ls []) := by
    intro n_
    induction n_ with
    | zero =>
      intro x1 x2 x3 x4 x5 co k5 H locs ls hl hI hf hk5
      rw [f_X2_rank_L37] at hf
      cases hf
    | succ n_ ih =>
      intro x1 x2 x3 x4 x5 co k5 H locs ls hl hI hf hk5
      rw [f_X2_rank_L37] at hf
      refine lv_iload hx hb dX2_rank_37 (lv_at hl 5 rfl) ?_
      refine lv_iload_n hx hb dX2_rank_39 rfl (lv_at hl 1 rfl) ?_
      refine lv_icmp_ge (tgt := 68) hx hb dX2_rank_40 (by decide) (fun h_ => ?_) (fun h_ => ?_)
      · replace hf := if_t h_ hf
        obtain ⟨v_5, e_⟩ : ∃ y : Int32, y = (x3 + (1 : Int32)) := ⟨_, rfl⟩
        replace hf := lt_to e_ hf
        refine lv_iinc (v := v_5) (lv' := [(3, .int v_5), (0, .ref (a_co 0)), (1, .int x1), (2, .int x2), (4, .int x4), (5, .int x5)]) hx hb dX2_rank_68 hl (k := 3) rfl (by rw [e_]; rfl) (by decide) rfl (fun ls hl => ?_)
        clear e_
        exact L_71 x1 x2 v_5 x4 co _ _ _ _ (lv_sub hl [1, 2, 3, 0, 4] rfl) hI hf hk5
      · replace hf := if_f h_ hf
        refine lv_aload_n hx hb dX2_rank_43 rfl (lv_at hl 0 rfl) ?_
        refine g_Co_rows X hI has_Co.l (X.fl w_647) dX2_rank_44 ?_
        refine lv_iload hx hb dX2_rank_47 (lv_at hl 5 rfl) ?_
        obtain ⟨h_, hf⟩ := ck_someM hf
        refine ld_W X hI has_Co_rows.l h_ dX2_rank_49 ?_
        refine lv_aload_n hx hb dX2_rank_50 rfl (lv_at hl 0 rfl) ?_
        refine g_Co_rows X hI has_Co.l (X.fl w_647) dX2_rank_51 ?_
        refine lv_iload_n hx hb dX2_rank_54 rfl (lv_at hl 3 rfl) ?_
        obtain ⟨h_, hf⟩ := ck_someM hf
        refine ld_W X hI has_Co_rows.l h_ dX2_rank_55 ?_
        refine lv_iload hx hb dX2_rank_56 (lv_at hl 4 rfl) ?_
        refine lv_iload_n hx hb dX2_rank_58 rfl (lv_at hl 2 rfl) ?_
        obtain ⟨co_6, hc_, hf⟩ := bd1_some hf
        refine call_Sv X hI (Cj.keep Cj.id) (c_X2_clearColumn l g a_co co (Co_pi co (Int32.toNatClampNeg x5)) (Co_pi co (Int32.toNatClampNeg x3)) x4 x2 co_6 hc_) ⟨rfl, rfl⟩ ⟨ht _ w_1252, w_1254, ht _ w_153, lk_X2_clearColumn⟩ w_1253 rfl hl rfl rfl dX2_rank_59 rfl rfl rfl rfl (fun H locs hI => ?_)
        obtain ⟨v_7, e_⟩ : ∃ y : Int32, y = (x5 + (1 : Int32)) := ⟨_, rfl⟩
        replace hf := lt_to e_ hf
        refine lv_iinc (v := v_7) (lv' := [(5, .int v_7), (0, .ref (a_co 0)), (1, .int x1), (2, .int x2), (3, .int x3), (4, .int x4)]) hx hb dX2_rank_62 hl (k := 5) rfl (by rw [e_]; rfl) (by decide) rfl (fun ls hl => ?_)
        clear e_
        refine lv_goto (tgt := 37) hx hb dX2_rank_65 (by decide) ?_
        exact ih x1 x2 x3 x4 v_7 co_6 k5 _ _ _ (lv_sub hl [1, 2, 3, 4, 5, 0] rfl) hI hf hk5
  have L_5 : ∀ (n_ : Nat) (x1 : Int32) (x2 : Int32) (x3 : Int32) (x4 : Int32) (co : CoS) (H : Heap) (locs : List Loc) (ls : Array Slot), lv_has ls 6 [(0, .ref (a_co 0)), (1, .int x1), (2, .int x2), (3, .int x3), (4, .int x4)] → In g A s.heap s (wCo g a_co co ++ []) H locs → f_X2_rank_L5 n_ x1 x2 x3 x4 co = some (r_, o_co) → W p l e rm_X2_rank s m args below meth c H locs 0 0 Q (F0 m 5 ls []) := by
    intro n_
    induction n_ with
    | zero =>
      intro x1 x2 x3 x4 co H locs ls hl hI hf
      rw [f_X2_rank_L5] at hf
      cases hf
    | succ n_ ih =>
      intro x1 x2 x3 x4 co H locs ls hl hI hf
      rw [f_X2_rank_L5] at hf
      refine lv_iload hx hb dX2_rank_5 (lv_at hl 4 rfl) ?_
      refine lv_aload_n hx hb dX2_rank_7 rfl (lv_at hl 0 rfl) ?_
      refine g_Co_arcs X hI has_Co.l (X.fl w_648) dX2_rank_8 ?_
      refine lv_icmp_ge (tgt := 77) hx hb dX2_rank_11 (by decide) (fun h_ => ?_) (fun h_ => ?_)
      · replace hf := if_t h_ hf
        refine lv_iload_n hx hb dX2_rank_77 rfl (lv_at hl 3 rfl) ?_
        cases hf
        exact end_i hQ hA X hI dX2_rank_78
      · replace hf := if_f h_ hf
        refine lv_iload hx hb dX2_rank_14 (lv_at hl 4 rfl) ?_
        refine lv_bipush (v := 16) hx hb dX2_rank_16 (by decide) ?_
        refine lv_icmp_ge (tgt := 77) hx hb dX2_rank_18 (by decide) (fun h_ => ?_) (fun h_ => ?_)
        · replace hf := if_t h_ hf
          refine lv_iload_n hx hb dX2_rank_77 rfl (lv_at hl 3 rfl) ?_
          cases hf
          exact end_i hQ hA X hI dX2_rank_78
        · replace hf := if_f h_ hf
          refine lv_aload_n hx hb dX2_rank_21 rfl (lv_at hl 0 rfl) ?_
          refine lv_iload_n hx hb dX2_rank_22 rfl (lv_at hl 3 rfl) ?_
          refine lv_iload_n hx hb dX2_rank_23 rfl (lv_at hl 1 rfl) ?_
          refine lv_iload hx hb dX2_rank_24 (lv_at hl 4 rfl) ?_
          obtain ⟨r_1, co_2, hc_, hf⟩ := bd2_some hf
          refine call_Vi X hI (Cj.keep Cj.id) (c_X2_bringsUp l g a_co co x3 x1 x4 r_1 co_2 hc_) ⟨rfl, rfl⟩ ⟨ht _ w_1248, w_1251, ht _ w_153, lk_X2_bringsUp⟩ w_1250 w_56 rfl rfl rfl hl rfl rfl dX2_rank_26 rfl rfl rfl rfl (fun H locs hI => ?_)
          refine lv_if_eq (tgt := 71) hx hb dX2_rank_29 (by decide) (fun h_ => ?_) (fun h_ => ?_)
          · replace hf := if_t h_ hf
            exact L_71 x1 x2 x3 x4 co_2 _ _ _ _ hl hI hf (fun z_0 z_1 z_2 z_3 z_4 _ _ _ hl hI hf => ih z_0 z_1 z_2 z_3 z_4 _ _ _ hl hI hf)
          · replace hf := if_f h_ hf
            refine lv_iload_n hx hb dX2_rank_32 rfl (lv_at hl 3 rfl) ?_
            refine lv_iconst (v := 1) hx hb dX2_rank_33 (by decide) ?_
            refine lv_iadd hx hb dX2_rank_34 ?_
            refine lv_topi (fun v_3 e_ => ?_)
            replace hf := lt_to e_ hf
            clear e_
            refine lv_istore (lv' := [(5, .int v_3), (0, .ref (a_co 0)), (1, .int x1), (2, .int x2), (3, .int x3), (4, .int x4)]) hx hb dX2_rank_35 hl (by decide) rfl (fun ls hl => ?_)
            exact L_37 FU x1 x2 x3 x4 v_3 co_2 _ _ _ _ (lv_sub hl [1, 2, 3, 4, 5, 0] rfl) hI hf (fun z_0 z_1 z_2 z_3 z_4 _ _ _ hl hI hf => ih z_0 z_1 z_2 z_3 z_4 _ _ _ hl hI hf)
  unfold f_X2_rank at hf
  refine lv_iconst (v := 0) hx hb dX2_rank_0 (by decide) ?_
  refine lv_istore_n (lv' := [(3, .int (0 : Int32)), (0, .ref (a_co 0)), (1, .int p1), (2, .int p2)]) hx hb dX2_rank_1 rfl hl (by decide) rfl (fun ls hl => ?_)
  refine lv_iconst (v := 0) hx hb dX2_rank_2 (by decide) ?_
  refine lv_istore (lv' := [(4, .int (0 : Int32)), (3, .int (0 : Int32)), (0, .ref (a_co 0)), (1, .int p1), (2, .int p2)]) hx hb dX2_rank_3 hl (by decide) rfl (fun ls hl => ?_)
  exact L_5 FU p1 p2 (0 : Int32) (0 : Int32) co _ _ _ (lv_sub hl [2, 3, 4, 1, 0] rfl) hI hf
abbrev rm_X2_freeColours : Room := { frames := 3, cells := 0, slots := 0, locals := 74 }
set_option maxRecDepth 20000 in
theorem c_X2_freeColours (l : Launch) (g : GT) (a_co : Nat → Nat) (a_bo : Nat → Nat) (a_ri : Nat → Nat) (co : CoS) (bo : BoS) (ri : RiS) (p2 : Int32) (p3 : Int32) (r_ : Int32) (o_co : CoS) (hf : f_X2_freeColours co bo ri p2 p3 = some (r_, o_co)) : CI l yX2_freeColours cX2_freeColours 6 (some .int) rm_X2_freeColours g [.ref (a_co 0), .ref (a_bo 0), .int p2, .int p3] (wCo g a_co co ++ (wBo g a_bo (a_ri 0) bo ++ (wRi g a_ri ri ++ []))) (wCo g a_co o_co ++ (wBo g a_bo (a_ri 0) bo ++ (wRi g a_ri ri ++ []))) r_ := by
  refine start2 (y := yX2_freeColours) (cc := cX2_freeColours) (n := 6) (av := [.ref (a_co 0), .ref (a_bo 0), .int p2, .int p3]) (ws := (wCo g a_co co ++ (wBo g a_bo (a_ri 0) bo ++ (wRi g a_ri ri ++ [])))) (Qc := fun sz => QI g (wCo g a_co co ++ (wBo g a_bo (a_ri 0) bo ++ (wRi g a_ri ri ++ []))) (wCo g a_co o_co ++ (wBo g a_bo (a_ri 0) bo ++ (wRi g a_ri ri ++ []))) r_ sz) (by decide) rfl ?_
  intro p e s m args below meth c ls Q A ha hQ hA X hl hI hin
  have X : Cx p s m args meth c cX2_freeColours 6 RX2 (some .int) := X
  have hl : lv_has ls 6 [(0, .ref (a_co 0)), (1, .ref (a_bo 0)), (2, .int p2), (3, .int p3)] := hl
  obtain ⟨hx, hb, hml, hown, ht, hr, hlk⟩ := id X
  clear ha hin
  have L_58 : ∀ (x3 : Int32) (x4 : Int32) (x5 : Int32) (co : CoS) (k13 : (Int32) → (Int32) → (Int32) → (CoS) → (BoS) → (RiS) → Option (Int32 × (CoS))) (H : Heap) (locs : List Loc) (ls : Array Slot), lv_has ls 6 [(0, .ref (a_co 0)), (1, .ref (a_bo 0)), (3, .int x3), (4, .int x4), (5, .int x5)] → In g A s.heap s (wCo g a_co co ++ (wBo g a_bo (a_ri 0) bo ++ (wRi g a_ri ri ++ []))) H locs → f_X2_freeColours_L58 x3 x4 x5 co bo ri k13 = some (r_, o_co) → (∀ (x3 : Int32) (x4 : Int32) (x5 : Int32) (co : CoS) (H : Heap) (locs : List Loc) (ls : Array Slot), lv_has ls 6 [(0, .ref (a_co 0)), (1, .ref (a_bo 0)), (3, .int x3), (4, .int x4), (5, .int x5)] → In g A s.heap s (wCo g a_co co ++ (wBo g a_bo (a_ri 0) bo ++ (wRi g a_ri ri ++ []))) H locs → k13 x3 x4 x5 co bo ri = some (r_, o_co) → W p l e rm_X2_freeColours s m args below meth c H locs 0 0 Q (F0 m 13 ls [])) → W p l e rm_X2_freeColours s m args below meth c H locs 0 0 Q (F0 m 58 ls []) := by
    intro x3 x4 x5 co k13 H locs ls hl hI hf hk13
    unfold f_X2_freeColours_L58 at hf
    obtain ⟨v_8, e_⟩ : ∃ y : Int32, y = (x5 + (1 : Int32)) := ⟨_, rfl⟩
    replace hf := lt_to e_ hf
    refine lv_iinc (v := v_8) (lv' := [(5, .int v_8), (0, .ref (a_co 0)), (1, .ref (a_bo 0)), (3, .int x3), (4, .int x4)]) hx hb dX2_freeColours_58 hl (k := 4) rfl (by rw [e_]; rfl) (by decide) rfl (fun ls hl => ?_)
    clear e_
    refine lv_goto (tgt := 13) hx hb dX2_freeColours_61 (by decide) ?_
    exact hk13 x3 x4 v_8 co _ _ _ (lv_sub hl [1, 2, 3, 4, 0] rfl) hI hf
  have L_64 : ∀ (x3 : Int32) (x4 : Int32) (co : CoS) (H : Heap) (locs : List Loc) (ls : Array Slot), lv_has ls 6 [(0, .ref (a_co 0)), (3, .int x3), (4, .int x4)] → In g A s.heap s (wCo g a_co co ++ (wBo g a_bo (a_ri 0) bo ++ (wRi g a_ri ri ++ []))) H locs → f_X2_freeColours_L64 x3 x4 co = some (r_, o_co) → W p l e rm_X2_freeColours s m args below meth c H locs 0 0 Q (F0 m 64 ls []) := by
    intro x3 x4 co H locs ls hl hI hf
    unfold f_X2_freeColours_L64 at hf
    refine lv_aload_n hx hb dX2_freeColours_64 rfl (lv_at hl 0 rfl) ?_
    refine g_Co_arcs X hI has_Co.l (X.fl w_648) dX2_freeColours_65 ?_
    refine lv_aload_n hx hb dX2_freeColours_68 rfl (lv_at hl 0 rfl) ?_
    refine lv_iload hx hb dX2_freeColours_69 (lv_at hl 2 rfl) ?_
    refine lv_iload_n hx hb dX2_freeColours_71 rfl (lv_at hl 1 rfl) ?_
    obtain ⟨r_6, co_7, hc_, hf⟩ := bd2_some hf
    refine call_Vi X hI (Cj.keep Cj.nil) (c_X2_rank l g a_co co x4 x3 r_6 co_7 hc_) ⟨rfl, rfl⟩ ⟨ht _ w_1244, w_1247, ht _ w_153, lk_X2_rank⟩ w_1246 w_55 rfl rfl rfl hl rfl rfl dX2_freeColours_72 rfl rfl rfl rfl (fun H locs hI => ?_)
    refine lv_isub hx hb dX2_freeColours_75 ?_
    cases hf
    exact end_i hQ hA X hI dX2_freeColours_76
  have L_13 : ∀ (n_ : Nat) (x3 : Int32) (x4 : Int32) (x5 : Int32) (co : CoS) (H : Heap) (locs : List Loc) (ls : Array Slot), lv_has ls 6 [(0, .ref (a_co 0)), (1, .ref (a_bo 0)), (3, .int x3), (4, .int x4), (5, .int x5)] → In g A s.heap s (wCo g a_co co ++ (wBo g a_bo (a_ri 0) bo ++ (wRi g a_ri ri ++ []))) H locs → f_X2_freeColours_L13 n_ x3 x4 x5 co bo ri = some (r_, o_co) → W p l e rm_X2_freeColours s m args below meth c H locs 0 0 Q (F0 m 13 ls []) := by
    intro n_
    induction n_ with
    | zero =>
      intro x3 x4 x5 co H locs ls hl hI hf
      rw [f_X2_freeColours_L13] at hf
      cases hf
    | succ n_ ih =>
      intro x3 x4 x5 co H locs ls hl hI hf
      rw [f_X2_freeColours_L13] at hf
      refine lv_iload hx hb dX2_freeColours_13 (lv_at hl 4 rfl) ?_
      refine lv_bipush (v := 7) hx hb dX2_freeColours_15 (by decide) ?_
      refine lv_icmp_ge (tgt := 64) hx hb dX2_freeColours_17 (by decide) (fun h_ => ?_) (fun h_ => ?_)
      · replace hf := if_t h_ hf
        exact L_64 x3 x4 co _ _ _ (lv_sub hl [0, 2, 3] rfl) hI hf
      · replace hf := if_f h_ hf
        refine lv_iload hx hb dX2_freeColours_20 (lv_at hl 4 rfl) ?_
        refine lv_aload_n hx hb dX2_freeColours_22 rfl (lv_at hl 1 rfl) ?_
        refine g_Bo_rings X hI has_Bo.l.r (hI.fn (List.mem_of_getElem? (i := 68) rfl)) dX2_freeColours_23 ?_
        refine g_Ri_crossings X hI has_Ri.l.r.r (hI.fn (List.mem_of_getElem? (i := 30) rfl)) dX2_freeColours_26 ?_
        refine lv_icmp_ge (tgt := 64) hx hb dX2_freeColours_29 (by decide) (fun h_ => ?_) (fun h_ => ?_)
        · replace hf := if_t h_ hf
          exact L_64 x3 x4 co _ _ _ (lv_sub hl [0, 2, 3] rfl) hI hf
        · replace hf := if_f h_ hf
          refine lv_aload_n hx hb dX2_freeColours_32 rfl (lv_at hl 1 rfl) ?_
          refine lv_iload hx hb dX2_freeColours_33 (lv_at hl 4 rfl) ?_
          obtain ⟨r_3, hc_, hf⟩ := bd1_some hf
          refine call_Vi X hI (Cj.skip (Cj.keep Cj.nil)) (c_X0_isLeft l g a_bo (a_ri 0) bo x5 r_3 hc_) ⟨rfl, rfl⟩ ⟨ht _ w_1235, w_1072, ht _ w_150, lk_X0_isLeft⟩ w_1070 w_1071 rfl rfl rfl hl rfl rfl dX2_freeColours_35 rfl rfl rfl rfl (fun H locs hI => ?_)
          refine lv_if_eq (tgt := 58) hx hb dX2_freeColours_38 (by decide) (fun h_ => ?_) (fun h_ => ?_)
          · replace hf := if_t h_ hf
            exact L_58 x3 x4 x5 co _ _ _ _ hl hI hf (fun z_0 z_1 z_2 z_3 _ _ _ hl hI hf => ih z_0 z_1 z_2 z_3 _ _ _ hl hI hf)
          · replace hf := if_f h_ hf
            refine lv_aload_n hx hb dX2_freeColours_41 rfl (lv_at hl 0 rfl) ?_
            refine lv_aload_n hx hb dX2_freeColours_42 rfl (lv_at hl 0 rfl) ?_
            refine g_Co_rows X hI has_Co.l (X.fl w_647) dX2_freeColours_43 ?_
            refine lv_iload hx hb dX2_freeColours_46 (lv_at hl 3 rfl) ?_
            obtain ⟨h_, hf⟩ := ck_someM hf
            refine ld_W X hI has_Co_rows.l h_ dX2_freeColours_48 ?_
            refine lv_iload hx hb dX2_freeColours_49 (lv_at hl 4 rfl) ?_
            refine lv_iload_n hx hb dX2_freeColours_51 rfl (lv_at hl 2 rfl) ?_
            obtain ⟨co_4, hc_, hf⟩ := bd1_some hf
            refine call_Vv X hI (Cj.keep Cj.nil) (c_X2_fillRow l g a_co co (Co_pi co (Int32.toNatClampNeg x4)) x5 x3 co_4 hc_) ⟨rfl, rfl⟩ ⟨ht _ w_1236, w_1239, ht _ w_153, lk_X2_fillRow⟩ w_1238 w_54 rfl rfl rfl hl rfl rfl dX2_freeColours_52 rfl rfl rfl rfl (fun H locs hI => ?_)
            obtain ⟨v_5, e_⟩ : ∃ y : Int32, y = (x4 + (1 : Int32)) := ⟨_, rfl⟩
            replace hf := lt_to e_ hf
            refine lv_iinc (v := v_5) (lv' := [(4, .int v_5), (0, .ref (a_co 0)), (1, .ref (a_bo 0)), (3, .int x3), (5, .int x5)]) hx hb dX2_freeColours_55 hl (k := 3) rfl (by rw [e_]; rfl) (by decide) rfl (fun ls hl => ?_)
            clear e_
            exact L_58 x3 v_5 x5 co_4 _ _ _ _ (lv_sub hl [1, 2, 3, 0, 4] rfl) hI hf (fun z_0 z_1 z_2 z_3 _ _ _ hl hI hf => ih z_0 z_1 z_2 z_3 _ _ _ hl hI hf)
  unfold f_X2_freeColours at hf
  refine lv_aload_n hx hb dX2_freeColours_0 rfl (lv_at hl 0 rfl) ?_
  refine lv_aload_n hx hb dX2_freeColours_1 rfl (lv_at hl 1 rfl) ?_
  refine lv_iload_n hx hb dX2_freeColours_2 rfl (lv_at hl 2 rfl) ?_
  obtain ⟨r_1, co_2, hc_, hf⟩ := bd2_some hf
  refine call_Vi X hI (Cj.keep (Cj.keep (Cj.keep Cj.id))) (c_X2_countArcs l g a_co a_bo a_ri co bo ri p2 r_1 co_2 hc_) ⟨rfl, rfl⟩ ⟨ht _ w_1225, w_1228, ht _ w_153, lk_X2_countArcs⟩ w_1226 w_1227 rfl rfl rfl hl rfl rfl dX2_freeColours_3 rfl rfl rfl rfl (fun H locs hI => ?_)
  refine lv_pop hx hb dX2_freeColours_6 rfl ?_
  refine lv_iconst (v := 0) hx hb dX2_freeColours_7 (by decide) ?_
  refine lv_istore (lv' := [(4, .int (0 : Int32)), (0, .ref (a_co 0)), (1, .ref (a_bo 0)), (2, .int p2), (3, .int p3)]) hx hb dX2_freeColours_8 hl (by decide) rfl (fun ls hl => ?_)
  refine lv_iconst (v := 0) hx hb dX2_freeColours_10 (by decide) ?_
  refine lv_istore (lv' := [(5, .int (0 : Int32)), (4, .int (0 : Int32)), (0, .ref (a_co 0)), (1, .ref (a_bo 0)), (2, .int p2), (3, .int p3)]) hx hb dX2_freeColours_11 hl (by decide) rfl (fun ls hl => ?_)
  exact L_13 FU p3 (0 : Int32) (0 : Int32) co_2 _ _ _ (lv_sub hl [2, 3, 5, 1, 0] rfl) hI hf
abbrev rm_X3_clear : Room := { frames := 0, cells := 0, slots := 0, locals := 0 }
set_option maxRecDepth 20000 in
theorem c_X3_clear (l : Launch) (g : GT) (a_hi : Nat → Nat) (hi : HiS) (o_hi : HiS) (hf : f_X3_clear hi = some (o_hi)) : CV l yX3_clear cX3_clear 1 none rm_X3_clear g [.ref (a_hi 0)] (wHi g a_hi hi ++ []) (wHi g a_hi o_hi ++ []) := by
  refine start2 (y := yX3_clear) (cc := cX3_clear) (n := 1) (av := [.ref (a_hi 0)]) (ws := (wHi g a_hi hi ++ [])) (Qc := fun sz => QV g (wHi g a_hi hi ++ []) (wHi g a_hi o_hi ++ []) sz) (by decide) rfl ?_
  intro p e s m args below meth c ls Q A ha hQ hA X hl hI hin
  have X : Cx p s m args meth c cX3_clear 1 RX3 none := X
  have hl : lv_has ls 1 [(0, .ref (a_hi 0))] := hl
  obtain ⟨hx, hb, hml, hown, ht, hr, hlk⟩ := id X
  clear ha hin
  unfold f_X3_clear at hf
  refine lv_aload_n hx hb dX3_clear_0 rfl (lv_at hl 0 rfl) ?_
  refine lv_iconst (v := 0) hx hb dX3_clear_1 (by decide) ?_
  refine p_Hi_kept X hI up_Hi_kept.l (X.fl w_515) dX3_clear_2 (fun H locs hI => ?_)
  generalize hz_ : (Hi_kept' hi (0 : Int32)) = hi_1 at hI hf
  clear hz_
  replace hf := lt_e hf
  refine lv_aload_n hx hb dX3_clear_5 rfl (lv_at hl 0 rfl) ?_
  refine lv_iconst (v := 0) hx hb dX3_clear_6 (by decide) ?_
  refine p_Hi_marked X hI up_Hi_marked.l (X.fl w_517) dX3_clear_7 (fun H locs hI => ?_)
  generalize hz_ : (Hi_marked' hi_1 (0 : Int32)) = hi_2 at hI hf
  clear hz_
  replace hf := lt_e hf
  refine lv_aload_n hx hb dX3_clear_10 rfl (lv_at hl 0 rfl) ?_
  refine lv_iconst (v := 0) hx hb dX3_clear_11 (by decide) ?_
  refine p_Hi_free X hI up_Hi_free.l (X.fl w_519) dX3_clear_12 (fun H locs hI => ?_)
  generalize hz_ : (Hi_free' hi_2 (0 : Int32)) = hi_3 at hI hf
  clear hz_
  replace hf := lt_e hf
  cases hf
  exact end_v hQ hA X hI dX3_clear_15
abbrev rm_X3_keep : Room := { frames := 1, cells := 0, slots := 0, locals := 21 }
set_option maxRecDepth 20000 in
theorem c_X3_keep (l : Launch) (g : GT) (a_hi : Nat → Nat) (a_now : Nat → Nat) (hi : HiS) (now : MoS) (o_hi : HiS) (hf : f_X3_keep hi now = some (o_hi)) : CV l yX3_keep cX3_keep 2 none rm_X3_keep g [.ref (a_hi 0), .ref (a_now 0)] (wHi g a_hi hi ++ (wMo g a_now now ++ [])) (wHi g a_hi o_hi ++ (wMo g a_now now ++ [])) := by
  refine start2 (y := yX3_keep) (cc := cX3_keep) (n := 2) (av := [.ref (a_hi 0), .ref (a_now 0)]) (ws := (wHi g a_hi hi ++ (wMo g a_now now ++ []))) (Qc := fun sz => QV g (wHi g a_hi hi ++ (wMo g a_now now ++ [])) (wHi g a_hi o_hi ++ (wMo g a_now now ++ [])) sz) (by decide) rfl ?_
  intro p e s m args below meth c ls Q A ha hQ hA X hl hI hin
  have X : Cx p s m args meth c cX3_keep 2 RX3 none := X
  have hl : lv_has ls 2 [(0, .ref (a_hi 0)), (1, .ref (a_now 0))] := hl
  obtain ⟨hx, hb, hml, hown, ht, hr, hlk⟩ := id X
  clear ha hin
  unfold f_X3_keep at hf
  refine lv_aload_n hx hb dX3_keep_0 rfl (lv_at hl 0 rfl) ?_
  refine g_Hi_moments X hI has_Hi.l (X.fl w_513) dX3_keep_1 ?_
  refine lv_aload_n hx hb dX3_keep_4 rfl (lv_at hl 0 rfl) ?_
  refine g_Hi_free X hI has_Hi.l (X.fl w_519) dX3_keep_5 ?_
  refine lv_bipush (v := 15) hx hb dX3_keep_8 (by decide) ?_
  refine lv_iand hx hb dX3_keep_10 ?_
  obtain ⟨h_, hf⟩ := ck_someM hf
  refine ld_M X hI has_Hi_moments.l h_ dX3_keep_11 ?_
  refine lv_aload_n hx hb dX3_keep_12 rfl (lv_at hl 1 rfl) ?_
  obtain ⟨mo_1, hc_, hf⟩ := bd1_some hf
  refine call_Vv X hI (Cj.both (Cj.up (up_Hi_mo (vp_lt h_))) (Cj.keep Cj.id)) (c_X4_become l g (fun _ => (a_hi (3 + Int32.toNatClampNeg ((Hi_free hi) &&& (15 : Int32))))) a_now (Hi_mo hi (Int32.toNatClampNeg ((Hi_free hi) &&& (15 : Int32)))) now mo_1 hc_) ⟨rfl, rfl⟩ ⟨ht _ w_1431, w_1274, ht _ w_148, lk_X4_become⟩ w_1272 w_1273 rfl rfl rfl hl rfl rfl dX3_keep_13 rfl rfl rfl rfl (fun H locs hI => ?_)
  generalize hz_ : (Hi_mo' hi (va_up (Hi_mo hi) (Int32.toNatClampNeg ((Hi_free hi) &&& (15 : Int32))) mo_1)) = hi_2 at hI hf
  clear hz_
  replace hf := lt_e hf
  refine lv_aload_n hx hb dX3_keep_16 rfl (lv_at hl 0 rfl) ?_
  refine lv_aload_n hx hb dX3_keep_17 rfl (lv_at hl 0 rfl) ?_
  refine g_Hi_free X hI has_Hi.l (X.fl w_519) dX3_keep_18 ?_
  refine lv_iconst (v := 1) hx hb dX3_keep_21 (by decide) ?_
  refine lv_iadd hx hb dX3_keep_22 ?_
  refine lv_bipush (v := 15) hx hb dX3_keep_23 (by decide) ?_
  refine lv_iand hx hb dX3_keep_25 ?_
  refine p_Hi_free X hI up_Hi_free.l (X.fl w_519) dX3_keep_26 (fun H locs hI => ?_)
  generalize hz_ : (Hi_free' hi_2 (((Hi_free hi_2) + (1 : Int32)) &&& (15 : Int32))) = hi_3 at hI hf
  clear hz_
  replace hf := lt_e hf
  refine lv_aload_n hx hb dX3_keep_29 rfl (lv_at hl 0 rfl) ?_
  refine lv_aload_n hx hb dX3_keep_30 rfl (lv_at hl 0 rfl) ?_
  refine g_Hi_kept X hI has_Hi.l (X.fl w_515) dX3_keep_31 ?_
  refine lv_iconst (v := 1) hx hb dX3_keep_34 (by decide) ?_
  refine lv_iadd hx hb dX3_keep_35 ?_
  refine lv_bipush (v := 16) hx hb dX3_keep_36 (by decide) ?_
  refine va_mmin hx hb (by rw [hml]; exact hl.1.symm) hown (ht _ w_1432) (ht _ w_742) (ht _ w_156) (ht _ w_743) (Nat.le_of_ble_eq_true rfl) (Nat.le_of_ble_eq_true rfl) (Nat.le_of_ble_eq_true rfl) (Nat.le_of_ble_eq_true rfl) dX3_keep_38 ?_
  refine p_Hi_kept X hI up_Hi_kept.l (X.fl w_515) dX3_keep_41 (fun H locs hI => ?_)
  generalize hz_ : (Hi_kept' hi_3 (if (16 : Int32) < ((Hi_kept hi_3) + (1 : Int32)) then (16 : Int32) else ((Hi_kept hi_3) + (1 : Int32)))) = hi_4 at hI hf
  clear hz_
  replace hf := lt_e hf
  cases hf
  exact end_v hQ hA X hI dX3_keep_44
abbrev rm_X3_giveLatest : Room := { frames := 1, cells := 0, slots := 0, locals := 21 }
set_option maxRecDepth 20000 in
theorem c_X3_giveLatest (l : Launch) (g : GT) (a_hi : Nat → Nat) (a_now : Nat → Nat) (hi : HiS) (now : MoS) (r_ : Int32) (o_hi : HiS) (o_now : MoS) (hf : f_X3_giveLatest hi now = some (r_, o_hi, o_now)) : CI l yX3_giveLatest cX3_giveLatest 2 (some .boolean) rm_X3_giveLatest g [.ref (a_hi 0), .ref (a_now 0)] (wHi g a_hi hi ++ (wMo g a_now now ++ [])) (wHi g a_hi o_hi ++ (wMo g a_now o_now ++ [])) r_ := by
  refine start2 (y := yX3_giveLatest) (cc := cX3_giveLatest) (n := 2) (av := [.ref (a_hi 0), .ref (a_now 0)]) (ws := (wHi g a_hi hi ++ (wMo g a_now now ++ []))) (Qc := fun sz => QI g (wHi g a_hi hi ++ (wMo g a_now now ++ [])) (wHi g a_hi o_hi ++ (wMo g a_now o_now ++ [])) r_ sz) (by decide) rfl ?_
  intro p e s m args below meth c ls Q A ha hQ hA X hl hI hin
  have X : Cx p s m args meth c cX3_giveLatest 2 RX3 (some .boolean) := X
  have hl : lv_has ls 2 [(0, .ref (a_hi 0)), (1, .ref (a_now 0))] := hl
  obtain ⟨hx, hb, hml, hown, ht, hr, hlk⟩ := id X
  clear ha hin
  unfold f_X3_giveLatest at hf
  refine lv_aload_n hx hb dX3_giveLatest_0 rfl (lv_at hl 0 rfl) ?_
  refine g_Hi_kept X hI has_Hi.l (X.fl w_515) dX3_giveLatest_1 ?_
  refine lv_if_ne (tgt := 9) hx hb dX3_giveLatest_4 (by decide) (fun h_ => ?_) (fun h_ => ?_)
  · replace hf := if_f h_ hf
    refine lv_aload_n hx hb dX3_giveLatest_9 rfl (lv_at hl 0 rfl) ?_
    refine lv_dup hx hb dX3_giveLatest_10 rfl ?_
    refine g_Hi_kept X hI has_Hi.l (X.fl w_515) dX3_giveLatest_11 ?_
    refine lv_iconst (v := 1) hx hb dX3_giveLatest_14 (by decide) ?_
    refine lv_isub hx hb dX3_giveLatest_15 ?_
    refine p_Hi_kept X hI up_Hi_kept.l (X.fl w_515) dX3_giveLatest_16 (fun H locs hI => ?_)
    generalize hz_ : (Hi_kept' hi ((Hi_kept hi) - (1 : Int32))) = hi_1 at hI hf
    clear hz_
    replace hf := lt_e hf
    refine lv_aload_n hx hb dX3_giveLatest_19 rfl (lv_at hl 0 rfl) ?_
    refine lv_aload_n hx hb dX3_giveLatest_20 rfl (lv_at hl 0 rfl) ?_
    refine g_Hi_free X hI has_Hi.l (X.fl w_519) dX3_giveLatest_21 ?_
    refine lv_iconst (v := 1) hx hb dX3_giveLatest_24 (by decide) ?_
    refine lv_isub hx hb dX3_giveLatest_25 ?_
    refine lv_bipush (v := 15) hx hb dX3_giveLatest_26 (by decide) ?_
    refine lv_iand hx hb dX3_giveLatest_28 ?_
    refine p_Hi_free X hI up_Hi_free.l (X.fl w_519) dX3_giveLatest_29 (fun H locs hI => ?_)
    generalize hz_ : (Hi_free' hi_1 (((Hi_free hi_1) - (1 : Int32)) &&& (15 : Int32))) = hi_2 at hI hf
    clear hz_
    replace hf := lt_e hf
    refine lv_aload_n hx hb dX3_giveLatest_32 rfl (lv_at hl 1 rfl) ?_
    refine lv_aload_n hx hb dX3_giveLatest_33 rfl (lv_at hl 0 rfl) ?_
    refine g_Hi_moments X hI has_Hi.l (X.fl w_513) dX3_giveLatest_34 ?_
    refine lv_aload_n hx hb dX3_giveLatest_37 rfl (lv_at hl 0 rfl) ?_
    refine g_Hi_free X hI has_Hi.l (X.fl w_519) dX3_giveLatest_38 ?_
    obtain ⟨h_, hf⟩ := ck_someM hf
    refine ld_M X hI has_Hi_moments.l h_ dX3_giveLatest_41 ?_
    obtain ⟨now_3, hc_, hf⟩ := bd1_some hf
    refine call_Vv X hI (Cj.swap (Cj.both (Cj.has (has_Hi_mo (vp_lt h_))) (Cj.keep Cj.id))) (c_X4_become l g a_now (fun _ => (a_hi (3 + Int32.toNatClampNeg (Hi_free hi_2)))) now (Hi_mo hi_2 (Int32.toNatClampNeg (Hi_free hi_2))) now_3 hc_) ⟨rfl, rfl⟩ ⟨ht _ w_1431, w_1274, ht _ w_148, lk_X4_become⟩ w_1272 w_1273 rfl rfl rfl hl rfl rfl dX3_giveLatest_42 rfl rfl rfl rfl (fun H locs hI => ?_)
    refine lv_iconst (v := 1) hx hb dX3_giveLatest_45 (by decide) ?_
    cases hf
    exact end_z hQ hA X hI rfl dX3_giveLatest_46
  · replace hf := if_t h_ hf
    refine lv_iconst (v := 0) hx hb dX3_giveLatest_7 (by decide) ?_
    cases hf
    exact end_z hQ hA X hI rfl dX3_giveLatest_8
abbrev rm_X3_setMark : Room := { frames := 1, cells := 0, slots := 0, locals := 21 }
set_option maxRecDepth 20000 in
theorem c_X3_setMark (l : Launch) (g : GT) (a_hi : Nat → Nat) (a_now : Nat → Nat) (hi : HiS) (now : MoS) (r_ : Int32) (o_hi : HiS) (hf : f_X3_setMark hi now = some (r_, o_hi)) : CI l yX3_setMark cX3_setMark 2 (some .int) rm_X3_setMark g [.ref (a_hi 0), .ref (a_now 0)] (wHi g a_hi hi ++ (wMo g a_now now ++ [])) (wHi g a_hi o_hi ++ (wMo g a_now now ++ [])) r_ := by
  refine start2 (y := yX3_setMark) (cc := cX3_setMark) (n := 2) (av := [.ref (a_hi 0), .ref (a_now 0)]) (ws := (wHi g a_hi hi ++ (wMo g a_now now ++ []))) (Qc := fun sz => QI g (wHi g a_hi hi ++ (wMo g a_now now ++ [])) (wHi g a_hi o_hi ++ (wMo g a_now now ++ [])) r_ sz) (by decide) rfl ?_
  intro p e s m args below meth c ls Q A ha hQ hA X hl hI hin
  have X : Cx p s m args meth c cX3_setMark 2 RX3 (some .int) := X
  have hl : lv_has ls 2 [(0, .ref (a_hi 0)), (1, .ref (a_now 0))] := hl
  obtain ⟨hx, hb, hml, hown, ht, hr, hlk⟩ := id X
  clear ha hin
  unfold f_X3_setMark at hf
  refine lv_aload_n hx hb dX3_setMark_0 rfl (lv_at hl 0 rfl) ?_
  refine g_Hi_marked X hI has_Hi.l (X.fl w_517) dX3_setMark_1 ?_
  refine lv_iconst (v := 3) hx hb dX3_setMark_4 (by decide) ?_
  refine lv_icmp_lt (tgt := 10) hx hb dX3_setMark_5 (by decide) (fun h_ => ?_) (fun h_ => ?_)
  · replace hf := if_t h_ hf
    refine lv_aload_n hx hb dX3_setMark_10 rfl (lv_at hl 0 rfl) ?_
    refine g_Hi_marks X hI has_Hi.l (X.fl w_514) dX3_setMark_11 ?_
    refine lv_aload_n hx hb dX3_setMark_14 rfl (lv_at hl 0 rfl) ?_
    refine g_Hi_marked X hI has_Hi.l (X.fl w_517) dX3_setMark_15 ?_
    obtain ⟨h_, hf⟩ := ck_someM hf
    refine ld_M X hI has_Hi_marks.l h_ dX3_setMark_18 ?_
    refine lv_aload_n hx hb dX3_setMark_19 rfl (lv_at hl 1 rfl) ?_
    obtain ⟨mo_1, hc_, hf⟩ := bd1_some hf
    refine call_Vv X hI (Cj.both (Cj.up (up_Hi_mk (vp_lt h_))) (Cj.keep Cj.id)) (c_X4_become l g (fun _ => (a_hi (19 + Int32.toNatClampNeg (Hi_marked hi)))) a_now (Hi_mk hi (Int32.toNatClampNeg (Hi_marked hi))) now mo_1 hc_) ⟨rfl, rfl⟩ ⟨ht _ w_1431, w_1274, ht _ w_148, lk_X4_become⟩ w_1272 w_1273 rfl rfl rfl hl rfl rfl dX3_setMark_20 rfl rfl rfl rfl (fun H locs hI => ?_)
    generalize hz_ : (Hi_mk' hi (va_up (Hi_mk hi) (Int32.toNatClampNeg (Hi_marked hi)) mo_1)) = hi_2 at hI hf
    clear hz_
    replace hf := lt_e hf
    refine lv_aload_n hx hb dX3_setMark_23 rfl (lv_at hl 0 rfl) ?_
    refine lv_dup hx hb dX3_setMark_24 rfl ?_
    refine g_Hi_marked X hI has_Hi.l (X.fl w_517) dX3_setMark_25 ?_
    refine lv_iconst (v := 1) hx hb dX3_setMark_28 (by decide) ?_
    refine lv_iadd hx hb dX3_setMark_29 ?_
    refine p_Hi_marked X hI up_Hi_marked.l (X.fl w_517) dX3_setMark_30 (fun H locs hI => ?_)
    generalize hz_ : (Hi_marked' hi_2 ((Hi_marked hi_2) + (1 : Int32))) = hi_3 at hI hf
    clear hz_
    replace hf := lt_e hf
    refine lv_aload_n hx hb dX3_setMark_33 rfl (lv_at hl 0 rfl) ?_
    refine g_Hi_marked X hI has_Hi.l (X.fl w_517) dX3_setMark_34 ?_
    refine lv_iconst (v := 1) hx hb dX3_setMark_37 (by decide) ?_
    refine lv_isub hx hb dX3_setMark_38 ?_
    cases hf
    exact end_i hQ hA X hI dX3_setMark_39
  · replace hf := if_f h_ hf
    refine lv_iconst (v := (-1)) hx hb dX3_setMark_8 (by decide) ?_
    cases hf
    exact end_i hQ hA X hI dX3_setMark_9
abbrev rm_X3_giveMarked : Room := { frames := 1, cells := 0, slots := 0, locals := 21 }
set_option maxRecDepth 20000 in
theorem c_X3_giveMarked (l : Launch) (g : GT) (a_hi : Nat → Nat) (a_now : Nat → Nat) (hi : HiS) (now : MoS) (p1 : Int32) (r_ : Int32) (o_hi : HiS) (o_now : MoS) (hf : f_X3_giveMarked hi now p1 = some (r_, o_hi, o_now)) : CI l yX3_giveMarked cX3_giveMarked 3 (some .boolean) rm_X3_giveMarked g [.ref (a_hi 0), .int p1, .ref (a_now 0)] (wHi g a_hi hi ++ (wMo g a_now now ++ [])) (wHi g a_hi o_hi ++ (wMo g a_now o_now ++ [])) r_ := by
  refine start2 (y := yX3_giveMarked) (cc := cX3_giveMarked) (n := 3) (av := [.ref (a_hi 0), .int p1, .ref (a_now 0)]) (ws := (wHi g a_hi hi ++ (wMo g a_now now ++ []))) (Qc := fun sz => QI g (wHi g a_hi hi ++ (wMo g a_now now ++ [])) (wHi g a_hi o_hi ++ (wMo g a_now o_now ++ [])) r_ sz) (by decide) rfl ?_
  intro p e s m args below meth c ls Q A ha hQ hA X hl hI hin
  have X : Cx p s m args meth c cX3_giveMarked 3 RX3 (some .boolean) := X
  have hl : lv_has ls 3 [(0, .ref (a_hi 0)), (1, .int p1), (2, .ref (a_now 0))] := hl
  obtain ⟨hx, hb, hml, hown, ht, hr, hlk⟩ := id X
  clear ha hin
  unfold f_X3_giveMarked at hf
  refine lv_iload_n hx hb dX3_giveMarked_0 rfl (lv_at hl 1 rfl) ?_
  refine lv_if_lt (tgt := 12) hx hb dX3_giveMarked_1 (by decide) (fun h_ => ?_) (fun h_ => ?_)
  · replace hf := if_t h_ hf
    refine lv_iconst (v := 0) hx hb dX3_giveMarked_12 (by decide) ?_
    cases hf
    exact end_z hQ hA X hI rfl dX3_giveMarked_13
  · replace hf := if_f h_ hf
    refine lv_iload_n hx hb dX3_giveMarked_4 rfl (lv_at hl 1 rfl) ?_
    refine lv_aload_n hx hb dX3_giveMarked_5 rfl (lv_at hl 0 rfl) ?_
    refine g_Hi_marked X hI has_Hi.l (X.fl w_517) dX3_giveMarked_6 ?_
    refine lv_icmp_lt (tgt := 14) hx hb dX3_giveMarked_9 (by decide) (fun h_ => ?_) (fun h_ => ?_)
    · replace hf := if_t h_ hf
      refine lv_aload_n hx hb dX3_giveMarked_14 rfl (lv_at hl 2 rfl) ?_
      refine lv_aload_n hx hb dX3_giveMarked_15 rfl (lv_at hl 0 rfl) ?_
      refine g_Hi_marks X hI has_Hi.l (X.fl w_514) dX3_giveMarked_16 ?_
      refine lv_iload_n hx hb dX3_giveMarked_19 rfl (lv_at hl 1 rfl) ?_
      obtain ⟨h_, hf⟩ := ck_someM hf
      refine ld_M X hI has_Hi_marks.l h_ dX3_giveMarked_20 ?_
      obtain ⟨now_1, hc_, hf⟩ := bd1_some hf
      refine call_Vv X hI (Cj.swap (Cj.both (Cj.has (has_Hi_mk (vp_lt h_))) (Cj.keep Cj.id))) (c_X4_become l g a_now (fun _ => (a_hi (19 + Int32.toNatClampNeg p1))) now (Hi_mk hi (Int32.toNatClampNeg p1)) now_1 hc_) ⟨rfl, rfl⟩ ⟨ht _ w_1431, w_1274, ht _ w_148, lk_X4_become⟩ w_1272 w_1273 rfl rfl rfl hl rfl rfl dX3_giveMarked_21 rfl rfl rfl rfl (fun H locs hI => ?_)
      refine lv_aload_n hx hb dX3_giveMarked_24 rfl (lv_at hl 0 rfl) ?_
      refine lv_iconst (v := 0) hx hb dX3_giveMarked_25 (by decide) ?_
      refine p_Hi_kept X hI up_Hi_kept.l (X.fl w_515) dX3_giveMarked_26 (fun H locs hI => ?_)
      generalize hz_ : (Hi_kept' hi (0 : Int32)) = hi_2 at hI hf
      clear hz_
      replace hf := lt_e hf
      refine lv_iconst (v := 1) hx hb dX3_giveMarked_29 (by decide) ?_
      cases hf
      exact end_z hQ hA X hI rfl dX3_giveMarked_30
    · replace hf := if_f h_ hf
      refine lv_iconst (v := 0) hx hb dX3_giveMarked_12 (by decide) ?_
      cases hf
      exact end_z hQ hA X hI rfl dX3_giveMarked_13
