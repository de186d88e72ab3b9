abbrev rm_X10_leastBehind : Room := { frames := 1, cells := 0, slots := 0, locals := 21 }
set_option maxRecDepth 20000 in
theorem c_X10_leastBehind (l : Launch) (g : GT) (a_bo : Nat → Nat) (q_bo_rings : Nat) (bo : BoS) (r_ : Int32) (hf : f_X10_leastBehind bo = some (r_)) : CI l yX10_leastBehind cX10_leastBehind 3 (some .int) rm_X10_leastBehind g [.ref (a_bo 0)] (wBo g a_bo q_bo_rings bo ++ []) (wBo g a_bo q_bo_rings bo ++ []) r_ := by
  refine start2 (y := yX10_leastBehind) (cc := cX10_leastBehind) (n := 3) (av := [.ref (a_bo 0)]) (ws := (wBo g a_bo q_bo_rings bo ++ [])) (Qc := fun sz => QI g (wBo g a_bo q_bo_rings bo ++ []) (wBo g a_bo q_bo_rings bo ++ []) r_ sz) (by decide) rfl ?_
  intro p e s m args below meth c ls Q A ha hQ hA X hl hI hin
  have X : Cx p s m args meth c cX10_leastBehind 3 RX10 (some .int) := X
  have hl : lv_has ls 3 [(0, .ref (a_bo 0))] := hl
  obtain ⟨hx, hb, hml, hown, ht, hr, hlk⟩ := id X
  clear ha hin
  have L_7 : ∀ (n_ : Nat) (x1 : Int32) (x2 : Int32) (H : Heap) (locs : List Loc) (ls : Array Slot), lv_has ls 3 [(0, .ref (a_bo 0)), (1, .int x1), (2, .int x2)] → In g A s.heap s (wBo g a_bo q_bo_rings bo ++ []) H locs → f_X10_leastBehind_L7 n_ x1 x2 bo = some (r_) → W p l e rm_X10_leastBehind s m args below meth c H locs 0 0 Q (F0 m 7 ls []) := by
    intro n_
    induction n_ with
    | zero =>
      intro x1 x2 H locs ls hl hI hf
      rw [f_X10_leastBehind_L7] at hf
      cases hf
    | succ n_ ih =>
      intro x1 x2 H locs ls hl hI hf
      rw [f_X10_leastBehind_L7] at hf
      refine lv_iload_n hx hb dX10_leastBehind_7 rfl (lv_at hl 2 rfl) ?_
      refine lv_aload_n hx hb dX10_leastBehind_8 rfl (lv_at hl 0 rfl) ?_
      refine g_Bo_count X hI has_Bo.l (hI.fn (List.mem_of_getElem? (i := 76) rfl)) dX10_leastBehind_9 ?_
      refine lv_icmp_ge (tgt := 36) hx hb dX10_leastBehind_12 (by decide) (fun h_ => ?_) (fun h_ => ?_)
      · replace hf := if_t h_ hf
        refine lv_iload_n hx hb dX10_leastBehind_36 rfl (lv_at hl 1 rfl) ?_
        cases hf
        exact end_i hQ hA X hI dX10_leastBehind_37
      · replace hf := if_f h_ hf
        refine lv_iload_n hx hb dX10_leastBehind_15 rfl (lv_at hl 1 rfl) ?_
        refine lv_aload_n hx hb dX10_leastBehind_16 rfl (lv_at hl 0 rfl) ?_
        refine lv_aload_n hx hb dX10_leastBehind_17 rfl (lv_at hl 0 rfl) ?_
        refine g_Bo_numbers X hI has_Bo.l (hI.fn (List.mem_of_getElem? (i := 73) rfl)) dX10_leastBehind_18 ?_
        refine lv_iload_n hx hb dX10_leastBehind_21 rfl (lv_at hl 2 rfl) ?_
        obtain ⟨h_, hf⟩ := ck_someM hf
        refine ld_I X hI has_Bo_numbers.l h_ dX10_leastBehind_22 ?_
        obtain ⟨r_2, hc_, hf⟩ := bd1_some hf
        refine call_Vi X hI (Cj.keep Cj.id) (c_X0_leftBehind l g a_bo q_bo_rings bo (Bo_numbers bo (Int32.toNatClampNeg x2)) r_2 hc_) ⟨rfl, rfl⟩ ⟨ht _ w_1199, w_1202, ht _ w_150, lk_X0_leftBehind⟩ w_1200 w_1201 rfl rfl rfl hl rfl rfl dX10_leastBehind_23 rfl rfl rfl rfl (fun H locs hI => ?_)
        refine va_mmin hx hb (by rw [hml]; exact hl.1.symm) hown (ht _ w_1203) (ht _ w_742) (ht _ w_156) (ht _ w_743) (Nat.le_of_ble_eq_true rfl) (Nat.le_of_ble_eq_true rfl) (Nat.le_of_ble_eq_true rfl) (Nat.le_of_ble_eq_true rfl) dX10_leastBehind_26 ?_
        refine lv_topi (fun v_3 e_ => ?_)
        replace hf := lt_to e_ hf
        clear e_
        refine lv_istore_n (lv' := [(1, .int v_3), (0, .ref (a_bo 0)), (2, .int x2)]) hx hb dX10_leastBehind_29 rfl hl (by decide) rfl (fun ls hl => ?_)
        obtain ⟨v_4, e_⟩ : ∃ y : Int32, y = (x2 + (1 : Int32)) := ⟨_, rfl⟩
        replace hf := lt_to e_ hf
        refine lv_iinc (v := v_4) (lv' := [(2, .int v_4), (1, .int v_3), (0, .ref (a_bo 0))]) hx hb dX10_leastBehind_30 hl (k := 2) rfl (by rw [e_]; rfl) (by decide) rfl (fun ls hl => ?_)
        clear e_
        refine lv_goto (tgt := 7) hx hb dX10_leastBehind_33 (by decide) ?_
        exact ih v_3 v_4 _ _ _ (lv_sub hl [2, 1, 0] rfl) hI hf
  unfold f_X10_leastBehind at hf
  refine lv_aload_n hx hb dX10_leastBehind_0 rfl (lv_at hl 0 rfl) ?_
  refine g_Bo_left X hI has_Bo.l (hI.fn (List.mem_of_getElem? (i := 69) rfl)) dX10_leastBehind_1 ?_
  refine lv_topi (fun v_1 e_ => ?_)
  replace hf := lt_to e_ hf
  clear e_
  refine lv_istore_n (lv' := [(1, .int v_1), (0, .ref (a_bo 0))]) hx hb dX10_leastBehind_4 rfl hl (by decide) rfl (fun ls hl => ?_)
  refine lv_iconst (v := 0) hx hb dX10_leastBehind_5 (by decide) ?_
  refine lv_istore_n (lv' := [(2, .int (0 : Int32)), (1, .int v_1), (0, .ref (a_bo 0))]) hx hb dX10_leastBehind_6 rfl hl (by decide) rfl (fun ls hl => ?_)
  exact L_7 FU v_1 (0 : Int32) _ _ _ (lv_sub hl [2, 1, 0] rfl) hI hf
abbrev rm_X10_bestCall : Room := { frames := 4, cells := 0, slots := 0, locals := 96 }
set_option maxRecDepth 20000 in
theorem c_X10_bestCall (l : Launch) (g : GT) (a_wi : Nat → Nat) (a_bo : Nat → Nat) (a_wb : Nat → Nat) (a_now : Nat → Nat) (a_ri : Nat → Nat) (bo : BoS) (wb : BoS) (now : MoS) (ri : RiS) (r_ : Int32) (o_wb : BoS) (hf : f_X10_bestCall bo wb now ri = some (r_, o_wb)) : CI l yX10_bestCall cX10_bestCall 8 (some .int) rm_X10_bestCall g [.ref (a_wi 0), .ref (a_bo 0), .ref (a_now 0)] (wWi g a_wi (a_ri 0) (a_wb 0) ++ (wBo g a_bo (a_ri 0) bo ++ (wBo g a_wb (a_ri 0) wb ++ (wMo g a_now now ++ (wRi g a_ri ri ++ []))))) (wWi g a_wi (a_ri 0) (a_wb 0) ++ (wBo g a_bo (a_ri 0) bo ++ (wBo g a_wb (a_ri 0) o_wb ++ (wMo g a_now now ++ (wRi g a_ri ri ++ []))))) r_ := by
  refine start2 (y := yX10_bestCall) (cc := cX10_bestCall) (n := 8) (av := [.ref (a_wi 0), .ref (a_bo 0), .ref (a_now 0)]) (ws := (wWi g a_wi (a_ri 0) (a_wb 0) ++ (wBo g a_bo (a_ri 0) bo ++ (wBo g a_wb (a_ri 0) wb ++ (wMo g a_now now ++ (wRi g a_ri ri ++ [])))))) (Qc := fun sz => QI g (wWi g a_wi (a_ri 0) (a_wb 0) ++ (wBo g a_bo (a_ri 0) bo ++ (wBo g a_wb (a_ri 0) wb ++ (wMo g a_now now ++ (wRi g a_ri ri ++ []))))) (wWi g a_wi (a_ri 0) (a_wb 0) ++ (wBo g a_bo (a_ri 0) bo ++ (wBo g a_wb (a_ri 0) o_wb ++ (wMo g a_now now ++ (wRi g a_ri ri ++ []))))) r_ sz) (by decide) rfl ?_
  intro p e s m args below meth c ls Q A ha hQ hA X hl hI hin
  have X : Cx p s m args meth c cX10_bestCall 8 RX10 (some .int) := X
  have hl : lv_has ls 8 [(0, .ref (a_wi 0)), (1, .ref (a_bo 0)), (2, .ref (a_now 0))] := hl
  obtain ⟨hx, hb, hml, hown, ht, hr, hlk⟩ := id X
  clear ha hin
  have L_72 : ∀ (x3 : Int32) (x4 : Int32) (x5 : Int32) (wb : BoS) (k10 : (Int32) → (Int32) → (Int32) → (BoS) → (BoS) → (MoS) → (RiS) → Option (Int32 × (BoS))) (H : Heap) (locs : List Loc) (ls : Array Slot), lv_has ls 8 [(0, .ref (a_wi 0)), (1, .ref (a_bo 0)), (2, .ref (a_now 0)), (3, .int x3), (4, .int x4), (5, .int x5)] → In g A s.heap s (wWi g a_wi (a_ri 0) (a_wb 0) ++ (wBo g a_bo (a_ri 0) bo ++ (wBo g a_wb (a_ri 0) wb ++ (wMo g a_now now ++ (wRi g a_ri ri ++ []))))) H locs → f_X10_bestCall_L72 x3 x4 x5 wb bo now ri k10 = some (r_, o_wb) → (∀ (x3 : Int32) (x4 : Int32) (x5 : Int32) (wb : BoS) (H : Heap) (locs : List Loc) (ls : Array Slot), lv_has ls 8 [(0, .ref (a_wi 0)), (1, .ref (a_bo 0)), (2, .ref (a_now 0)), (3, .int x3), (4, .int x4), (5, .int x5)] → In g A s.heap s (wWi g a_wi (a_ri 0) (a_wb 0) ++ (wBo g a_bo (a_ri 0) bo ++ (wBo g a_wb (a_ri 0) wb ++ (wMo g a_now now ++ (wRi g a_ri ri ++ []))))) H locs → k10 x3 x4 x5 wb bo now ri = some (r_, o_wb) → W p l e rm_X10_bestCall s m args below meth c H locs 0 0 Q (F0 m 10 ls [])) → W p l e rm_X10_bestCall s m args below meth c H locs 0 0 Q (F0 m 72 ls []) := by
    intro x3 x4 x5 wb k10 H locs ls hl hI hf hk10
    unfold f_X10_bestCall_L72 at hf
    obtain ⟨v_5, e_⟩ : ∃ y : Int32, y = (x5 + (1 : Int32)) := ⟨_, rfl⟩
    replace hf := lt_to e_ hf
    refine lv_iinc (v := v_5) (lv' := [(5, .int v_5), (0, .ref (a_wi 0)), (1, .ref (a_bo 0)), (2, .ref (a_now 0)), (3, .int x3), (4, .int x4)]) hx hb dX10_bestCall_72 hl (k := 5) rfl (by rw [e_]; rfl) (by decide) rfl (fun ls hl => ?_)
    clear e_
    refine lv_goto (tgt := 10) hx hb dX10_bestCall_75 (by decide) ?_
    exact hk10 x3 x4 v_5 wb _ _ _ (lv_sub hl [1, 2, 3, 4, 5, 0] rfl) hI hf
  have L_10 : ∀ (n_ : Nat) (x3 : Int32) (x4 : Int32) (x5 : Int32) (wb : BoS) (H : Heap) (locs : List Loc) (ls : Array Slot), lv_has ls 8 [(0, .ref (a_wi 0)), (1, .ref (a_bo 0)), (2, .ref (a_now 0)), (3, .int x3), (4, .int x4), (5, .int x5)] → In g A s.heap s (wWi g a_wi (a_ri 0) (a_wb 0) ++ (wBo g a_bo (a_ri 0) bo ++ (wBo g a_wb (a_ri 0) wb ++ (wMo g a_now now ++ (wRi g a_ri ri ++ []))))) H locs → f_X10_bestCall_L10 n_ x3 x4 x5 wb bo now ri = some (r_, o_wb) → W p l e rm_X10_bestCall s m args below meth c H locs 0 0 Q (F0 m 10 ls []) := by
    intro n_
    induction n_ with
    | zero =>
      intro x3 x4 x5 wb H locs ls hl hI hf
      rw [f_X10_bestCall_L10] at hf
      cases hf
    | succ n_ ih =>
      intro x3 x4 x5 wb H locs ls hl hI hf
      rw [f_X10_bestCall_L10] at hf
      refine lv_iload hx hb dX10_bestCall_10 (lv_at hl 5 rfl) ?_
      refine lv_aload_n hx hb dX10_bestCall_12 rfl (lv_at hl 1 rfl) ?_
      refine g_Bo_count X hI has_Bo.l.r (hI.fn (List.mem_of_getElem? (i := 76) rfl)) dX10_bestCall_13 ?_
      refine lv_icmp_ge (tgt := 78) hx hb dX10_bestCall_16 (by decide) (fun h_ => ?_) (fun h_ => ?_)
      · replace hf := if_t h_ hf
        refine lv_iload_n hx hb dX10_bestCall_78 rfl (lv_at hl 3 rfl) ?_
        cases hf
        exact end_i hQ hA X hI dX10_bestCall_79
      · replace hf := if_f h_ hf
        refine lv_aload_n hx hb dX10_bestCall_19 rfl (lv_at hl 1 rfl) ?_
        refine g_Bo_numbers X hI has_Bo.l.r (hI.fn (List.mem_of_getElem? (i := 73) rfl)) dX10_bestCall_20 ?_
        refine lv_iload hx hb dX10_bestCall_23 (lv_at hl 5 rfl) ?_
        obtain ⟨h_, hf⟩ := ck_someM hf
        refine ld_I X hI has_Bo_numbers.l.r h_ dX10_bestCall_25 ?_
        refine lv_topi (fun v_1 e_ => ?_)
        replace hf := lt_to e_ hf
        clear e_
        refine lv_istore (lv' := [(6, .int v_1), (0, .ref (a_wi 0)), (1, .ref (a_bo 0)), (2, .ref (a_now 0)), (3, .int x3), (4, .int x4), (5, .int x5)]) hx hb dX10_bestCall_26 hl (by decide) rfl (fun ls hl => ?_)
        refine lv_aload_n hx hb dX10_bestCall_28 rfl (lv_at hl 1 rfl) ?_
        refine g_Wi_trial X hI has_Wi.l (X.fl w_630) dX10_bestCall_29 ?_
        refine lv_aload_n hx hb dX10_bestCall_32 rfl (lv_at hl 2 rfl) ?_
        refine lv_iload hx hb dX10_bestCall_33 (lv_at hl 0 rfl) ?_
        obtain ⟨r_2, hc_, hf⟩ := bd1_some hf
        refine call_Vl X hI (Cj.skip (Cj.keep Cj.nil)) (c_X0_after l g a_bo (a_ri 0) bo v_1 r_2 hc_) ⟨rfl, rfl⟩ ⟨ht _ w_1194, w_1166, ht _ w_150, lk_X0_after⟩ w_1164 w_1165 rfl rfl rfl hl rfl rfl dX10_bestCall_35 rfl rfl rfl rfl (fun H locs hI => ?_)
        refine lv_aload_n hx hb dX10_bestCall_38 rfl (lv_at hl 3 rfl) ?_
        refine g_Mo_plus X hI has_Mo.l.r.r.r (hI.fn (List.mem_of_getElem? (i := 58) rfl)) dX10_bestCall_39 ?_
        refine lv_aload_n hx hb dX10_bestCall_42 rfl (lv_at hl 3 rfl) ?_
        refine g_Mo_parted X hI has_Mo.l.r.r.r (hI.fn (List.mem_of_getElem? (i := 61) rfl)) dX10_bestCall_43 ?_
        obtain ⟨wb_3, hc_, hf⟩ := bd1_some hf
        refine call_Vv X hI (Cj.skip (Cj.skip (Cj.keep (Cj.skip (Cj.keep Cj.id))))) (c_X0_layOut l g a_wb a_ri wb ri r_2 (Mo_plus now) (Mo_parted now) wb_3 hc_) ⟨rfl, rfl⟩ ⟨ht _ w_1195, w_943, ht _ w_150, lk_X0_layOut⟩ w_941 w_942 rfl rfl rfl hl rfl rfl dX10_bestCall_46 rfl rfl rfl rfl (fun H locs hI => ?_)
        refine lv_aload_n hx hb dX10_bestCall_49 rfl (lv_at hl 1 rfl) ?_
        refine g_Wi_trial X hI has_Wi.l (X.fl w_630) dX10_bestCall_50 ?_
        obtain ⟨r_4, hc_, hf⟩ := bd1_some hf
        refine call_Si X hI (Cj.skip (Cj.skip (Cj.keep Cj.nil))) (c_X10_leastBehind l g a_wb (a_ri 0) wb_3 r_4 hc_) ⟨rfl, rfl⟩ ⟨ht _ w_1196, w_1198, ht _ w_152, lk_X10_leastBehind⟩ w_1197 rfl hl rfl rfl dX10_bestCall_53 rfl rfl rfl rfl (fun H locs hI => ?_)
        refine lv_istore (lv' := [(7, .int r_4), (6, .int v_1), (0, .ref (a_wi 0)), (1, .ref (a_bo 0)), (2, .ref (a_now 0)), (3, .int x3), (4, .int x4), (5, .int x5)]) hx hb dX10_bestCall_56 hl (by decide) rfl (fun ls hl => ?_)
        refine lv_iload hx hb dX10_bestCall_58 (lv_at hl 0 rfl) ?_
        refine lv_iload hx hb dX10_bestCall_60 (lv_at hl 6 rfl) ?_
        refine lv_icmp_ge (tgt := 72) hx hb dX10_bestCall_62 (by decide) (fun h_ => ?_) (fun h_ => ?_)
        · replace hf := if_t h_ hf
          exact L_72 x3 x4 x5 wb_3 _ _ _ _ (lv_sub hl [2, 3, 4, 5, 6, 7] rfl) hI hf (fun z_0 z_1 z_2 z_3 _ _ _ hl hI hf => ih z_0 z_1 z_2 z_3 _ _ _ hl hI hf)
        · replace hf := if_f h_ hf
          refine lv_iload hx hb dX10_bestCall_65 (lv_at hl 0 rfl) ?_
          refine lv_istore (lv' := [(4, .int r_4), (7, .int r_4), (6, .int v_1), (0, .ref (a_wi 0)), (1, .ref (a_bo 0)), (2, .ref (a_now 0)), (3, .int x3), (5, .int x5)]) hx hb dX10_bestCall_67 hl (by decide) rfl (fun ls hl => ?_)
          refine lv_iload hx hb dX10_bestCall_69 (lv_at hl 2 rfl) ?_
          refine lv_istore_n (lv' := [(3, .int v_1), (4, .int r_4), (7, .int r_4), (6, .int v_1), (0, .ref (a_wi 0)), (1, .ref (a_bo 0)), (2, .ref (a_now 0)), (5, .int x5)]) hx hb dX10_bestCall_71 rfl hl (by decide) rfl (fun ls hl => ?_)
          exact L_72 v_1 r_4 x5 wb_3 _ _ _ _ (lv_sub hl [4, 5, 6, 0, 1, 7] rfl) hI hf (fun z_0 z_1 z_2 z_3 _ _ _ hl hI hf => ih z_0 z_1 z_2 z_3 _ _ _ hl hI hf)
  unfold f_X10_bestCall at hf
  refine lv_bipush (v := (-2)) hx hb dX10_bestCall_0 (by decide) ?_
  refine lv_istore_n (lv' := [(3, .int (-2 : Int32)), (0, .ref (a_wi 0)), (1, .ref (a_bo 0)), (2, .ref (a_now 0))]) hx hb dX10_bestCall_2 rfl hl (by decide) rfl (fun ls hl => ?_)
  refine lv_bipush (v := 8) hx hb dX10_bestCall_3 (by decide) ?_
  refine lv_istore (lv' := [(4, .int (8 : Int32)), (3, .int (-2 : Int32)), (0, .ref (a_wi 0)), (1, .ref (a_bo 0)), (2, .ref (a_now 0))]) hx hb dX10_bestCall_5 hl (by decide) rfl (fun ls hl => ?_)
  refine lv_iconst (v := 0) hx hb dX10_bestCall_7 (by decide) ?_
  refine lv_istore (lv' := [(5, .int (0 : Int32)), (4, .int (8 : Int32)), (3, .int (-2 : Int32)), (0, .ref (a_wi 0)), (1, .ref (a_bo 0)), (2, .ref (a_now 0))]) hx hb dX10_bestCall_8 hl (by decide) rfl (fun ls hl => ?_)
  exact L_10 FU (-2 : Int32) (8 : Int32) (0 : Int32) wb _ _ _ (lv_sub hl [3, 4, 5, 2, 1, 0] rfl) hI hf
abbrev rm_X10_bestOwn : Room := { frames := 2, cells := 0, slots := 0, locals := 41 }
set_option maxRecDepth 20000 in
theorem c_X10_bestOwn (l : Launch) (g : GT) (a_bo : Nat → Nat) (a_ri : Nat → Nat) (bo : BoS) (ri : RiS) (p1 : Int32) (r_ : Int32) (hf : f_X10_bestOwn bo ri p1 = some (r_)) : CI l yX10_bestOwn cX10_bestOwn 8 (some .int) rm_X10_bestOwn g [.ref (a_bo 0), .int p1] (wBo g a_bo (a_ri 0) bo ++ (wRi g a_ri ri ++ [])) (wBo g a_bo (a_ri 0) bo ++ (wRi g a_ri ri ++ [])) r_ := by
  refine start2 (y := yX10_bestOwn) (cc := cX10_bestOwn) (n := 8) (av := [.ref (a_bo 0), .int p1]) (ws := (wBo g a_bo (a_ri 0) bo ++ (wRi g a_ri ri ++ []))) (Qc := fun sz => QI g (wBo g a_bo (a_ri 0) bo ++ (wRi g a_ri ri ++ [])) (wBo g a_bo (a_ri 0) bo ++ (wRi g a_ri ri ++ [])) r_ sz) (by decide) rfl ?_
  intro p e s m args below meth c ls Q A ha hQ hA X hl hI hin
  have X : Cx p s m args meth c cX10_bestOwn 8 RX10 (some .int) := X
  have hl : lv_has ls 8 [(0, .ref (a_bo 0)), (1, .int p1)] := hl
  obtain ⟨hx, hb, hml, hown, ht, hr, hlk⟩ := id X
  clear ha hin
  have L_80 : ∀ (x2 : Int32) (x3 : Int32) (x4 : Int32) (x5 : Int32) (k16 : (Int32) → (Int32) → (Int32) → (Int32) → (BoS) → Option (Int32)) (H : Heap) (locs : List Loc) (ls : Array Slot), lv_has ls 8 [(0, .ref (a_bo 0)), (2, .int x2), (3, .int x3), (4, .int x4), (5, .int x5)] → In g A s.heap s (wBo g a_bo (a_ri 0) bo ++ (wRi g a_ri ri ++ [])) H locs → f_X10_bestOwn_L80 x2 x3 x4 x5 bo k16 = some (r_) → (∀ (x2 : Int32) (x3 : Int32) (x4 : Int32) (x5 : Int32) (H : Heap) (locs : List Loc) (ls : Array Slot), lv_has ls 8 [(0, .ref (a_bo 0)), (2, .int x2), (3, .int x3), (4, .int x4), (5, .int x5)] → In g A s.heap s (wBo g a_bo (a_ri 0) bo ++ (wRi g a_ri ri ++ [])) H locs → k16 x2 x3 x4 x5 bo = some (r_) → W p l e rm_X10_bestOwn s m args below meth c H locs 0 0 Q (F0 m 16 ls [])) → W p l e rm_X10_bestOwn s m args below meth c H locs 0 0 Q (F0 m 80 ls []) := by
    intro x2 x3 x4 x5 k16 H locs ls hl hI hf hk16
    unfold f_X10_bestOwn_L80 at hf
    obtain ⟨v_6, e_⟩ : ∃ y : Int32, y = (x5 + (1 : Int32)) := ⟨_, rfl⟩
    replace hf := lt_to e_ hf
    refine lv_iinc (v := v_6) (lv' := [(5, .int v_6), (0, .ref (a_bo 0)), (2, .int x2), (3, .int x3), (4, .int x4)]) hx hb dX10_bestOwn_80 hl (k := 4) rfl (by rw [e_]; rfl) (by decide) rfl (fun ls hl => ?_)
    clear e_
    refine lv_goto (tgt := 16) hx hb dX10_bestOwn_83 (by decide) ?_
    exact hk16 x2 x3 x4 v_6 _ _ _ (lv_sub hl [1, 2, 3, 4, 0] rfl) hI hf
  have L_51 : ∀ (x2 : Int32) (x3 : Int32) (x4 : Int32) (x5 : Int32) (x6 : Int32) (t0i : Int32) (k16 : (Int32) → (Int32) → (Int32) → (Int32) → (BoS) → Option (Int32)) (H : Heap) (locs : List Loc) (ls : Array Slot), lv_has ls 8 [(0, .ref (a_bo 0)), (2, .int x2), (3, .int x3), (4, .int x4), (5, .int x5), (6, .int x6)] → In g A s.heap s (wBo g a_bo (a_ri 0) bo ++ (wRi g a_ri ri ++ [])) H locs → f_X10_bestOwn_L51 x2 x3 x4 x5 x6 t0i bo k16 = some (r_) → (∀ (x2 : Int32) (x3 : Int32) (x4 : Int32) (x5 : Int32) (H : Heap) (locs : List Loc) (ls : Array Slot), lv_has ls 8 [(0, .ref (a_bo 0)), (2, .int x2), (3, .int x3), (4, .int x4), (5, .int x5)] → In g A s.heap s (wBo g a_bo (a_ri 0) bo ++ (wRi g a_ri ri ++ [])) H locs → k16 x2 x3 x4 x5 bo = some (r_) → W p l e rm_X10_bestOwn s m args below meth c H locs 0 0 Q (F0 m 16 ls [])) → W p l e rm_X10_bestOwn s m args below meth c H locs 0 0 Q (F0 m 51 ls [.int t0i]) := by
    intro x2 x3 x4 x5 x6 t0i k16 H locs ls hl hI hf hk16
    unfold f_X10_bestOwn_L51 at hf
    refine lv_istore (lv' := [(7, .int t0i), (0, .ref (a_bo 0)), (2, .int x2), (3, .int x3), (4, .int x4), (5, .int x5), (6, .int x6)]) hx hb dX10_bestOwn_51 hl (by decide) rfl (fun ls hl => ?_)
    refine lv_iload hx hb dX10_bestOwn_53 (lv_at hl 0 rfl) ?_
    refine lv_if_eq (tgt := 80) hx hb dX10_bestOwn_55 (by decide) (fun h_ => ?_) (fun h_ => ?_)
    · replace hf := if_t h_ hf
      exact L_80 x2 x3 x4 x5 _ _ _ _ (lv_sub hl [1, 2, 3, 4, 5] rfl) hI hf hk16
    · replace hf := if_f h_ hf
      refine lv_aload_n hx hb dX10_bestOwn_58 rfl (lv_at hl 1 rfl) ?_
      refine lv_iload hx hb dX10_bestOwn_59 (lv_at hl 6 rfl) ?_
      obtain ⟨r_4, hc_, hf⟩ := bd1_some hf
      refine call_Vi X hI (Cj.keep Cj.nil) (c_X0_leftBehind l g a_bo (a_ri 0) bo x6 r_4 hc_) ⟨rfl, rfl⟩ ⟨ht _ w_1199, w_1202, ht _ w_150, lk_X0_leftBehind⟩ w_1200 w_1201 rfl rfl rfl hl rfl rfl dX10_bestOwn_61 rfl rfl rfl rfl (fun H locs hI => ?_)
      refine lv_iload hx hb dX10_bestOwn_64 (lv_at hl 4 rfl) ?_
      refine lv_icmp_ge (tgt := 80) hx hb dX10_bestOwn_66 (by decide) (fun h_ => ?_) (fun h_ => ?_)
      · replace hf := if_t h_ hf
        exact L_80 x2 x3 x4 x5 _ _ _ _ (lv_sub hl [1, 2, 3, 4, 5] rfl) hI hf hk16
      · replace hf := if_f h_ hf
        refine lv_aload_n hx hb dX10_bestOwn_69 rfl (lv_at hl 1 rfl) ?_
        refine lv_iload hx hb dX10_bestOwn_70 (lv_at hl 6 rfl) ?_
        obtain ⟨r_5, hc_, hf⟩ := bd1_some hf
        refine call_Vi X hI (Cj.keep Cj.nil) (c_X0_leftBehind l g a_bo (a_ri 0) bo x6 r_5 hc_) ⟨rfl, rfl⟩ ⟨ht _ w_1199, w_1202, ht _ w_150, lk_X0_leftBehind⟩ w_1200 w_1201 rfl rfl rfl hl rfl rfl dX10_bestOwn_72 rfl rfl rfl rfl (fun H locs hI => ?_)
        refine lv_istore (lv' := [(4, .int r_5), (7, .int t0i), (0, .ref (a_bo 0)), (2, .int x2), (3, .int x3), (5, .int x5), (6, .int x6)]) hx hb dX10_bestOwn_75 hl (by decide) rfl (fun ls hl => ?_)
        refine lv_iload hx hb dX10_bestOwn_77 (lv_at hl 6 rfl) ?_
        refine lv_istore_n (lv' := [(3, .int x6), (4, .int r_5), (7, .int t0i), (0, .ref (a_bo 0)), (2, .int x2), (5, .int x5), (6, .int x6)]) hx hb dX10_bestOwn_79 rfl hl (by decide) rfl (fun ls hl => ?_)
        exact L_80 x2 x6 r_5 x5 _ _ _ _ (lv_sub hl [3, 4, 0, 1, 5] rfl) hI hf hk16
  have L_16 : ∀ (n_ : Nat) (x2 : Int32) (x3 : Int32) (x4 : Int32) (x5 : Int32) (H : Heap) (locs : List Loc) (ls : Array Slot), lv_has ls 8 [(0, .ref (a_bo 0)), (2, .int x2), (3, .int x3), (4, .int x4), (5, .int x5)] → In g A s.heap s (wBo g a_bo (a_ri 0) bo ++ (wRi g a_ri ri ++ [])) H locs → f_X10_bestOwn_L16 n_ x2 x3 x4 x5 bo = some (r_) → W p l e rm_X10_bestOwn s m args below meth c H locs 0 0 Q (F0 m 16 ls []) := by
    intro n_
    induction n_ with
    | zero =>
      intro x2 x3 x4 x5 H locs ls hl hI hf
      rw [f_X10_bestOwn_L16] at hf
      cases hf
    | succ n_ ih =>
      intro x2 x3 x4 x5 H locs ls hl hI hf
      rw [f_X10_bestOwn_L16] at hf
      refine lv_iload hx hb dX10_bestOwn_16 (lv_at hl 4 rfl) ?_
      refine lv_aload_n hx hb dX10_bestOwn_18 rfl (lv_at hl 0 rfl) ?_
      refine g_Bo_count X hI has_Bo.l (hI.fn (List.mem_of_getElem? (i := 76) rfl)) dX10_bestOwn_19 ?_
      refine lv_icmp_ge (tgt := 86) hx hb dX10_bestOwn_22 (by decide) (fun h_ => ?_) (fun h_ => ?_)
      · replace hf := if_t h_ hf
        refine lv_iload_n hx hb dX10_bestOwn_86 rfl (lv_at hl 2 rfl) ?_
        cases hf
        exact end_i hQ hA X hI dX10_bestOwn_87
      · replace hf := if_f h_ hf
        refine lv_aload_n hx hb dX10_bestOwn_25 rfl (lv_at hl 0 rfl) ?_
        refine g_Bo_numbers X hI has_Bo.l (hI.fn (List.mem_of_getElem? (i := 73) rfl)) dX10_bestOwn_26 ?_
        refine lv_iload hx hb dX10_bestOwn_29 (lv_at hl 4 rfl) ?_
        obtain ⟨h_, hf⟩ := ck_someM hf
        refine ld_I X hI has_Bo_numbers.l h_ dX10_bestOwn_31 ?_
        refine lv_topi (fun v_2 e_ => ?_)
        replace hf := lt_to e_ hf
        clear e_
        refine lv_istore (lv' := [(6, .int v_2), (0, .ref (a_bo 0)), (2, .int x2), (3, .int x3), (4, .int x4), (5, .int x5)]) hx hb dX10_bestOwn_32 hl (by decide) rfl (fun ls hl => ?_)
        refine lv_iload hx hb dX10_bestOwn_34 (lv_at hl 0 rfl) ?_
        obtain ⟨r_3, hc_, hf⟩ := bd1_some hf
        refine call_Si X hI Cj.nil (c_X0_touchedBy l g v_2 r_3 hc_) ⟨rfl, rfl⟩ ⟨ht _ w_1340, w_1342, ht _ w_150, lk_X0_touchedBy⟩ w_1341 rfl hl rfl rfl dX10_bestOwn_36 rfl rfl rfl rfl (fun H locs hI => ?_)
        refine lv_iload_n hx hb dX10_bestOwn_39 rfl (lv_at hl 2 rfl) ?_
        refine lv_iconst (v := (-1)) hx hb dX10_bestOwn_40 (by decide) ?_
        refine lv_ixor hx hb dX10_bestOwn_41 ?_
        refine lv_iand hx hb dX10_bestOwn_42 ?_
        refine lv_if_ne (tgt := 50) hx hb dX10_bestOwn_43 (by decide) (fun h_ => ?_) (fun h_ => ?_)
        · replace hf := if_f h_ hf
          refine lv_iconst (v := 0) hx hb dX10_bestOwn_50 (by decide) ?_
          exact L_51 x2 x3 x4 x5 v_2 (0 : Int32) _ _ _ _ (lv_sub hl [1, 2, 3, 4, 5, 0] rfl) hI hf (fun z_0 z_1 z_2 z_3 _ _ _ hl hI hf => ih z_0 z_1 z_2 z_3 _ _ _ hl hI hf)
        · replace hf := if_t h_ hf
          refine lv_iconst (v := 1) hx hb dX10_bestOwn_46 (by decide) ?_
          refine lv_goto (tgt := 51) hx hb dX10_bestOwn_47 (by decide) ?_
          exact L_51 x2 x3 x4 x5 v_2 (1 : Int32) _ _ _ _ (lv_sub hl [1, 2, 3, 4, 5, 0] rfl) hI hf (fun z_0 z_1 z_2 z_3 _ _ _ hl hI hf => ih z_0 z_1 z_2 z_3 _ _ _ hl hI hf)
  unfold f_X10_bestOwn at hf
  refine lv_aload_n hx hb dX10_bestOwn_0 rfl (lv_at hl 0 rfl) ?_
  refine lv_iload_n hx hb dX10_bestOwn_1 rfl (lv_at hl 1 rfl) ?_
  obtain ⟨r_1, hc_, hf⟩ := bd1_some hf
  refine call_Vi X hI (Cj.keep (Cj.keep Cj.id)) (c_X0_seenBy l g a_bo a_ri bo ri p1 r_1 hc_) ⟨rfl, rfl⟩ ⟨ht _ w_1339, w_1331, ht _ w_150, lk_X0_seenBy⟩ w_1329 w_1330 rfl rfl rfl hl rfl rfl dX10_bestOwn_2 rfl rfl rfl rfl (fun H locs hI => ?_)
  refine lv_istore_n (lv' := [(2, .int r_1), (0, .ref (a_bo 0)), (1, .int p1)]) hx hb dX10_bestOwn_5 rfl hl (by decide) rfl (fun ls hl => ?_)
  refine lv_bipush (v := (-2)) hx hb dX10_bestOwn_6 (by decide) ?_
  refine lv_istore_n (lv' := [(3, .int (-2 : Int32)), (2, .int r_1), (0, .ref (a_bo 0)), (1, .int p1)]) hx hb dX10_bestOwn_8 rfl hl (by decide) rfl (fun ls hl => ?_)
  refine lv_bipush (v := 8) hx hb dX10_bestOwn_9 (by decide) ?_
  refine lv_istore (lv' := [(4, .int (8 : Int32)), (3, .int (-2 : Int32)), (2, .int r_1), (0, .ref (a_bo 0)), (1, .int p1)]) hx hb dX10_bestOwn_11 hl (by decide) rfl (fun ls hl => ?_)
  refine lv_iconst (v := 0) hx hb dX10_bestOwn_13 (by decide) ?_
  refine lv_istore (lv' := [(5, .int (0 : Int32)), (4, .int (8 : Int32)), (3, .int (-2 : Int32)), (2, .int r_1), (0, .ref (a_bo 0)), (1, .int p1)]) hx hb dX10_bestOwn_14 hl (by decide) rfl (fun ls hl => ?_)
  exact L_16 FU r_1 (-2 : Int32) (8 : Int32) (0 : Int32) _ _ _ (lv_sub hl [4, 3, 2, 1, 0] rfl) hI hf
abbrev rm_X10_leftBehindRounds : Room := { frames := 5, cells := 0, slots := 0, locals := 117 }
set_option maxRecDepth 20000 in
theorem c_X10_leftBehindRounds (l : Launch) (g : GT) (a_wi : Nat → Nat) (a_wb : Nat → Nat) (a_now : Nat → Nat) (a_ri : Nat → Nat) (wb : BoS) (now : MoS) (ri : RiS) (p2 : Int32) (r_ : Int32) (o_wb : BoS) (hf : f_X10_leftBehindRounds wb now ri p2 = some (r_, o_wb)) : CI l yX10_leftBehindRounds cX10_leftBehindRounds 6 (some .int) rm_X10_leftBehindRounds g [.ref (a_wi 0), .ref (a_now 0), .int p2] (wWi g a_wi (a_ri 0) (a_wb 0) ++ (wBo g a_wb (a_ri 0) wb ++ (wMo g a_now now ++ (wRi g a_ri ri ++ [])))) (wWi g a_wi (a_ri 0) (a_wb 0) ++ (wBo g a_wb (a_ri 0) o_wb ++ (wMo g a_now now ++ (wRi g a_ri ri ++ [])))) r_ := by
  refine start2 (y := yX10_leftBehindRounds) (cc := cX10_leftBehindRounds) (n := 6) (av := [.ref (a_wi 0), .ref (a_now 0), .int p2]) (ws := (wWi g a_wi (a_ri 0) (a_wb 0) ++ (wBo g a_wb (a_ri 0) wb ++ (wMo g a_now now ++ (wRi g a_ri ri ++ []))))) (Qc := fun sz => QI g (wWi g a_wi (a_ri 0) (a_wb 0) ++ (wBo g a_wb (a_ri 0) wb ++ (wMo g a_now now ++ (wRi g a_ri ri ++ [])))) (wWi g a_wi (a_ri 0) (a_wb 0) ++ (wBo g a_wb (a_ri 0) o_wb ++ (wMo g a_now now ++ (wRi g a_ri ri ++ [])))) r_ sz) (by decide) rfl ?_
  intro p e s m args below meth c ls Q A ha hQ hA X hl hI hin
  have X : Cx p s m args meth c cX10_leftBehindRounds 6 RX10 (some .int) := X
  have hl : lv_has ls 6 [(0, .ref (a_wi 0)), (1, .ref (a_now 0)), (2, .int p2)] := hl
  obtain ⟨hx, hb, hml, hown, ht, hr, hlk⟩ := id X
  clear ha hin
  have L_76 : ∀ (x2 : Int32) (x3 : Int32) (x4 : Int32) (wb : BoS) (k18 : (Int32) → (Int32) → (Int32) → (BoS) → (RiS) → Option (Int32 × (BoS))) (H : Heap) (locs : List Loc) (ls : Array Slot), lv_has ls 6 [(0, .ref (a_wi 0)), (2, .int x2), (3, .int x3), (4, .int x4)] → In g A s.heap s (wWi g a_wi (a_ri 0) (a_wb 0) ++ (wBo g a_wb (a_ri 0) wb ++ (wMo g a_now now ++ (wRi g a_ri ri ++ [])))) H locs → f_X10_leftBehindRounds_L76 x2 x3 x4 wb ri k18 = some (r_, o_wb) → (∀ (x2 : Int32) (x3 : Int32) (x4 : Int32) (wb : BoS) (H : Heap) (locs : List Loc) (ls : Array Slot), lv_has ls 6 [(0, .ref (a_wi 0)), (2, .int x2), (3, .int x3), (4, .int x4)] → In g A s.heap s (wWi g a_wi (a_ri 0) (a_wb 0) ++ (wBo g a_wb (a_ri 0) wb ++ (wMo g a_now now ++ (wRi g a_ri ri ++ [])))) H locs → k18 x2 x3 x4 wb ri = some (r_, o_wb) → W p l e rm_X10_leftBehindRounds s m args below meth c H locs 0 0 Q (F0 m 18 ls [])) → W p l e rm_X10_leftBehindRounds s m args below meth c H locs 0 0 Q (F0 m 76 ls []) := by
    intro x2 x3 x4 wb k18 H locs ls hl hI hf hk18
    unfold f_X10_leftBehindRounds_L76 at hf
    obtain ⟨v_6, e_⟩ : ∃ y : Int32, y = (x4 + (1 : Int32)) := ⟨_, rfl⟩
    replace hf := lt_to e_ hf
    refine lv_iinc (v := v_6) (lv' := [(4, .int v_6), (0, .ref (a_wi 0)), (2, .int x2), (3, .int x3)]) hx hb dX10_leftBehindRounds_76 hl (k := 3) rfl (by rw [e_]; rfl) (by decide) rfl (fun ls hl => ?_)
    clear e_
    refine lv_goto (tgt := 18) hx hb dX10_leftBehindRounds_79 (by decide) ?_
    exact hk18 x2 x3 v_6 wb _ _ _ (lv_sub hl [1, 2, 3, 0] rfl) hI hf
  have L_18 : ∀ (n_ : Nat) (x2 : Int32) (x3 : Int32) (x4 : Int32) (wb : BoS) (k10 : (Int32) → (Int32) → (BoS) → (RiS) → Option (Int32 × (BoS))) (H : Heap) (locs : List Loc) (ls : Array Slot), lv_has ls 6 [(0, .ref (a_wi 0)), (2, .int x2), (3, .int x3), (4, .int x4)] → In g A s.heap s (wWi g a_wi (a_ri 0) (a_wb 0) ++ (wBo g a_wb (a_ri 0) wb ++ (wMo g a_now now ++ (wRi g a_ri ri ++ [])))) H locs → f_X10_leftBehindRounds_L18 n_ x2 x3 x4 wb ri k10 = some (r_, o_wb) → (∀ (x2 : Int32) (x3 : Int32) (wb : BoS) (H : Heap) (locs : List Loc) (ls : Array Slot), lv_has ls 6 [(0, .ref (a_wi 0)), (2, .int x2), (3, .int x3)] → In g A s.heap s (wWi g a_wi (a_ri 0) (a_wb 0) ++ (wBo g a_wb (a_ri 0) wb ++ (wMo g a_now now ++ (wRi g a_ri ri ++ [])))) H locs → k10 x2 x3 wb ri = some (r_, o_wb) → W p l e rm_X10_leftBehindRounds s m args below meth c H locs 0 0 Q (F0 m 10 ls [])) → W p l e rm_X10_leftBehindRounds s m args below meth c H locs 0 0 Q (F0 m 18 ls []) := by
    intro n_
    induction n_ with
    | zero =>
      intro x2 x3 x4 wb k10 H locs ls hl hI hf hk10
      rw [f_X10_leftBehindRounds_L18] at hf
      cases hf
    | succ n_ ih =>
      intro x2 x3 x4 wb k10 H locs ls hl hI hf hk10
      rw [f_X10_leftBehindRounds_L18] at hf
      refine lv_iload hx hb dX10_leftBehindRounds_18 (lv_at hl 3 rfl) ?_
      refine lv_aload_n hx hb dX10_leftBehindRounds_20 rfl (lv_at hl 0 rfl) ?_
      refine g_Wi_rings X hI has_Wi.l (X.fl w_629) dX10_leftBehindRounds_21 ?_
      refine g_Ri_people X hI has_Ri.l.r.r.r (hI.fn (List.mem_of_getElem? (i := 27) rfl)) dX10_leftBehindRounds_24 ?_
      refine lv_icmp_ge (tgt := 82) hx hb dX10_leftBehindRounds_27 (by decide) (fun h_ => ?_) (fun h_ => ?_)
      · replace hf := if_t h_ hf
        obtain ⟨v_2, e_⟩ : ∃ y : Int32, y = (x3 + (1 : Int32)) := ⟨_, rfl⟩
        replace hf := lt_to e_ hf
        refine lv_iinc (v := v_2) (lv' := [(3, .int v_2), (0, .ref (a_wi 0)), (2, .int x2), (4, .int x4)]) hx hb dX10_leftBehindRounds_82 hl (k := 2) rfl (by rw [e_]; rfl) (by decide) rfl (fun ls hl => ?_)
        clear e_
        refine lv_goto (tgt := 10) hx hb dX10_leftBehindRounds_85 (by decide) ?_
        exact hk10 x2 v_2 wb _ _ _ (lv_sub hl [1, 2, 0] rfl) hI hf
      · replace hf := if_f h_ hf
        refine lv_aload_n hx hb dX10_leftBehindRounds_30 rfl (lv_at hl 0 rfl) ?_
        refine g_Wi_trial X hI has_Wi.l (X.fl w_630) dX10_leftBehindRounds_31 ?_
        refine lv_iload hx hb dX10_leftBehindRounds_34 (lv_at hl 3 rfl) ?_
        obtain ⟨r_3, hc_, hf⟩ := bd1_some hf
        refine call_Si X hI (Cj.skip (Cj.keep (Cj.skip (Cj.keep Cj.id)))) (c_X10_bestOwn l g a_wb a_ri wb ri x4 r_3 hc_) ⟨rfl, rfl⟩ ⟨ht _ w_1352, w_1338, ht _ w_152, lk_X10_bestOwn⟩ w_1337 rfl hl rfl rfl dX10_leftBehindRounds_36 rfl rfl rfl rfl (fun H locs hI => ?_)
        refine lv_istore (lv' := [(5, .int r_3), (0, .ref (a_wi 0)), (2, .int x2), (3, .int x3), (4, .int x4)]) hx hb dX10_leftBehindRounds_39 hl (by decide) rfl (fun ls hl => ?_)
        refine lv_iload hx hb dX10_leftBehindRounds_41 (lv_at hl 0 rfl) ?_
        refine lv_bipush (v := (-2)) hx hb dX10_leftBehindRounds_43 (by decide) ?_
        refine lv_icmp_eq (tgt := 76) hx hb dX10_leftBehindRounds_45 (by decide) (fun h_ => ?_) (fun h_ => ?_)
        · replace hf := if_t h_ hf
          exact L_76 x2 x3 x4 wb _ _ _ _ (lv_sub hl [1, 2, 3, 4] rfl) hI hf (fun z_0 z_1 z_2 z_3 _ _ _ hl hI hf => ih z_0 z_1 z_2 z_3 k10 _ _ _ hl hI hf hk10)
        · replace hf := if_f h_ hf
          refine lv_aload_n hx hb dX10_leftBehindRounds_48 rfl (lv_at hl 1 rfl) ?_
          refine g_Wi_trial X hI has_Wi.l (X.fl w_630) dX10_leftBehindRounds_49 ?_
          refine lv_iload hx hb dX10_leftBehindRounds_52 (lv_at hl 0 rfl) ?_
          obtain ⟨r_4, hc_, hf⟩ := bd1_some hf
          refine call_Vi X hI (Cj.skip (Cj.keep Cj.nil)) (c_X0_leftBehind l g a_wb (a_ri 0) wb r_3 r_4 hc_) ⟨rfl, rfl⟩ ⟨ht _ w_1199, w_1202, ht _ w_150, lk_X0_leftBehind⟩ w_1200 w_1201 rfl rfl rfl hl rfl rfl dX10_leftBehindRounds_54 rfl rfl rfl rfl (fun H locs hI => ?_)
          refine lv_aload_n hx hb dX10_leftBehindRounds_57 rfl (lv_at hl 1 rfl) ?_
          refine g_Wi_trial X hI has_Wi.l (X.fl w_630) dX10_leftBehindRounds_58 ?_
          refine g_Bo_left X hI has_Bo.l.r (hI.fn (List.mem_of_getElem? (i := 69) rfl)) dX10_leftBehindRounds_61 ?_
          refine lv_icmp_ge (tgt := 76) hx hb dX10_leftBehindRounds_64 (by decide) (fun h_ => ?_) (fun h_ => ?_)
          · replace hf := if_t h_ hf
            exact L_76 x2 x3 x4 wb _ _ _ _ (lv_sub hl [1, 2, 3, 4] rfl) hI hf (fun z_0 z_1 z_2 z_3 _ _ _ hl hI hf => ih z_0 z_1 z_2 z_3 k10 _ _ _ hl hI hf hk10)
          · replace hf := if_f h_ hf
            refine lv_aload_n hx hb dX10_leftBehindRounds_67 rfl (lv_at hl 1 rfl) ?_
            refine g_Wi_trial X hI has_Wi.l (X.fl w_630) dX10_leftBehindRounds_68 ?_
            refine lv_iload hx hb dX10_leftBehindRounds_71 (lv_at hl 0 rfl) ?_
            obtain ⟨wb_5, hc_, hf⟩ := bd1_some hf
            refine call_Vv X hI (Cj.skip (Cj.keep (Cj.skip (Cj.keep Cj.id)))) (c_X0_make l g a_wb a_ri wb ri r_3 wb_5 hc_) ⟨rfl, rfl⟩ ⟨ht _ w_1353, w_1356, ht _ w_150, lk_X0_make⟩ w_1354 w_1355 rfl rfl rfl hl rfl rfl dX10_leftBehindRounds_73 rfl rfl rfl rfl (fun H locs hI => ?_)
            exact L_76 x2 x3 x4 wb_5 _ _ _ _ (lv_sub hl [1, 2, 3, 4] rfl) hI hf (fun z_0 z_1 z_2 z_3 _ _ _ hl hI hf => ih z_0 z_1 z_2 z_3 k10 _ _ _ hl hI hf hk10)
  have L_10 : ∀ (n_ : Nat) (x2 : Int32) (x3 : Int32) (wb : BoS) (H : Heap) (locs : List Loc) (ls : Array Slot), lv_has ls 6 [(0, .ref (a_wi 0)), (2, .int x2), (3, .int x3)] → In g A s.heap s (wWi g a_wi (a_ri 0) (a_wb 0) ++ (wBo g a_wb (a_ri 0) wb ++ (wMo g a_now now ++ (wRi g a_ri ri ++ [])))) H locs → f_X10_leftBehindRounds_L10 n_ x2 x3 wb ri = some (r_, o_wb) → W p l e rm_X10_leftBehindRounds s m args below meth c H locs 0 0 Q (F0 m 10 ls []) := by
    intro n_
    induction n_ with
    | zero =>
      intro x2 x3 wb H locs ls hl hI hf
      rw [f_X10_leftBehindRounds_L10] at hf
      cases hf
    | succ n_ ih =>
      intro x2 x3 wb H locs ls hl hI hf
      rw [f_X10_leftBehindRounds_L10] at hf
      refine lv_iload_n hx hb dX10_leftBehindRounds_10 rfl (lv_at hl 2 rfl) ?_
      refine lv_iload_n hx hb dX10_leftBehindRounds_11 rfl (lv_at hl 1 rfl) ?_
      refine lv_icmp_ge (tgt := 88) hx hb dX10_leftBehindRounds_12 (by decide) (fun h_ => ?_) (fun h_ => ?_)
      · replace hf := if_t h_ hf
        refine lv_aload_n hx hb dX10_leftBehindRounds_88 rfl (lv_at hl 0 rfl) ?_
        refine g_Wi_trial X hI has_Wi.l (X.fl w_630) dX10_leftBehindRounds_89 ?_
        refine g_Bo_left X hI has_Bo.l.r (hI.fn (List.mem_of_getElem? (i := 69) rfl)) dX10_leftBehindRounds_92 ?_
        cases hf
        exact end_i hQ hA X hI dX10_leftBehindRounds_95
      · replace hf := if_f h_ hf
        refine lv_iconst (v := 0) hx hb dX10_leftBehindRounds_15 (by decide) ?_
        refine lv_istore (lv' := [(4, .int (0 : Int32)), (0, .ref (a_wi 0)), (2, .int x2), (3, .int x3)]) hx hb dX10_leftBehindRounds_16 hl (by decide) rfl (fun ls hl => ?_)
        exact L_18 FU x2 x3 (0 : Int32) wb _ _ _ _ (lv_sub hl [1, 2, 3, 0] rfl) hI hf (fun z_0 z_1 z_2 _ _ _ hl hI hf => ih z_0 z_1 z_2 _ _ _ hl hI hf)
  unfold f_X10_leftBehindRounds at hf
  refine lv_aload_n hx hb dX10_leftBehindRounds_0 rfl (lv_at hl 0 rfl) ?_
  refine g_Wi_trial X hI has_Wi.l (X.fl w_630) dX10_leftBehindRounds_1 ?_
  refine lv_aload_n hx hb dX10_leftBehindRounds_4 rfl (lv_at hl 1 rfl) ?_
  obtain ⟨wb_1, hc_, hf⟩ := bd1_some hf
  refine call_Vv X hI (Cj.skip (Cj.keep (Cj.keep (Cj.keep Cj.id)))) (c_X0_lay l g a_wb a_now a_ri wb now ri wb_1 hc_) ⟨rfl, rfl⟩ ⟨ht _ w_1351, w_939, ht _ w_150, lk_X0_lay⟩ w_937 w_938 rfl rfl rfl hl rfl rfl dX10_leftBehindRounds_5 rfl rfl rfl rfl (fun H locs hI => ?_)
  refine lv_iconst (v := 0) hx hb dX10_leftBehindRounds_8 (by decide) ?_
  refine lv_istore_n (lv' := [(3, .int (0 : Int32)), (0, .ref (a_wi 0)), (1, .ref (a_now 0)), (2, .int p2)]) hx hb dX10_leftBehindRounds_9 rfl hl (by decide) rfl (fun ls hl => ?_)
  exact L_10 FU p2 (0 : Int32) wb_1 _ _ _ (lv_sub hl [1, 3, 0] rfl) hI hf
abbrev rm_X10_looseTries : Room := { frames := 5, cells := 0, slots := 0, locals := 117 }
set_option maxRecDepth 20000 in
theorem c_X10_looseTries (l : Launch) (g : GT) (a_wi : Nat → Nat) (a_wb : Nat → Nat) (a_now : Nat → Nat) (a_ri : Nat → Nat) (wb : BoS) (now : MoS) (ri : RiS) (p2 : Int32) (p3 : Int32) (p4 : Int32) (r_ : Int32) (o_wb : BoS) (hf : f_X10_looseTries wb now ri p2 p3 p4 = some (r_, o_wb)) : CI l yX10_looseTries cX10_looseTries 9 (some .int) rm_X10_looseTries g [.ref (a_wi 0), .ref (a_now 0), .int p2, .int p3, .int p4] (wWi g a_wi (a_ri 0) (a_wb 0) ++ (wBo g a_wb (a_ri 0) wb ++ (wMo g a_now now ++ (wRi g a_ri ri ++ [])))) (wWi g a_wi (a_ri 0) (a_wb 0) ++ (wBo g a_wb (a_ri 0) o_wb ++ (wMo g a_now now ++ (wRi g a_ri ri ++ [])))) r_ := by
  refine start2 (y := yX10_looseTries) (cc := cX10_looseTries) (n := 9) (av := [.ref (a_wi 0), .ref (a_now 0), .int p2, .int p3, .int p4]) (ws := (wWi g a_wi (a_ri 0) (a_wb 0) ++ (wBo g a_wb (a_ri 0) wb ++ (wMo g a_now now ++ (wRi g a_ri ri ++ []))))) (Qc := fun sz => QI g (wWi g a_wi (a_ri 0) (a_wb 0) ++ (wBo g a_wb (a_ri 0) wb ++ (wMo g a_now now ++ (wRi g a_ri ri ++ [])))) (wWi g a_wi (a_ri 0) (a_wb 0) ++ (wBo g a_wb (a_ri 0) o_wb ++ (wMo g a_now now ++ (wRi g a_ri ri ++ [])))) r_ sz) (by decide) rfl ?_
  intro p e s m args below meth c ls Q A ha hQ hA X hl hI hin
  have X : Cx p s m args meth c cX10_looseTries 9 RX10 (some .int) := X
  have hl : lv_has ls 9 [(0, .ref (a_wi 0)), (1, .ref (a_now 0)), (2, .int p2), (3, .int p3), (4, .int p4)] := hl
  obtain ⟨hx, hb, hml, hown, ht, hr, hlk⟩ := id X
  clear ha hin
  have L_89 : ∀ (x3 : Int32) (x4 : Int32) (x5 : Int32) (x7 : Int32) (t0i : Int32) (t1i : Int32) (wb : BoS) (k9 : (Int32) → (Int32) → (Int32) → (Int32) → (Int32) → (BoS) → (MoS) → (RiS) → Option (Int32 × (BoS))) (H : Heap) (locs : List Loc) (ls : Array Slot), lv_has ls 9 [(0, .ref (a_wi 0)), (1, .ref (a_now 0)), (3, .int x3), (4, .int x4), (5, .int x5), (7, .int x7)] → In g A s.heap s (wWi g a_wi (a_ri 0) (a_wb 0) ++ (wBo g a_wb (a_ri 0) wb ++ (wMo g a_now now ++ (wRi g a_ri ri ++ [])))) H locs → f_X10_looseTries_L89 x3 x4 x5 x7 t0i t1i wb now ri k9 = some (r_, o_wb) → (∀ (x3 : Int32) (x4 : Int32) (x5 : Int32) (x6 : Int32) (x7 : Int32) (wb : BoS) (H : Heap) (locs : List Loc) (ls : Array Slot), lv_has ls 9 [(0, .ref (a_wi 0)), (1, .ref (a_now 0)), (3, .int x3), (4, .int x4), (5, .int x5), (6, .int x6), (7, .int x7)] → In g A s.heap s (wWi g a_wi (a_ri 0) (a_wb 0) ++ (wBo g a_wb (a_ri 0) wb ++ (wMo g a_now now ++ (wRi g a_ri ri ++ [])))) H locs → k9 x3 x4 x5 x6 x7 wb now ri = some (r_, o_wb) → W p l e rm_X10_looseTries s m args below meth c H locs 0 0 Q (F0 m 9 ls [])) → W p l e rm_X10_looseTries s m args below meth c H locs 0 0 Q (F0 m 89 ls [.int t1i, .int t0i]) := by
    intro x3 x4 x5 x7 t0i t1i wb k9 H locs ls hl hI hf hk9
    unfold f_X10_looseTries_L89 at hf
    refine lv_iadd hx hb dX10_looseTries_89 ?_
    refine lv_topi (fun v_6 e_ => ?_)
    replace hf := lt_to e_ hf
    clear e_
    refine lv_istore (lv' := [(6, .int v_6), (0, .ref (a_wi 0)), (1, .ref (a_now 0)), (3, .int x3), (4, .int x4), (5, .int x5), (7, .int x7)]) hx hb dX10_looseTries_90 hl (by decide) rfl (fun ls hl => ?_)
    obtain ⟨v_7, e_⟩ : ∃ y : Int32, y = (x7 + (1 : Int32)) := ⟨_, rfl⟩
    replace hf := lt_to e_ hf
    refine lv_iinc (v := v_7) (lv' := [(7, .int v_7), (6, .int v_6), (0, .ref (a_wi 0)), (1, .ref (a_now 0)), (3, .int x3), (4, .int x4), (5, .int x5)]) hx hb dX10_looseTries_92 hl (k := 6) rfl (by rw [e_]; rfl) (by decide) rfl (fun ls hl => ?_)
    clear e_
    refine lv_goto (tgt := 9) hx hb dX10_looseTries_95 (by decide) ?_
    exact hk9 x3 x4 x5 v_6 v_7 wb _ _ _ (lv_sub hl [2, 3, 4, 5, 6, 1, 0] rfl) hI hf
  have L_72 : ∀ (x3 : Int32) (x4 : Int32) (x5 : Int32) (x6 : Int32) (x7 : Int32) (wb : BoS) (k9 : (Int32) → (Int32) → (Int32) → (Int32) → (Int32) → (BoS) → (MoS) → (RiS) → Option (Int32 × (BoS))) (H : Heap) (locs : List Loc) (ls : Array Slot), lv_has ls 9 [(0, .ref (a_wi 0)), (1, .ref (a_now 0)), (3, .int x3), (4, .int x4), (5, .int x5), (6, .int x6), (7, .int x7)] → In g A s.heap s (wWi g a_wi (a_ri 0) (a_wb 0) ++ (wBo g a_wb (a_ri 0) wb ++ (wMo g a_now now ++ (wRi g a_ri ri ++ [])))) H locs → f_X10_looseTries_L72 x3 x4 x5 x6 x7 wb now ri k9 = some (r_, o_wb) → (∀ (x3 : Int32) (x4 : Int32) (x5 : Int32) (x6 : Int32) (x7 : Int32) (wb : BoS) (H : Heap) (locs : List Loc) (ls : Array Slot), lv_has ls 9 [(0, .ref (a_wi 0)), (1, .ref (a_now 0)), (3, .int x3), (4, .int x4), (5, .int x5), (6, .int x6), (7, .int x7)] → In g A s.heap s (wWi g a_wi (a_ri 0) (a_wb 0) ++ (wBo g a_wb (a_ri 0) wb ++ (wMo g a_now now ++ (wRi g a_ri ri ++ [])))) H locs → k9 x3 x4 x5 x6 x7 wb now ri = some (r_, o_wb) → W p l e rm_X10_looseTries s m args below meth c H locs 0 0 Q (F0 m 9 ls [])) → W p l e rm_X10_looseTries s m args below meth c H locs 0 0 Q (F0 m 72 ls []) := by
    intro x3 x4 x5 x6 x7 wb k9 H locs ls hl hI hf hk9
    unfold f_X10_looseTries_L72 at hf
    refine lv_iload hx hb dX10_looseTries_72 (lv_at hl 5 rfl) ?_
    refine lv_aload_n hx hb dX10_looseTries_74 rfl (lv_at hl 0 rfl) ?_
    refine g_Wi_trial X hI has_Wi.l (X.fl w_630) dX10_looseTries_75 ?_
    refine g_Bo_left X hI has_Bo.l.r (hI.fn (List.mem_of_getElem? (i := 69) rfl)) dX10_looseTries_78 ?_
    refine lv_if_ne (tgt := 88) hx hb dX10_looseTries_81 (by decide) (fun h_ => ?_) (fun h_ => ?_)
    · replace hf := if_f h_ hf
      refine lv_iconst (v := 0) hx hb dX10_looseTries_88 (by decide) ?_
      exact L_89 x3 x4 x5 x7 x6 (0 : Int32) wb _ _ _ _ (lv_sub hl [0, 1, 2, 3, 4, 6] rfl) hI hf hk9
    · replace hf := if_t h_ hf
      refine lv_iconst (v := 1) hx hb dX10_looseTries_84 (by decide) ?_
      refine lv_goto (tgt := 89) hx hb dX10_looseTries_85 (by decide) ?_
      exact L_89 x3 x4 x5 x7 x6 (1 : Int32) wb _ _ _ _ (lv_sub hl [0, 1, 2, 3, 4, 6] rfl) hI hf hk9
  have L_26 : ∀ (n_ : Nat) (x3 : Int32) (x4 : Int32) (x5 : Int32) (x6 : Int32) (x7 : Int32) (x8 : Int32) (wb : BoS) (k9 : (Int32) → (Int32) → (Int32) → (Int32) → (Int32) → (BoS) → (MoS) → (RiS) → Option (Int32 × (BoS))) (H : Heap) (locs : List Loc) (ls : Array Slot), lv_has ls 9 [(0, .ref (a_wi 0)), (1, .ref (a_now 0)), (3, .int x3), (4, .int x4), (5, .int x5), (6, .int x6), (7, .int x7), (8, .int x8)] → In g A s.heap s (wWi g a_wi (a_ri 0) (a_wb 0) ++ (wBo g a_wb (a_ri 0) wb ++ (wMo g a_now now ++ (wRi g a_ri ri ++ [])))) H locs → f_X10_looseTries_L26 n_ x3 x4 x5 x6 x7 x8 wb now ri k9 = some (r_, o_wb) → (∀ (x3 : Int32) (x4 : Int32) (x5 : Int32) (x6 : Int32) (x7 : Int32) (wb : BoS) (H : Heap) (locs : List Loc) (ls : Array Slot), lv_has ls 9 [(0, .ref (a_wi 0)), (1, .ref (a_now 0)), (3, .int x3), (4, .int x4), (5, .int x5), (6, .int x6), (7, .int x7)] → In g A s.heap s (wWi g a_wi (a_ri 0) (a_wb 0) ++ (wBo g a_wb (a_ri 0) wb ++ (wMo g a_now now ++ (wRi g a_ri ri ++ [])))) H locs → k9 x3 x4 x5 x6 x7 wb now ri = some (r_, o_wb) → W p l e rm_X10_looseTries s m args below meth c H locs 0 0 Q (F0 m 9 ls [])) → W p l e rm_X10_looseTries s m args below meth c H locs 0 0 Q (F0 m 26 ls []) := by
    intro n_
    induction n_ with
    | zero =>
      intro x3 x4 x5 x6 x7 x8 wb k9 H locs ls hl hI hf hk9
      rw [f_X10_looseTries_L26] at hf
      cases hf
    | succ n_ ih =>
      intro x3 x4 x5 x6 x7 x8 wb k9 H locs ls hl hI hf hk9
      rw [f_X10_looseTries_L26] at hf
      refine lv_iload hx hb dX10_looseTries_26 (lv_at hl 7 rfl) ?_
      refine lv_iload hx hb dX10_looseTries_28 (lv_at hl 3 rfl) ?_
      refine lv_icmp_ge (tgt := 72) hx hb dX10_looseTries_30 (by decide) (fun h_ => ?_) (fun h_ => ?_)
      · replace hf := if_t h_ hf
        exact L_72 x3 x4 x5 x6 x7 wb _ _ _ _ (lv_sub hl [0, 1, 2, 3, 4, 5, 6] rfl) hI hf hk9
      · replace hf := if_f h_ hf
        refine lv_aload_n hx hb dX10_looseTries_33 rfl (lv_at hl 0 rfl) ?_
        refine g_Wi_trial X hI has_Wi.l (X.fl w_630) dX10_looseTries_34 ?_
        refine g_Bo_count X hI has_Bo.l.r (hI.fn (List.mem_of_getElem? (i := 76) rfl)) dX10_looseTries_37 ?_
        refine lv_if_le (tgt := 72) hx hb dX10_looseTries_40 (by decide) (fun h_ => ?_) (fun h_ => ?_)
        · replace hf := if_t h_ hf
          exact L_72 x3 x4 x5 x6 x7 wb _ _ _ _ (lv_sub hl [0, 1, 2, 3, 4, 5, 6] rfl) hI hf hk9
        · replace hf := if_f h_ hf
          refine lv_iload hx hb dX10_looseTries_43 (lv_at hl 4 rfl) ?_
          obtain ⟨r_2, hc_, hf⟩ := bd1_some hf
          refine call_Si X hI Cj.nil (c_X4_seedBehind l g x5 r_2 hc_) ⟨rfl, rfl⟩ ⟨ht _ w_1370, w_1372, ht _ w_148, lk_X4_seedBehind⟩ w_1371 rfl hl rfl rfl dX10_looseTries_45 rfl rfl rfl rfl (fun H locs hI => ?_)
          refine lv_istore (lv' := [(5, .int r_2), (0, .ref (a_wi 0)), (1, .ref (a_now 0)), (3, .int x3), (4, .int x4), (6, .int x6), (7, .int x7), (8, .int x8)]) hx hb dX10_looseTries_48 hl (by decide) rfl (fun ls hl => ?_)
          refine lv_aload_n hx hb dX10_looseTries_50 rfl (lv_at hl 1 rfl) ?_
          refine g_Wi_trial X hI has_Wi.l (X.fl w_630) dX10_looseTries_51 ?_
          refine lv_aload_n hx hb dX10_looseTries_54 rfl (lv_at hl 1 rfl) ?_
          refine g_Wi_trial X hI has_Wi.l (X.fl w_630) dX10_looseTries_55 ?_
          refine lv_iload hx hb dX10_looseTries_58 (lv_at hl 0 rfl) ?_
          obtain ⟨r_3, hc_, hf⟩ := bd1_some hf
          refine call_Vi X hI (Cj.skip (Cj.keep Cj.nil)) (c_X0_drawn l g a_wb (a_ri 0) wb r_2 r_3 hc_) ⟨rfl, rfl⟩ ⟨ht _ w_1374, w_1377, ht _ w_150, lk_X0_drawn⟩ w_1375 w_1376 rfl rfl rfl hl rfl rfl dX10_looseTries_60 rfl rfl rfl rfl (fun H locs hI => ?_)
          obtain ⟨wb_4, hc_, hf⟩ := bd1_some hf
          refine call_Vv X hI (Cj.skip (Cj.keep (Cj.skip (Cj.keep Cj.id)))) (c_X0_make l g a_wb a_ri wb ri r_3 wb_4 hc_) ⟨rfl, rfl⟩ ⟨ht _ w_1353, w_1356, ht _ w_150, lk_X0_make⟩ w_1354 w_1355 rfl rfl rfl hl rfl rfl dX10_looseTries_63 rfl rfl rfl rfl (fun H locs hI => ?_)
          obtain ⟨v_5, e_⟩ : ∃ y : Int32, y = (x8 + (1 : Int32)) := ⟨_, rfl⟩
          replace hf := lt_to e_ hf
          refine lv_iinc (v := v_5) (lv' := [(8, .int v_5), (5, .int r_2), (0, .ref (a_wi 0)), (1, .ref (a_now 0)), (3, .int x3), (4, .int x4), (6, .int x6), (7, .int x7)]) hx hb dX10_looseTries_66 hl (k := 7) rfl (by rw [e_]; rfl) (by decide) rfl (fun ls hl => ?_)
          clear e_
          refine lv_goto (tgt := 26) hx hb dX10_looseTries_69 (by decide) ?_
          exact ih x3 x4 r_2 x6 x7 v_5 wb_4 k9 _ _ _ (lv_sub hl [2, 3, 4, 5, 1, 6, 7, 0] rfl) hI hf hk9
  have L_9 : ∀ (n_ : Nat) (x3 : Int32) (x4 : Int32) (x5 : Int32) (x6 : Int32) (x7 : Int32) (wb : BoS) (H : Heap) (locs : List Loc) (ls : Array Slot), lv_has ls 9 [(0, .ref (a_wi 0)), (1, .ref (a_now 0)), (3, .int x3), (4, .int x4), (5, .int x5), (6, .int x6), (7, .int x7)] → In g A s.heap s (wWi g a_wi (a_ri 0) (a_wb 0) ++ (wBo g a_wb (a_ri 0) wb ++ (wMo g a_now now ++ (wRi g a_ri ri ++ [])))) H locs → f_X10_looseTries_L9 n_ x3 x4 x5 x6 x7 wb now ri = some (r_, o_wb) → W p l e rm_X10_looseTries s m args below meth c H locs 0 0 Q (F0 m 9 ls []) := by
    intro n_
    induction n_ with
    | zero =>
      intro x3 x4 x5 x6 x7 wb H locs ls hl hI hf
      rw [f_X10_looseTries_L9] at hf
      cases hf
    | succ n_ ih =>
      intro x3 x4 x5 x6 x7 wb H locs ls hl hI hf
      rw [f_X10_looseTries_L9] at hf
      refine lv_iload hx hb dX10_looseTries_9 (lv_at hl 6 rfl) ?_
      refine lv_iload_n hx hb dX10_looseTries_11 rfl (lv_at hl 2 rfl) ?_
      refine lv_icmp_ge (tgt := 98) hx hb dX10_looseTries_12 (by decide) (fun h_ => ?_) (fun h_ => ?_)
      · replace hf := if_t h_ hf
        refine lv_iload hx hb dX10_looseTries_98 (lv_at hl 5 rfl) ?_
        cases hf
        exact end_i hQ hA X hI dX10_looseTries_100
      · replace hf := if_f h_ hf
        refine lv_aload_n hx hb dX10_looseTries_15 rfl (lv_at hl 0 rfl) ?_
        refine g_Wi_trial X hI has_Wi.l (X.fl w_630) dX10_looseTries_16 ?_
        refine lv_aload_n hx hb dX10_looseTries_19 rfl (lv_at hl 1 rfl) ?_
        obtain ⟨wb_1, hc_, hf⟩ := bd1_some hf
        refine call_Vv X hI (Cj.skip (Cj.keep (Cj.keep (Cj.keep Cj.id)))) (c_X0_lay l g a_wb a_now a_ri wb now ri wb_1 hc_) ⟨rfl, rfl⟩ ⟨ht _ w_1351, w_939, ht _ w_150, lk_X0_lay⟩ w_937 w_938 rfl rfl rfl hl rfl rfl dX10_looseTries_20 rfl rfl rfl rfl (fun H locs hI => ?_)
        refine lv_iconst (v := 0) hx hb dX10_looseTries_23 (by decide) ?_
        refine lv_istore (lv' := [(8, .int (0 : Int32)), (0, .ref (a_wi 0)), (1, .ref (a_now 0)), (3, .int x3), (4, .int x4), (5, .int x5), (6, .int x6), (7, .int x7)]) hx hb dX10_looseTries_24 hl (by decide) rfl (fun ls hl => ?_)
        exact L_26 FU x3 x4 x5 x6 x7 (0 : Int32) wb_1 _ _ _ _ (lv_sub hl [1, 2, 3, 4, 5, 6, 7, 0] rfl) hI hf (fun z_0 z_1 z_2 z_3 z_4 z_5 _ _ _ hl hI hf => ih z_0 z_1 z_2 z_3 z_4 z_5 _ _ _ hl hI hf)
  unfold f_X10_looseTries at hf
  refine lv_iload_n hx hb dX10_looseTries_0 rfl (lv_at hl 2 rfl) ?_
  refine lv_istore (lv' := [(5, .int p2), (0, .ref (a_wi 0)), (1, .ref (a_now 0)), (2, .int p2), (3, .int p3), (4, .int p4)]) hx hb dX10_looseTries_1 hl (by decide) rfl (fun ls hl => ?_)
  refine lv_iconst (v := 0) hx hb dX10_looseTries_3 (by decide) ?_
  refine lv_istore (lv' := [(6, .int (0 : Int32)), (5, .int p2), (0, .ref (a_wi 0)), (1, .ref (a_now 0)), (2, .int p2), (3, .int p3), (4, .int p4)]) hx hb dX10_looseTries_4 hl (by decide) rfl (fun ls hl => ?_)
  refine lv_iconst (v := 0) hx hb dX10_looseTries_6 (by decide) ?_
  refine lv_istore (lv' := [(7, .int (0 : Int32)), (6, .int (0 : Int32)), (5, .int p2), (0, .ref (a_wi 0)), (1, .ref (a_now 0)), (2, .int p2), (3, .int p3), (4, .int p4)]) hx hb dX10_looseTries_7 hl (by decide) rfl (fun ls hl => ?_)
  exact L_9 FU p3 p4 p2 (0 : Int32) (0 : Int32) wb _ _ _ (lv_sub hl [3, 4, 6, 7, 2, 1, 0] rfl) hI hf
