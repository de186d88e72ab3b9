abbrev rm_X13_ways : Room := { frames := 2, cells := 0, slots := 0, locals := 52 }
set_option maxRecDepth 20000 in
theorem c_X13_ways (l : Launch) (g : GT) (a_md : Nat → Nat) (q_md_tangle : Option Nat) (q_md_read : Option Nat) (md : MdS) (p1 : Int32) (p2 : Int32) (p3 : Int32) (r_ : Int64) (o_md : MdS) (hf : f_X13_ways md p1 p2 p3 = some (r_, o_md)) : CL l yX13_ways cX13_ways 4 (some .long) rm_X13_ways g [.ref (a_md 0), .int p1, .int p2, .int p3] (wMd g a_md q_md_tangle q_md_read md ++ []) (wMd g a_md q_md_tangle q_md_read o_md ++ []) r_ := by
  refine start2 (y := yX13_ways) (cc := cX13_ways) (n := 4) (av := [.ref (a_md 0), .int p1, .int p2, .int p3]) (ws := (wMd g a_md q_md_tangle q_md_read md ++ [])) (Qc := fun sz => QL g (wMd g a_md q_md_tangle q_md_read md ++ []) (wMd g a_md q_md_tangle q_md_read o_md ++ []) r_ sz) (by decide) rfl ?_
  intro p e s m args below meth c ls Q A ha hQ hA X hl hI hin
  have X : Cx p s m args meth c cX13_ways 4 RX13 (some .long) := X
  have hl : lv_has ls 4 [(0, .ref (a_md 0)), (1, .int p1), (2, .int p2), (3, .int p3)] := hl
  obtain ⟨hx, hb, hml, hown, ht, hr, hlk⟩ := id X
  clear ha hin
  have L_25 : ∀ (md : MdS) (H : Heap) (locs : List Loc) (ls : Array Slot), lv_has ls 4 [(0, .ref (a_md 0))] → In g A s.heap s (wMd g a_md q_md_tangle q_md_read md ++ []) H locs → f_X13_ways_L25 md = some (r_, o_md) → W p l e rm_X13_ways s m args below meth c H locs 0 0 Q (F0 m 25 ls []) := by
    intro md H locs ls hl hI hf
    unfold f_X13_ways_L25 at hf
    refine lv_aload_n hx hb dX13_ways_25 rfl (lv_at hl 0 rfl) ?_
    refine lv_iconst (v := 2) hx hb dX13_ways_26 (by decide) ?_
    obtain ⟨r_8, md_9, hc_, hf⟩ := bd2_some hf
    refine call_Vi X hI (Cj.keep Cj.id) (c_X13_refused l g a_md q_md_tangle q_md_read md (2 : Int32) r_8 md_9 hc_) ⟨rfl, rfl⟩ ⟨ht _ w_1719, w_1722, ht _ w_155, lk_X13_refused⟩ w_1721 w_65 rfl rfl rfl hl rfl rfl dX13_ways_27 rfl rfl rfl rfl (fun H locs hI => ?_)
    refine lv_i2l hx hb dX13_ways_30 rfl ?_
    cases hf
    exact end_l hQ hA X hI dX13_ways_31
  unfold f_X13_ways at hf
  refine lv_aload_n hx hb dX13_ways_0 rfl (lv_at hl 0 rfl) ?_
  refine lv_iconst (v := 0) hx hb dX13_ways_1 (by decide) ?_
  refine p_Md_thrown X hI up_Md_thrown.l (X.fl w_1583) dX13_ways_2 (fun H locs hI => ?_)
  generalize hz_ : (Md_thrown' md (0 : Int32)) = md_1 at hI hf
  clear hz_
  replace hf := lt_e hf
  refine lv_iload_n hx hb dX13_ways_5 rfl (lv_at hl 1 rfl) ?_
  refine lv_iconst (v := 2) hx hb dX13_ways_6 (by decide) ?_
  refine lv_bipush (v := 13) hx hb dX13_ways_7 (by decide) ?_
  obtain ⟨r_2, hc_, hf⟩ := bd1_some hf
  refine call_Si X hI Cj.nil (c_X13_in l g p1 (2 : Int32) (13 : Int32) r_2 hc_) ⟨rfl, rfl⟩ ⟨ht _ w_1910, w_1912, ht _ w_155, lk_X13_in⟩ w_1911 rfl hl rfl rfl dX13_ways_9 rfl rfl rfl rfl (fun H locs hI => ?_)
  refine lv_if_eq (tgt := 25) hx hb dX13_ways_12 (by decide) (fun h_ => ?_) (fun h_ => ?_)
  · replace hf := if_t h_ hf
    exact L_25 md_1 _ _ _ (lv_sub hl [0] rfl) hI hf
  · replace hf := if_f h_ hf
    refine lv_iload_n hx hb dX13_ways_15 rfl (lv_at hl 2 rfl) ?_
    refine lv_iconst (v := 0) hx hb dX13_ways_16 (by decide) ?_
    refine lv_bipush (v := 13) hx hb dX13_ways_17 (by decide) ?_
    obtain ⟨r_3, hc_, hf⟩ := bd1_some hf
    refine call_Si X hI Cj.nil (c_X13_in l g p2 (0 : Int32) (13 : Int32) r_3 hc_) ⟨rfl, rfl⟩ ⟨ht _ w_1910, w_1912, ht _ w_155, lk_X13_in⟩ w_1911 rfl hl rfl rfl dX13_ways_19 rfl rfl rfl rfl (fun H locs hI => ?_)
    refine lv_if_ne (tgt := 32) hx hb dX13_ways_22 (by decide) (fun h_ => ?_) (fun h_ => ?_)
    · replace hf := if_f h_ hf
      refine lv_aload_n hx hb dX13_ways_32 rfl (lv_at hl 0 rfl) ?_
      refine lv_iload_n hx hb dX13_ways_33 rfl (lv_at hl 1 rfl) ?_
      refine lv_iload_n hx hb dX13_ways_34 rfl (lv_at hl 3 rfl) ?_
      obtain ⟨md_4, hc_, hf⟩ := bd1_some hf
      refine call_Vv X hI (Cj.keep Cj.id) (c_X13_laysWays l g a_md q_md_tangle q_md_read md_1 p1 p3 md_4 hc_) ⟨rfl, rfl⟩ ⟨ht _ w_2322, w_2325, ht _ w_155, lk_X13_laysWays⟩ w_2324 w_132 rfl rfl rfl hl rfl rfl dX13_ways_35 rfl rfl rfl rfl (fun H locs hI => ?_)
      refine lv_aload_n hx hb dX13_ways_38 rfl (lv_at hl 0 rfl) ?_
      refine lv_iconst (v := 0) hx hb dX13_ways_39 (by decide) ?_
      obtain ⟨r_5, md_6, hc_, hf⟩ := bd2_some hf
      refine call_Vi X hI (Cj.keep Cj.id) (c_X13_good l g a_md q_md_tangle q_md_read md_4 (0 : Int32) r_5 md_6 hc_) ⟨rfl, rfl⟩ ⟨ht _ w_1998, w_2001, ht _ w_155, lk_X13_good⟩ w_2000 w_92 rfl rfl rfl hl rfl rfl dX13_ways_40 rfl rfl rfl rfl (fun H locs hI => ?_)
      refine lv_pop hx hb dX13_ways_43 rfl ?_
      refine lv_aload_n hx hb dX13_ways_44 rfl (lv_at hl 0 rfl) ?_
      refine lv_iload_n hx hb dX13_ways_45 rfl (lv_at hl 1 rfl) ?_
      refine lv_iload_n hx hb dX13_ways_46 rfl (lv_at hl 2 rfl) ?_
      obtain ⟨r_7, hc_, hf⟩ := bd1_some hf
      refine call_Vl X hI (Cj.keep Cj.id) (c_X13_waysNow l g a_md q_md_tangle q_md_read md_6 p1 p2 r_7 hc_) ⟨rfl, rfl⟩ ⟨ht _ w_2330, w_2333, ht _ w_155, lk_X13_waysNow⟩ w_2332 w_133 rfl rfl rfl hl rfl rfl dX13_ways_47 rfl rfl rfl rfl (fun H locs hI => ?_)
      cases hf
      exact end_l hQ hA X hI dX13_ways_50
    · replace hf := if_t h_ hf
      exact L_25 md_1 _ _ _ (lv_sub hl [0] rfl) hI hf
abbrev rm_X13_told : Room := { frames := 1, cells := 0, slots := 0, locals := 21 }
set_option maxRecDepth 20000 in
theorem c_X13_told (l : Launch) (g : GT) (a_md : Nat → Nat) (q_md_tangle : Option Nat) (q_md_read : Option Nat) (md : MdS) (p1 : Int64) (p3 : Int64) (p5 : Int32) (r_ : Int64) (o_md : MdS) (hf : f_X13_told md p1 p3 p5 = some (r_, o_md)) : CL l yX13_told cX13_told 12 (some .long) rm_X13_told g [.ref (a_md 0), .long p1, .long p3, .int p5] (wMd g a_md q_md_tangle q_md_read md ++ []) (wMd g a_md q_md_tangle q_md_read o_md ++ []) r_ := by
  refine start2 (y := yX13_told) (cc := cX13_told) (n := 12) (av := [.ref (a_md 0), .long p1, .long p3, .int p5]) (ws := (wMd g a_md q_md_tangle q_md_read md ++ [])) (Qc := fun sz => QL g (wMd g a_md q_md_tangle q_md_read md ++ []) (wMd g a_md q_md_tangle q_md_read o_md ++ []) r_ sz) (by decide) rfl ?_
  intro p e s m args below meth c ls Q A ha hQ hA X hl hI hin
  have X : Cx p s m args meth c cX13_told 12 RX13 (some .long) := X
  have hl : lv_has ls 12 [(0, .ref (a_md 0)), (1, .long p1), (3, .long p3), (5, .int p5)] := hl
  obtain ⟨hx, hb, hml, hown, ht, hr, hlk⟩ := id X
  clear ha hin
  have L_26 : ∀ (n_ : Nat) (x1 : Int64) (x3 : Int64) (x5 : Int32) (x6 : Int64) (x8 : Int64) (md : MdS) (H : Heap) (locs : List Loc) (ls : Array Slot), lv_has ls 12 [(1, .long x1), (3, .long x3), (5, .int x5), (6, .long x6), (8, .long x8)] → In g A s.heap s (wMd g a_md q_md_tangle q_md_read md ++ []) H locs → f_X13_told_L26 n_ x1 x3 x5 x6 x8 md = some (r_, o_md) → W p l e rm_X13_told s m args below meth c H locs 0 0 Q (F0 m 26 ls []) := by
    intro n_
    induction n_ with
    | zero =>
      intro x1 x3 x5 x6 x8 md H locs ls hl hI hf
      rw [f_X13_told_L26] at hf
      cases hf
    | succ n_ ih =>
      intro x1 x3 x5 x6 x8 md H locs ls hl hI hf
      rw [f_X13_told_L26] at hf
      refine lv_lload hx hb dX13_told_26 (lv_at hl 4 rfl) ?_
      refine lv_lconst (v := 0) hx hb dX13_told_28 (by decide) ?_
      refine W.lcmp hx hb dX13_told_29 ?_
      refine lv_if_eq (tgt := 51) hx hb dX13_told_30 (by decide) (fun h_ => ?_) (fun h_ => ?_)
      · replace hf := if_t h_ hf
        refine lv_iload hx hb dX13_told_51 (lv_at hl 2 rfl) ?_
        refine lv_if_eq (tgt := 60) hx hb dX13_told_53 (by decide) (fun h_ => ?_) (fun h_ => ?_)
        · replace hf := if_t h_ hf
          refine lv_lload_n hx hb dX13_told_60 rfl (lv_at hl 0 rfl) ?_
          refine lv_lload hx hb dX13_told_61 (lv_at hl 3 rfl) ?_
          obtain ⟨h_, hf⟩ := nzl_some hf
          refine lv_ldiv hx hb dX13_told_63 h_ ?_
          cases hf
          exact end_l hQ hA X hI dX13_told_64
        · replace hf := if_f h_ hf
          refine lv_lload_n hx hb dX13_told_56 rfl (lv_at hl 1 rfl) ?_
          refine lv_goto (tgt := 61) hx hb dX13_told_57 (by decide) ?_
          refine lv_lload hx hb dX13_told_61 (lv_at hl 3 rfl) ?_
          obtain ⟨h_, hf⟩ := nzl_some hf
          refine lv_ldiv hx hb dX13_told_63 h_ ?_
          cases hf
          exact end_l hQ hA X hI dX13_told_64
      · replace hf := if_f h_ hf
        refine lv_lload hx hb dX13_told_33 (lv_at hl 3 rfl) ?_
        refine lv_lload hx hb dX13_told_35 (lv_at hl 4 rfl) ?_
        obtain ⟨h_, hf⟩ := nzl_some hf
        refine lv_lrem hx hb dX13_told_37 h_ ?_
        refine lv_topl (fun v_5 e_ => ?_)
        replace hf := lt_to e_ hf
        clear e_
        refine lv_lstore (lv' := [(10, .long v_5), (1, .long x1), (3, .long x3), (5, .int x5), (6, .long x6), (8, .long x8)]) hx hb dX13_told_38 hl (by decide) rfl (fun ls hl => ?_)
        refine lv_lload hx hb dX13_told_40 (lv_at hl 5 rfl) ?_
        refine lv_lstore (lv' := [(6, .long x8), (10, .long v_5), (1, .long x1), (3, .long x3), (5, .int x5), (8, .long x8)]) hx hb dX13_told_42 hl (by decide) rfl (fun ls hl => ?_)
        refine lv_lload hx hb dX13_told_44 (lv_at hl 1 rfl) ?_
        refine lv_lstore (lv' := [(8, .long v_5), (6, .long x8), (10, .long v_5), (1, .long x1), (3, .long x3), (5, .int x5)]) hx hb dX13_told_46 hl (by decide) rfl (fun ls hl => ?_)
        refine lv_goto (tgt := 26) hx hb dX13_told_48 (by decide) ?_
        exact ih x1 x3 x5 x8 v_5 md _ _ _ (lv_sub hl [3, 4, 5, 1, 0] rfl) hI hf
  unfold f_X13_told at hf
  refine lv_lload_n hx hb dX13_told_0 rfl (lv_at hl 2 rfl) ?_
  refine lv_lconst (v := 0) hx hb dX13_told_1 (by decide) ?_
  refine W.lcmp hx hb dX13_told_2 ?_
  refine lv_if_ne (tgt := 14) hx hb dX13_told_3 (by decide) (fun h_ => ?_) (fun h_ => ?_)
  · replace hf := if_f h_ hf
    refine lv_aload_n hx hb dX13_told_14 rfl (lv_at hl 0 rfl) ?_
    refine lv_iconst (v := 0) hx hb dX13_told_15 (by decide) ?_
    obtain ⟨r_1, md_2, hc_, hf⟩ := bd2_some hf
    refine call_Vi X hI (Cj.keep Cj.id) (c_X13_good l g a_md q_md_tangle q_md_read md (0 : Int32) r_1 md_2 hc_) ⟨rfl, rfl⟩ ⟨ht _ w_1998, w_2001, ht _ w_155, lk_X13_good⟩ w_2000 w_92 rfl rfl rfl hl rfl rfl dX13_told_16 rfl rfl rfl rfl (fun H locs hI => ?_)
    refine lv_pop hx hb dX13_told_19 rfl ?_
    refine lv_lload_n hx hb dX13_told_20 rfl (lv_at hl 1 rfl) ?_
    refine lv_lstore (lv' := [(6, .long p1), (0, .ref (a_md 0)), (1, .long p1), (3, .long p3), (5, .int p5)]) hx hb dX13_told_21 hl (by decide) rfl (fun ls hl => ?_)
    refine lv_lload_n hx hb dX13_told_23 rfl (lv_at hl 3 rfl) ?_
    refine lv_lstore (lv' := [(8, .long p3), (6, .long p1), (0, .ref (a_md 0)), (1, .long p1), (3, .long p3), (5, .int p5)]) hx hb dX13_told_24 hl (by decide) rfl (fun ls hl => ?_)
    exact L_26 FU p1 p3 p5 p1 p3 md_2 _ _ _ (lv_sub hl [3, 4, 5, 1, 0] rfl) hI hf
  · replace hf := if_t h_ hf
    refine lv_aload_n hx hb dX13_told_6 rfl (lv_at hl 0 rfl) ?_
    refine lv_bipush (v := 6) hx hb dX13_told_7 (by decide) ?_
    obtain ⟨r_3, md_4, hc_, hf⟩ := bd2_some hf
    refine call_Vi X hI (Cj.keep Cj.id) (c_X13_refused l g a_md q_md_tangle q_md_read md (6 : Int32) r_3 md_4 hc_) ⟨rfl, rfl⟩ ⟨ht _ w_1719, w_1722, ht _ w_155, lk_X13_refused⟩ w_1721 w_65 rfl rfl rfl hl rfl rfl dX13_told_9 rfl rfl rfl rfl (fun H locs hI => ?_)
    refine lv_i2l hx hb dX13_told_12 rfl ?_
    cases hf
    exact end_l hQ hA X hI dX13_told_13
abbrev rm_X13_allWays : Room := { frames := 1, cells := 0, slots := 0, locals := 22 }
set_option maxRecDepth 20000 in
theorem c_X13_allWays (l : Launch) (g : GT) (a_md : Nat → Nat) (q_md_tangle : Option Nat) (q_md_read : Option Nat) (md : MdS) (p1 : Int32) (r_ : Int64) (hf : f_X13_allWays md p1 = some (r_)) : CL l yX13_allWays cX13_allWays 5 (some .long) rm_X13_allWays g [.ref (a_md 0), .int p1] (wMd g a_md q_md_tangle q_md_read md ++ []) (wMd g a_md q_md_tangle q_md_read md ++ []) r_ := by
  refine start2 (y := yX13_allWays) (cc := cX13_allWays) (n := 5) (av := [.ref (a_md 0), .int p1]) (ws := (wMd g a_md q_md_tangle q_md_read md ++ [])) (Qc := fun sz => QL g (wMd g a_md q_md_tangle q_md_read md ++ []) (wMd g a_md q_md_tangle q_md_read md ++ []) r_ sz) (by decide) rfl ?_
  intro p e s m args below meth c ls Q A ha hQ hA X hl hI hin
  have X : Cx p s m args meth c cX13_allWays 5 RX13 (some .long) := X
  have hl : lv_has ls 5 [(0, .ref (a_md 0)), (1, .int p1)] := hl
  obtain ⟨hx, hb, hml, hown, ht, hr, hlk⟩ := id X
  clear ha hin
  have L_5 : ∀ (n_ : Nat) (x1 : Int32) (x2 : Int64) (x4 : Int32) (H : Heap) (locs : List Loc) (ls : Array Slot), lv_has ls 5 [(0, .ref (a_md 0)), (1, .int x1), (2, .long x2), (4, .int x4)] → In g A s.heap s (wMd g a_md q_md_tangle q_md_read md ++ []) H locs → f_X13_allWays_L5 n_ x1 x2 x4 md = some (r_) → W p l e rm_X13_allWays s m args below meth c H locs 0 0 Q (F0 m 5 ls []) := by
    intro n_
    induction n_ with
    | zero =>
      intro x1 x2 x4 H locs ls hl hI hf
      rw [f_X13_allWays_L5] at hf
      cases hf
    | succ n_ ih =>
      intro x1 x2 x4 H locs ls hl hI hf
      rw [f_X13_allWays_L5] at hf
      refine lv_iload hx hb dX13_allWays_5 (lv_at hl 3 rfl) ?_
      refine lv_iload_n hx hb dX13_allWays_7 rfl (lv_at hl 1 rfl) ?_
      refine lv_icmp_gt (tgt := 27) hx hb dX13_allWays_8 (by decide) (fun h_ => ?_) (fun h_ => ?_)
      · replace hf := if_t h_ hf
        refine lv_lload_n hx hb dX13_allWays_27 rfl (lv_at hl 2 rfl) ?_
        cases hf
        exact end_l hQ hA X hI dX13_allWays_28
      · replace hf := if_f h_ hf
        refine lv_lload_n hx hb dX13_allWays_11 rfl (lv_at hl 2 rfl) ?_
        refine lv_aload_n hx hb dX13_allWays_12 rfl (lv_at hl 0 rfl) ?_
        refine lv_iload_n hx hb dX13_allWays_13 rfl (lv_at hl 1 rfl) ?_
        refine lv_iload hx hb dX13_allWays_14 (lv_at hl 3 rfl) ?_
        obtain ⟨r_1, hc_, hf⟩ := bd1_some hf
        refine call_Vl X hI (Cj.keep Cj.id) (c_X13_waysNow l g a_md q_md_tangle q_md_read md x1 x4 r_1 hc_) ⟨rfl, rfl⟩ ⟨ht _ w_2330, w_2333, ht _ w_155, lk_X13_waysNow⟩ w_2332 w_133 rfl rfl rfl hl rfl rfl dX13_allWays_16 rfl rfl rfl rfl (fun H locs hI => ?_)
        refine lv_ladd hx hb dX13_allWays_19 ?_
        refine lv_topl (fun v_2 e_ => ?_)
        replace hf := lt_to e_ hf
        clear e_
        refine lv_lstore_n (lv' := [(2, .long v_2), (0, .ref (a_md 0)), (1, .int x1), (4, .int x4)]) hx hb dX13_allWays_20 rfl hl (by decide) rfl (fun ls hl => ?_)
        obtain ⟨v_3, e_⟩ : ∃ y : Int32, y = (x4 + (1 : Int32)) := ⟨_, rfl⟩
        replace hf := lt_to e_ hf
        refine lv_iinc (v := v_3) (lv' := [(4, .int v_3), (2, .long v_2), (0, .ref (a_md 0)), (1, .int x1)]) hx hb dX13_allWays_21 hl (k := 3) rfl (by rw [e_]; rfl) (by decide) rfl (fun ls hl => ?_)
        clear e_
        refine lv_goto (tgt := 5) hx hb dX13_allWays_24 (by decide) ?_
        exact ih x1 v_2 v_3 _ _ _ (lv_sub hl [2, 3, 1, 0] rfl) hI hf
  unfold f_X13_allWays at hf
  refine lv_lconst (v := 0) hx hb dX13_allWays_0 (by decide) ?_
  refine lv_lstore_n (lv' := [(2, .long (0 : Int64)), (0, .ref (a_md 0)), (1, .int p1)]) hx hb dX13_allWays_1 rfl hl (by decide) rfl (fun ls hl => ?_)
  refine lv_iconst (v := 0) hx hb dX13_allWays_2 (by decide) ?_
  refine lv_istore (lv' := [(4, .int (0 : Int32)), (2, .long (0 : Int64)), (0, .ref (a_md 0)), (1, .int p1)]) hx hb dX13_allWays_3 hl (by decide) rfl (fun ls hl => ?_)
  exact L_5 FU p1 (0 : Int64) (0 : Int32) _ _ _ (lv_sub hl [2, 3, 1, 0] rfl) hI hf
abbrev rm_X13_odds : Room := { frames := 2, cells := 0, slots := 0, locals := 52 }
set_option maxRecDepth 20000 in
theorem c_X13_odds (l : Launch) (g : GT) (a_md : Nat → Nat) (q_md_tangle : Option Nat) (q_md_read : Option Nat) (md : MdS) (p1 : Int32) (p2 : Int32) (p3 : Int32) (p4 : Int32) (r_ : Int64) (o_md : MdS) (hf : f_X13_odds md p1 p2 p3 p4 = some (r_, o_md)) : CL l yX13_odds cX13_odds 5 (some .long) rm_X13_odds g [.ref (a_md 0), .int p1, .int p2, .int p3, .int p4] (wMd g a_md q_md_tangle q_md_read md ++ []) (wMd g a_md q_md_tangle q_md_read o_md ++ []) r_ := by
  refine start2 (y := yX13_odds) (cc := cX13_odds) (n := 5) (av := [.ref (a_md 0), .int p1, .int p2, .int p3, .int p4]) (ws := (wMd g a_md q_md_tangle q_md_read md ++ [])) (Qc := fun sz => QL g (wMd g a_md q_md_tangle q_md_read md ++ []) (wMd g a_md q_md_tangle q_md_read o_md ++ []) r_ sz) (by decide) rfl ?_
  intro p e s m args below meth c ls Q A ha hQ hA X hl hI hin
  have X : Cx p s m args meth c cX13_odds 5 RX13 (some .long) := X
  have hl : lv_has ls 5 [(0, .ref (a_md 0)), (1, .int p1), (2, .int p2), (3, .int p3), (4, .int p4)] := hl
  obtain ⟨hx, hb, hml, hown, ht, hr, hlk⟩ := id X
  clear ha hin
  have L_25 : ∀ (md : MdS) (H : Heap) (locs : List Loc) (ls : Array Slot), lv_has ls 5 [(0, .ref (a_md 0))] → In g A s.heap s (wMd g a_md q_md_tangle q_md_read md ++ []) H locs → f_X13_odds_L25 md = some (r_, o_md) → W p l e rm_X13_odds s m args below meth c H locs 0 0 Q (F0 m 25 ls []) := by
    intro md H locs ls hl hI hf
    unfold f_X13_odds_L25 at hf
    refine lv_aload_n hx hb dX13_odds_25 rfl (lv_at hl 0 rfl) ?_
    refine lv_iconst (v := 2) hx hb dX13_odds_26 (by decide) ?_
    obtain ⟨r_9, md_10, hc_, hf⟩ := bd2_some hf
    refine call_Vi X hI (Cj.keep Cj.id) (c_X13_refused l g a_md q_md_tangle q_md_read md (2 : Int32) r_9 md_10 hc_) ⟨rfl, rfl⟩ ⟨ht _ w_1719, w_1722, ht _ w_155, lk_X13_refused⟩ w_1721 w_65 rfl rfl rfl hl rfl rfl dX13_odds_27 rfl rfl rfl rfl (fun H locs hI => ?_)
    refine lv_i2l hx hb dX13_odds_30 rfl ?_
    cases hf
    exact end_l hQ hA X hI dX13_odds_31
  unfold f_X13_odds at hf
  refine lv_aload_n hx hb dX13_odds_0 rfl (lv_at hl 0 rfl) ?_
  refine lv_iconst (v := 0) hx hb dX13_odds_1 (by decide) ?_
  refine p_Md_thrown X hI up_Md_thrown.l (X.fl w_1583) dX13_odds_2 (fun H locs hI => ?_)
  generalize hz_ : (Md_thrown' md (0 : Int32)) = md_1 at hI hf
  clear hz_
  replace hf := lt_e hf
  refine lv_iload_n hx hb dX13_odds_5 rfl (lv_at hl 1 rfl) ?_
  refine lv_iconst (v := 2) hx hb dX13_odds_6 (by decide) ?_
  refine lv_bipush (v := 13) hx hb dX13_odds_7 (by decide) ?_
  obtain ⟨r_2, hc_, hf⟩ := bd1_some hf
  refine call_Si X hI Cj.nil (c_X13_in l g p1 (2 : Int32) (13 : Int32) r_2 hc_) ⟨rfl, rfl⟩ ⟨ht _ w_1910, w_1912, ht _ w_155, lk_X13_in⟩ w_1911 rfl hl rfl rfl dX13_odds_9 rfl rfl rfl rfl (fun H locs hI => ?_)
  refine lv_if_eq (tgt := 25) hx hb dX13_odds_12 (by decide) (fun h_ => ?_) (fun h_ => ?_)
  · replace hf := if_t h_ hf
    exact L_25 md_1 _ _ _ (lv_sub hl [0] rfl) hI hf
  · replace hf := if_f h_ hf
    refine lv_iload_n hx hb dX13_odds_15 rfl (lv_at hl 2 rfl) ?_
    refine lv_iconst (v := 0) hx hb dX13_odds_16 (by decide) ?_
    refine lv_bipush (v := 13) hx hb dX13_odds_17 (by decide) ?_
    obtain ⟨r_3, hc_, hf⟩ := bd1_some hf
    refine call_Si X hI Cj.nil (c_X13_in l g p2 (0 : Int32) (13 : Int32) r_3 hc_) ⟨rfl, rfl⟩ ⟨ht _ w_1910, w_1912, ht _ w_155, lk_X13_in⟩ w_1911 rfl hl rfl rfl dX13_odds_19 rfl rfl rfl rfl (fun H locs hI => ?_)
    refine lv_if_ne (tgt := 32) hx hb dX13_odds_22 (by decide) (fun h_ => ?_) (fun h_ => ?_)
    · replace hf := if_f h_ hf
      refine lv_aload_n hx hb dX13_odds_32 rfl (lv_at hl 0 rfl) ?_
      refine lv_iload_n hx hb dX13_odds_33 rfl (lv_at hl 1 rfl) ?_
      refine lv_iload_n hx hb dX13_odds_34 rfl (lv_at hl 3 rfl) ?_
      obtain ⟨md_4, hc_, hf⟩ := bd1_some hf
      refine call_Vv X hI (Cj.keep Cj.id) (c_X13_laysWays l g a_md q_md_tangle q_md_read md_1 p1 p3 md_4 hc_) ⟨rfl, rfl⟩ ⟨ht _ w_2322, w_2325, ht _ w_155, lk_X13_laysWays⟩ w_2324 w_132 rfl rfl rfl hl rfl rfl dX13_odds_35 rfl rfl rfl rfl (fun H locs hI => ?_)
      refine lv_aload_n hx hb dX13_odds_38 rfl (lv_at hl 0 rfl) ?_
      refine lv_aload_n hx hb dX13_odds_39 rfl (lv_at hl 0 rfl) ?_
      refine lv_iload_n hx hb dX13_odds_40 rfl (lv_at hl 1 rfl) ?_
      refine lv_iload_n hx hb dX13_odds_41 rfl (lv_at hl 2 rfl) ?_
      obtain ⟨r_5, hc_, hf⟩ := bd1_some hf
      refine call_Vl X hI (Cj.keep Cj.id) (c_X13_waysNow l g a_md q_md_tangle q_md_read md_4 p1 p2 r_5 hc_) ⟨rfl, rfl⟩ ⟨ht _ w_2330, w_2333, ht _ w_155, lk_X13_waysNow⟩ w_2332 w_133 rfl rfl rfl hl rfl rfl dX13_odds_42 rfl rfl rfl rfl (fun H locs hI => ?_)
      refine lv_aload_n hx hb dX13_odds_45 rfl (lv_at hl 0 rfl) ?_
      refine lv_iload_n hx hb dX13_odds_46 rfl (lv_at hl 1 rfl) ?_
      obtain ⟨r_6, hc_, hf⟩ := bd1_some hf
      refine call_Vl X hI (Cj.keep Cj.id) (c_X13_allWays l g a_md q_md_tangle q_md_read md_4 p1 r_6 hc_) ⟨rfl, rfl⟩ ⟨ht _ w_2338, w_2341, ht _ w_155, lk_X13_allWays⟩ w_2340 w_134 rfl rfl rfl hl rfl rfl dX13_odds_47 rfl rfl rfl rfl (fun H locs hI => ?_)
      refine lv_iload hx hb dX13_odds_50 (lv_at hl 4 rfl) ?_
      obtain ⟨r_7, md_8, hc_, hf⟩ := bd2_some hf
      refine call_Vl X hI (Cj.keep Cj.id) (c_X13_told l g a_md q_md_tangle q_md_read md_4 r_5 r_6 p4 r_7 md_8 hc_) ⟨rfl, rfl⟩ ⟨ht _ w_2342, w_2345, ht _ w_155, lk_X13_told⟩ w_2344 w_135 rfl rfl rfl hl rfl rfl dX13_odds_52 rfl rfl rfl rfl (fun H locs hI => ?_)
      cases hf
      exact end_l hQ hA X hI dX13_odds_55
    · replace hf := if_t h_ hf
      exact L_25 md_1 _ _ _ (lv_sub hl [0] rfl) hI hf
abbrev rm_X13_mean : Room := { frames := 2, cells := 0, slots := 0, locals := 52 }
set_option maxRecDepth 20000 in
theorem c_X13_mean (l : Launch) (g : GT) (a_md : Nat → Nat) (q_md_tangle : Option Nat) (q_md_read : Option Nat) (md : MdS) (p1 : Int32) (p2 : Int32) (p3 : Int32) (r_ : Int64) (o_md : MdS) (hf : f_X13_mean md p1 p2 p3 = some (r_, o_md)) : CL l yX13_mean cX13_mean 7 (some .long) rm_X13_mean g [.ref (a_md 0), .int p1, .int p2, .int p3] (wMd g a_md q_md_tangle q_md_read md ++ []) (wMd g a_md q_md_tangle q_md_read o_md ++ []) r_ := by
  refine start2 (y := yX13_mean) (cc := cX13_mean) (n := 7) (av := [.ref (a_md 0), .int p1, .int p2, .int p3]) (ws := (wMd g a_md q_md_tangle q_md_read md ++ [])) (Qc := fun sz => QL g (wMd g a_md q_md_tangle q_md_read md ++ []) (wMd g a_md q_md_tangle q_md_read o_md ++ []) r_ sz) (by decide) rfl ?_
  intro p e s m args below meth c ls Q A ha hQ hA X hl hI hin
  have X : Cx p s m args meth c cX13_mean 7 RX13 (some .long) := X
  have hl : lv_has ls 7 [(0, .ref (a_md 0)), (1, .int p1), (2, .int p2), (3, .int p3)] := hl
  obtain ⟨hx, hb, hml, hown, ht, hr, hlk⟩ := id X
  clear ha hin
  have L_34 : ∀ (n_ : Nat) (x1 : Int32) (x3 : Int32) (x4 : Int64) (x6 : Int32) (md : MdS) (H : Heap) (locs : List Loc) (ls : Array Slot), lv_has ls 7 [(0, .ref (a_md 0)), (1, .int x1), (3, .int x3), (4, .long x4), (6, .int x6)] → In g A s.heap s (wMd g a_md q_md_tangle q_md_read md ++ []) H locs → f_X13_mean_L34 n_ x1 x3 x4 x6 md = some (r_, o_md) → W p l e rm_X13_mean s m args below meth c H locs 0 0 Q (F0 m 34 ls []) := by
    intro n_
    induction n_ with
    | zero =>
      intro x1 x3 x4 x6 md H locs ls hl hI hf
      rw [f_X13_mean_L34] at hf
      cases hf
    | succ n_ ih =>
      intro x1 x3 x4 x6 md H locs ls hl hI hf
      rw [f_X13_mean_L34] at hf
      refine lv_iload hx hb dX13_mean_34 (lv_at hl 4 rfl) ?_
      refine lv_iload_n hx hb dX13_mean_36 rfl (lv_at hl 1 rfl) ?_
      refine lv_icmp_gt (tgt := 62) hx hb dX13_mean_37 (by decide) (fun h_ => ?_) (fun h_ => ?_)
      · replace hf := if_t h_ hf
        refine lv_aload_n hx hb dX13_mean_62 rfl (lv_at hl 0 rfl) ?_
        refine lv_lload hx hb dX13_mean_63 (lv_at hl 3 rfl) ?_
        refine lv_aload_n hx hb dX13_mean_65 rfl (lv_at hl 0 rfl) ?_
        refine lv_iload_n hx hb dX13_mean_66 rfl (lv_at hl 1 rfl) ?_
        obtain ⟨r_6, hc_, hf⟩ := bd1_some hf
        refine call_Vl X hI (Cj.keep Cj.id) (c_X13_allWays l g a_md q_md_tangle q_md_read md x1 r_6 hc_) ⟨rfl, rfl⟩ ⟨ht _ w_2338, w_2341, ht _ w_155, lk_X13_allWays⟩ w_2340 w_134 rfl rfl rfl hl rfl rfl dX13_mean_67 rfl rfl rfl rfl (fun H locs hI => ?_)
        refine lv_iload_n hx hb dX13_mean_70 rfl (lv_at hl 2 rfl) ?_
        obtain ⟨r_7, md_8, hc_, hf⟩ := bd2_some hf
        refine call_Vl X hI (Cj.keep Cj.id) (c_X13_told l g a_md q_md_tangle q_md_read md x4 r_6 x3 r_7 md_8 hc_) ⟨rfl, rfl⟩ ⟨ht _ w_2342, w_2345, ht _ w_155, lk_X13_told⟩ w_2344 w_135 rfl rfl rfl hl rfl rfl dX13_mean_71 rfl rfl rfl rfl (fun H locs hI => ?_)
        cases hf
        exact end_l hQ hA X hI dX13_mean_74
      · replace hf := if_f h_ hf
        refine lv_lload hx hb dX13_mean_40 (lv_at hl 3 rfl) ?_
        refine lv_iload hx hb dX13_mean_42 (lv_at hl 4 rfl) ?_
        refine lv_i2l hx hb dX13_mean_44 rfl ?_
        refine lv_aload_n hx hb dX13_mean_45 rfl (lv_at hl 0 rfl) ?_
        refine lv_iload_n hx hb dX13_mean_46 rfl (lv_at hl 1 rfl) ?_
        refine lv_iload hx hb dX13_mean_47 (lv_at hl 4 rfl) ?_
        obtain ⟨r_9, hc_, hf⟩ := bd1_some hf
        refine call_Vl X hI (Cj.keep Cj.id) (c_X13_waysNow l g a_md q_md_tangle q_md_read md x1 x6 r_9 hc_) ⟨rfl, rfl⟩ ⟨ht _ w_2330, w_2333, ht _ w_155, lk_X13_waysNow⟩ w_2332 w_133 rfl rfl rfl hl rfl rfl dX13_mean_49 rfl rfl rfl rfl (fun H locs hI => ?_)
        refine lv_lmul hx hb dX13_mean_52 ?_
        refine lv_ladd hx hb dX13_mean_53 ?_
        refine lv_topl (fun v_10 e_ => ?_)
        replace hf := lt_to e_ hf
        clear e_
        refine lv_lstore (lv' := [(4, .long v_10), (0, .ref (a_md 0)), (1, .int x1), (3, .int x3), (6, .int x6)]) hx hb dX13_mean_54 hl (by decide) rfl (fun ls hl => ?_)
        obtain ⟨v_11, e_⟩ : ∃ y : Int32, y = (x6 + (1 : Int32)) := ⟨_, rfl⟩
        replace hf := lt_to e_ hf
        refine lv_iinc (v := v_11) (lv' := [(6, .int v_11), (4, .long v_10), (0, .ref (a_md 0)), (1, .int x1), (3, .int x3)]) hx hb dX13_mean_56 hl (k := 4) rfl (by rw [e_]; rfl) (by decide) rfl (fun ls hl => ?_)
        clear e_
        refine lv_goto (tgt := 34) hx hb dX13_mean_59 (by decide) ?_
        exact ih x1 x3 v_10 v_11 md _ _ _ (lv_sub hl [2, 3, 4, 1, 0] rfl) hI hf
  unfold f_X13_mean at hf
  refine lv_aload_n hx hb dX13_mean_0 rfl (lv_at hl 0 rfl) ?_
  refine lv_iconst (v := 0) hx hb dX13_mean_1 (by decide) ?_
  refine p_Md_thrown X hI up_Md_thrown.l (X.fl w_1583) dX13_mean_2 (fun H locs hI => ?_)
  generalize hz_ : (Md_thrown' md (0 : Int32)) = md_1 at hI hf
  clear hz_
  replace hf := lt_e hf
  refine lv_iload_n hx hb dX13_mean_5 rfl (lv_at hl 1 rfl) ?_
  refine lv_iconst (v := 2) hx hb dX13_mean_6 (by decide) ?_
  refine lv_bipush (v := 13) hx hb dX13_mean_7 (by decide) ?_
  obtain ⟨r_2, hc_, hf⟩ := bd1_some hf
  refine call_Si X hI Cj.nil (c_X13_in l g p1 (2 : Int32) (13 : Int32) r_2 hc_) ⟨rfl, rfl⟩ ⟨ht _ w_1910, w_1912, ht _ w_155, lk_X13_in⟩ w_1911 rfl hl rfl rfl dX13_mean_9 rfl rfl rfl rfl (fun H locs hI => ?_)
  refine lv_if_ne (tgt := 22) hx hb dX13_mean_12 (by decide) (fun h_ => ?_) (fun h_ => ?_)
  · replace hf := if_f h_ hf
    refine lv_aload_n hx hb dX13_mean_22 rfl (lv_at hl 0 rfl) ?_
    refine lv_iload_n hx hb dX13_mean_23 rfl (lv_at hl 1 rfl) ?_
    refine lv_iload_n hx hb dX13_mean_24 rfl (lv_at hl 2 rfl) ?_
    obtain ⟨md_3, hc_, hf⟩ := bd1_some hf
    refine call_Vv X hI (Cj.keep Cj.id) (c_X13_laysWays l g a_md q_md_tangle q_md_read md_1 p1 p2 md_3 hc_) ⟨rfl, rfl⟩ ⟨ht _ w_2322, w_2325, ht _ w_155, lk_X13_laysWays⟩ w_2324 w_132 rfl rfl rfl hl rfl rfl dX13_mean_25 rfl rfl rfl rfl (fun H locs hI => ?_)
    refine lv_lconst (v := 0) hx hb dX13_mean_28 (by decide) ?_
    refine lv_lstore (lv' := [(4, .long (0 : Int64)), (0, .ref (a_md 0)), (1, .int p1), (2, .int p2), (3, .int p3)]) hx hb dX13_mean_29 hl (by decide) rfl (fun ls hl => ?_)
    refine lv_iconst (v := 0) hx hb dX13_mean_31 (by decide) ?_
    refine lv_istore (lv' := [(6, .int (0 : Int32)), (4, .long (0 : Int64)), (0, .ref (a_md 0)), (1, .int p1), (2, .int p2), (3, .int p3)]) hx hb dX13_mean_32 hl (by decide) rfl (fun ls hl => ?_)
    exact L_34 FU p1 p3 (0 : Int64) (0 : Int32) md_3 _ _ _ (lv_sub hl [2, 3, 5, 1, 0] rfl) hI hf
  · replace hf := if_t h_ hf
    refine lv_aload_n hx hb dX13_mean_15 rfl (lv_at hl 0 rfl) ?_
    refine lv_iconst (v := 2) hx hb dX13_mean_16 (by decide) ?_
    obtain ⟨r_4, md_5, hc_, hf⟩ := bd2_some hf
    refine call_Vi X hI (Cj.keep Cj.id) (c_X13_refused l g a_md q_md_tangle q_md_read md_1 (2 : Int32) r_4 md_5 hc_) ⟨rfl, rfl⟩ ⟨ht _ w_1719, w_1722, ht _ w_155, lk_X13_refused⟩ w_1721 w_65 rfl rfl rfl hl rfl rfl dX13_mean_17 rfl rfl rfl rfl (fun H locs hI => ?_)
    refine lv_i2l hx hb dX13_mean_20 rfl ?_
    cases hf
    exact end_l hQ hA X hI dX13_mean_21
abbrev rm_X13_move : Room := { frames := 4, cells := 0, slots := 0, locals := 89 }
set_option maxRecDepth 20000 in
theorem c_X13_move (l : Launch) (g : GT) (a_md : Nat → Nat) (a_tn : Nat → Nat) (q_md_read : Option Nat) (md : MdS) (tn : TnS) (p1 : Int32) (r_ : Int32) (o_md : MdS) (hf : f_X13_move md tn p1 = some (r_, o_md)) : CI l yX13_move cX13_move 2 (some .int) rm_X13_move g [.ref (a_md 0), .int p1] (wMd g a_md (some (a_tn 0)) q_md_read md ++ (wTn g a_tn tn ++ [])) (wMd g a_md (some (a_tn 0)) q_md_read o_md ++ (wTn g a_tn tn ++ [])) r_ := by
  refine start2 (y := yX13_move) (cc := cX13_move) (n := 2) (av := [.ref (a_md 0), .int p1]) (ws := (wMd g a_md (some (a_tn 0)) q_md_read md ++ (wTn g a_tn tn ++ []))) (Qc := fun sz => QI g (wMd g a_md (some (a_tn 0)) q_md_read md ++ (wTn g a_tn tn ++ [])) (wMd g a_md (some (a_tn 0)) q_md_read o_md ++ (wTn g a_tn tn ++ [])) r_ sz) (by decide) rfl ?_
  intro p e s m args below meth c ls Q A ha hQ hA X hl hI hin
  have X : Cx p s m args meth c cX13_move 2 RX13 (some .int) := X
  have hl : lv_has ls 2 [(0, .ref (a_md 0)), (1, .int p1)] := hl
  obtain ⟨hx, hb, hml, hown, ht, hr, hlk⟩ := id X
  clear ha hin
  unfold f_X13_move at hf
  refine lv_aload_n hx hb dX13_move_0 rfl (lv_at hl 0 rfl) ?_
  refine lv_iconst (v := 0) hx hb dX13_move_1 (by decide) ?_
  refine p_Md_thrown X hI up_Md_thrown.l (X.fl w_1583) dX13_move_2 (fun H locs hI => ?_)
  generalize hz_ : (Md_thrown' md (0 : Int32)) = md_1 at hI hf
  clear hz_
  replace hf := lt_e hf
  refine lv_aload_n hx hb dX13_move_5 rfl (lv_at hl 0 rfl) ?_
  refine lv_iload_n hx hb dX13_move_6 rfl (lv_at hl 1 rfl) ?_
  obtain ⟨r_2, hc_, hf⟩ := bd1_some hf
  refine call_Vi X hI (Cj.keep (Cj.keep Cj.id)) (c_X13_isMove l g a_md a_tn q_md_read md_1 tn p1 r_2 hc_) ⟨rfl, rfl⟩ ⟨ht _ w_2107, w_2110, ht _ w_155, lk_X13_isMove⟩ w_2109 w_104 rfl rfl rfl hl rfl rfl dX13_move_7 rfl rfl rfl rfl (fun H locs hI => ?_)
  refine lv_if_ne (tgt := 19) hx hb dX13_move_10 (by decide) (fun h_ => ?_) (fun h_ => ?_)
  · replace hf := if_f h_ hf
    refine lv_aload_n hx hb dX13_move_19 rfl (lv_at hl 0 rfl) ?_
    refine lv_aload_n hx hb dX13_move_20 rfl (lv_at hl 0 rfl) ?_
    refine g_Md_now X hI has_Md.l (X.fl w_1598) dX13_move_21 ?_
    obtain ⟨md_3, hc_, hf⟩ := bd1_some hf
    refine call_Vv X hI (Cj.keep (Cj.keep Cj.id)) (c_X13_looks l g a_md a_tn q_md_read md_1 tn (Md_now md_1) md_3 hc_) ⟨rfl, rfl⟩ ⟨ht _ w_2071, w_2074, ht _ w_155, lk_X13_looks⟩ w_2073 w_99 rfl rfl rfl hl rfl rfl dX13_move_24 rfl rfl rfl rfl (fun H locs hI => ?_)
    refine lv_aload_n hx hb dX13_move_27 rfl (lv_at hl 0 rfl) ?_
    refine lv_iload_n hx hb dX13_move_28 rfl (lv_at hl 1 rfl) ?_
    obtain ⟨r_4, hc_, hf⟩ := bd1_some hf
    refine call_Vi X hI (Cj.keep (Cj.keep Cj.id)) (c_X13_mayMove l g a_md a_tn q_md_read md_3 tn p1 r_4 hc_) ⟨rfl, rfl⟩ ⟨ht _ w_2114, w_2117, ht _ w_155, lk_X13_mayMove⟩ w_2116 w_105 rfl rfl rfl hl rfl rfl dX13_move_29 rfl rfl rfl rfl (fun H locs hI => ?_)
    refine lv_if_ne (tgt := 41) hx hb dX13_move_32 (by decide) (fun h_ => ?_) (fun h_ => ?_)
    · replace hf := if_f h_ hf
      refine lv_aload_n hx hb dX13_move_41 rfl (lv_at hl 0 rfl) ?_
      obtain ⟨md_5, hc_, hf⟩ := bd1_some hf
      refine call_Vv X hI (Cj.keep Cj.nil) (c_X13_keeps l g a_md (some (a_tn 0)) q_md_read md_3 md_5 hc_) ⟨rfl, rfl⟩ ⟨ht _ w_2259, w_2262, ht _ w_155, lk_X13_keeps⟩ w_2261 w_127 rfl rfl rfl hl rfl rfl dX13_move_42 rfl rfl rfl rfl (fun H locs hI => ?_)
      refine lv_aload_n hx hb dX13_move_45 rfl (lv_at hl 0 rfl) ?_
      refine lv_aload_n hx hb dX13_move_46 rfl (lv_at hl 0 rfl) ?_
      refine lv_aload_n hx hb dX13_move_47 rfl (lv_at hl 0 rfl) ?_
      refine g_Md_now X hI has_Md.l (X.fl w_1598) dX13_move_48 ?_
      refine lv_iload_n hx hb dX13_move_51 rfl (lv_at hl 1 rfl) ?_
      obtain ⟨r_6, hc_, hf⟩ := bd1_some hf
      refine call_Vl X hI (Cj.keep Cj.nil) (c_X13_behind l g a_md (some (a_tn 0)) q_md_read md_5 (Md_now md_5) p1 r_6 hc_) ⟨rfl, rfl⟩ ⟨ht _ w_2168, w_2171, ht _ w_155, lk_X13_behind⟩ w_2170 w_114 rfl rfl rfl hl rfl rfl dX13_move_52 rfl rfl rfl rfl (fun H locs hI => ?_)
      refine p_Md_now X hI up_Md_now.l (X.fl w_1598) dX13_move_55 (fun H locs hI => ?_)
      generalize hz_ : (Md_now' md_5 r_6) = md_7 at hI hf
      clear hz_
      replace hf := lt_e hf
      refine lv_aload_n hx hb dX13_move_58 rfl (lv_at hl 0 rfl) ?_
      refine lv_aload_n hx hb dX13_move_59 rfl (lv_at hl 0 rfl) ?_
      refine lv_aload_n hx hb dX13_move_60 rfl (lv_at hl 0 rfl) ?_
      refine g_Md_now X hI has_Md.l (X.fl w_1598) dX13_move_61 ?_
      obtain ⟨r_8, hc_, hf⟩ := bd1_some hf
      refine call_Vi X hI (Cj.keep (Cj.keep Cj.id)) (c_X13_leftIn l g a_md a_tn q_md_read md_7 tn (Md_now md_7) r_8 hc_) ⟨rfl, rfl⟩ ⟨ht _ w_2095, w_2098, ht _ w_155, lk_X13_leftIn⟩ w_2097 w_103 rfl rfl rfl hl rfl rfl dX13_move_64 rfl rfl rfl rfl (fun H locs hI => ?_)
      obtain ⟨r_9, md_10, hc_, hf⟩ := bd2_some hf
      refine call_Vi X hI (Cj.keep Cj.nil) (c_X13_good l g a_md (some (a_tn 0)) q_md_read md_7 r_8 r_9 md_10 hc_) ⟨rfl, rfl⟩ ⟨ht _ w_1998, w_2001, ht _ w_155, lk_X13_good⟩ w_2000 w_92 rfl rfl rfl hl rfl rfl dX13_move_67 rfl rfl rfl rfl (fun H locs hI => ?_)
      cases hf
      exact end_i hQ hA X hI dX13_move_70
    · replace hf := if_t h_ hf
      refine lv_aload_n hx hb dX13_move_35 rfl (lv_at hl 0 rfl) ?_
      refine lv_iconst (v := 5) hx hb dX13_move_36 (by decide) ?_
      obtain ⟨r_11, md_12, hc_, hf⟩ := bd2_some hf
      refine call_Vi X hI (Cj.keep Cj.nil) (c_X13_refused l g a_md (some (a_tn 0)) q_md_read md_3 (5 : Int32) r_11 md_12 hc_) ⟨rfl, rfl⟩ ⟨ht _ w_1719, w_1722, ht _ w_155, lk_X13_refused⟩ w_1721 w_65 rfl rfl rfl hl rfl rfl dX13_move_37 rfl rfl rfl rfl (fun H locs hI => ?_)
      cases hf
      exact end_i hQ hA X hI dX13_move_40
  · replace hf := if_t h_ hf
    refine lv_aload_n hx hb dX13_move_13 rfl (lv_at hl 0 rfl) ?_
    refine lv_iconst (v := 1) hx hb dX13_move_14 (by decide) ?_
    obtain ⟨r_13, md_14, hc_, hf⟩ := bd2_some hf
    refine call_Vi X hI (Cj.keep Cj.nil) (c_X13_refused l g a_md (some (a_tn 0)) q_md_read md_1 (1 : Int32) r_13 md_14 hc_) ⟨rfl, rfl⟩ ⟨ht _ w_1719, w_1722, ht _ w_155, lk_X13_refused⟩ w_1721 w_65 rfl rfl rfl hl rfl rfl dX13_move_15 rfl rfl rfl rfl (fun H locs hI => ?_)
    cases hf
    exact end_i hQ hA X hI dX13_move_18
abbrev rm_X13_parts : Room := { frames := 4, cells := 0, slots := 0, locals := 97 }
set_option maxRecDepth 20000 in
theorem c_X13_parts (l : Launch) (g : GT) (a_md : Nat → Nat) (a_tn : Nat → Nat) (q_md_read : Option Nat) (md : MdS) (tn : TnS) (p1 : Int32) (r_ : Int32) (o_md : MdS) (hf : f_X13_parts md tn p1 = some (r_, o_md)) : CI l yX13_parts cX13_parts 3 (some .int) rm_X13_parts g [.ref (a_md 0), .int p1] (wMd g a_md (some (a_tn 0)) q_md_read md ++ (wTn g a_tn tn ++ [])) (wMd g a_md (some (a_tn 0)) q_md_read o_md ++ (wTn g a_tn tn ++ [])) r_ := by
  refine start2 (y := yX13_parts) (cc := cX13_parts) (n := 3) (av := [.ref (a_md 0), .int p1]) (ws := (wMd g a_md (some (a_tn 0)) q_md_read md ++ (wTn g a_tn tn ++ []))) (Qc := fun sz => QI g (wMd g a_md (some (a_tn 0)) q_md_read md ++ (wTn g a_tn tn ++ [])) (wMd g a_md (some (a_tn 0)) q_md_read o_md ++ (wTn g a_tn tn ++ [])) r_ sz) (by decide) rfl ?_
  intro p e s m args below meth c ls Q A ha hQ hA X hl hI hin
  have X : Cx p s m args meth c cX13_parts 3 RX13 (some .int) := X
  have hl : lv_has ls 3 [(0, .ref (a_md 0)), (1, .int p1)] := hl
  obtain ⟨hx, hb, hml, hown, ht, hr, hlk⟩ := id X
  clear ha hin
  unfold f_X13_parts at hf
  refine lv_aload_n hx hb dX13_parts_0 rfl (lv_at hl 0 rfl) ?_
  refine lv_iconst (v := 0) hx hb dX13_parts_1 (by decide) ?_
  refine p_Md_thrown X hI up_Md_thrown.l (X.fl w_1583) dX13_parts_2 (fun H locs hI => ?_)
  generalize hz_ : (Md_thrown' md (0 : Int32)) = md_1 at hI hf
  clear hz_
  replace hf := lt_e hf
  refine lv_aload_n hx hb dX13_parts_5 rfl (lv_at hl 0 rfl) ?_
  refine lv_iload_n hx hb dX13_parts_6 rfl (lv_at hl 1 rfl) ?_
  obtain ⟨r_2, hc_, hf⟩ := bd1_some hf
  refine call_Vi X hI (Cj.keep (Cj.keep Cj.id)) (c_X13_isLink l g a_md a_tn q_md_read md_1 tn p1 r_2 hc_) ⟨rfl, rfl⟩ ⟨ht _ w_2039, w_2042, ht _ w_155, lk_X13_isLink⟩ w_2041 w_95 rfl rfl rfl hl rfl rfl dX13_parts_7 rfl rfl rfl rfl (fun H locs hI => ?_)
  refine lv_if_ne (tgt := 19) hx hb dX13_parts_10 (by decide) (fun h_ => ?_) (fun h_ => ?_)
  · replace hf := if_f h_ hf
    refine lv_aload_n hx hb dX13_parts_19 rfl (lv_at hl 0 rfl) ?_
    refine g_Md_parted X hI has_Md.l (X.fl w_1599) dX13_parts_20 ?_
    refine lv_bipush (v := (-2)) hx hb dX13_parts_23 (by decide) ?_
    refine lv_icmp_eq (tgt := 34) hx hb dX13_parts_25 (by decide) (fun h_ => ?_) (fun h_ => ?_)
    · replace hf := if_t h_ hf
      refine lv_aload_n hx hb dX13_parts_34 rfl (lv_at hl 0 rfl) ?_
      obtain ⟨md_3, hc_, hf⟩ := bd1_some hf
      refine call_Vv X hI (Cj.keep Cj.nil) (c_X13_keeps l g a_md (some (a_tn 0)) q_md_read md_1 md_3 hc_) ⟨rfl, rfl⟩ ⟨ht _ w_2259, w_2262, ht _ w_155, lk_X13_keeps⟩ w_2261 w_127 rfl rfl rfl hl rfl rfl dX13_parts_35 rfl rfl rfl rfl (fun H locs hI => ?_)
      refine lv_aload_n hx hb dX13_parts_38 rfl (lv_at hl 0 rfl) ?_
      refine lv_aload_n hx hb dX13_parts_39 rfl (lv_at hl 0 rfl) ?_
      refine g_Md_now X hI has_Md.l (X.fl w_1598) dX13_parts_40 ?_
      obtain ⟨r_4, hc_, hf⟩ := bd1_some hf
      refine call_Vi X hI (Cj.keep (Cj.keep Cj.id)) (c_X13_leftIn l g a_md a_tn q_md_read md_3 tn (Md_now md_3) r_4 hc_) ⟨rfl, rfl⟩ ⟨ht _ w_2095, w_2098, ht _ w_155, lk_X13_leftIn⟩ w_2097 w_103 rfl rfl rfl hl rfl rfl dX13_parts_43 rfl rfl rfl rfl (fun H locs hI => ?_)
      refine lv_istore_n (lv' := [(2, .int r_4), (0, .ref (a_md 0)), (1, .int p1)]) hx hb dX13_parts_46 rfl hl (by decide) rfl (fun ls hl => ?_)
      refine lv_aload_n hx hb dX13_parts_47 rfl (lv_at hl 1 rfl) ?_
      refine lv_aload_n hx hb dX13_parts_48 rfl (lv_at hl 1 rfl) ?_
      refine lv_aload_n hx hb dX13_parts_49 rfl (lv_at hl 1 rfl) ?_
      refine g_Md_now X hI has_Md.l (X.fl w_1598) dX13_parts_50 ?_
      refine lv_iload_n hx hb dX13_parts_53 rfl (lv_at hl 2 rfl) ?_
      obtain ⟨r_5, md_6, hc_, hf⟩ := bd2_some hf
      refine call_Vl X hI (Cj.keep (Cj.keep Cj.id)) (c_X13_partedFrom l g a_md a_tn q_md_read md_3 tn (Md_now md_3) p1 r_5 md_6 hc_) ⟨rfl, rfl⟩ ⟨ht _ w_2239, w_2242, ht _ w_155, lk_X13_partedFrom⟩ w_2241 w_124 rfl rfl rfl hl rfl rfl dX13_parts_54 rfl rfl rfl rfl (fun H locs hI => ?_)
      refine p_Md_now X hI up_Md_now.l (X.fl w_1598) dX13_parts_57 (fun H locs hI => ?_)
      generalize hz_ : (Md_now' md_6 r_5) = md_7 at hI hf
      clear hz_
      replace hf := lt_e hf
      refine lv_aload_n hx hb dX13_parts_60 rfl (lv_at hl 1 rfl) ?_
      refine lv_iload_n hx hb dX13_parts_61 rfl (lv_at hl 2 rfl) ?_
      refine p_Md_parted X hI up_Md_parted.l (X.fl w_1599) dX13_parts_62 (fun H locs hI => ?_)
      generalize hz_ : (Md_parted' md_7 p1) = md_8 at hI hf
      clear hz_
      replace hf := lt_e hf
      refine lv_aload_n hx hb dX13_parts_65 rfl (lv_at hl 1 rfl) ?_
      refine lv_iload_n hx hb dX13_parts_66 rfl (lv_at hl 0 rfl) ?_
      refine lv_aload_n hx hb dX13_parts_67 rfl (lv_at hl 1 rfl) ?_
      refine lv_aload_n hx hb dX13_parts_68 rfl (lv_at hl 1 rfl) ?_
      refine g_Md_now X hI has_Md.l (X.fl w_1598) dX13_parts_69 ?_
      obtain ⟨r_9, hc_, hf⟩ := bd1_some hf
      refine call_Vi X hI (Cj.keep (Cj.keep Cj.id)) (c_X13_leftIn l g a_md a_tn q_md_read md_8 tn (Md_now md_8) r_9 hc_) ⟨rfl, rfl⟩ ⟨ht _ w_2095, w_2098, ht _ w_155, lk_X13_leftIn⟩ w_2097 w_103 rfl rfl rfl hl rfl rfl dX13_parts_72 rfl rfl rfl rfl (fun H locs hI => ?_)
      refine lv_isub hx hb dX13_parts_75 ?_
      obtain ⟨r_10, md_11, hc_, hf⟩ := bd2_some hf
      refine call_Vi X hI (Cj.keep Cj.nil) (c_X13_good l g a_md (some (a_tn 0)) q_md_read md_8 (r_4 - r_9) r_10 md_11 hc_) ⟨rfl, rfl⟩ ⟨ht _ w_1998, w_2001, ht _ w_155, lk_X13_good⟩ w_2000 w_92 rfl rfl rfl hl rfl rfl dX13_parts_76 rfl rfl rfl rfl (fun H locs hI => ?_)
      cases hf
      exact end_i hQ hA X hI dX13_parts_79
    · replace hf := if_f h_ hf
      refine lv_aload_n hx hb dX13_parts_28 rfl (lv_at hl 0 rfl) ?_
      refine lv_iconst (v := 5) hx hb dX13_parts_29 (by decide) ?_
      obtain ⟨r_12, md_13, hc_, hf⟩ := bd2_some hf
      refine call_Vi X hI (Cj.keep Cj.nil) (c_X13_refused l g a_md (some (a_tn 0)) q_md_read md_1 (5 : Int32) r_12 md_13 hc_) ⟨rfl, rfl⟩ ⟨ht _ w_1719, w_1722, ht _ w_155, lk_X13_refused⟩ w_1721 w_65 rfl rfl rfl hl rfl rfl dX13_parts_30 rfl rfl rfl rfl (fun H locs hI => ?_)
      cases hf
      exact end_i hQ hA X hI dX13_parts_33
  · replace hf := if_t h_ hf
    refine lv_aload_n hx hb dX13_parts_13 rfl (lv_at hl 0 rfl) ?_
    refine lv_iconst (v := 1) hx hb dX13_parts_14 (by decide) ?_
    obtain ⟨r_14, md_15, hc_, hf⟩ := bd2_some hf
    refine call_Vi X hI (Cj.keep Cj.nil) (c_X13_refused l g a_md (some (a_tn 0)) q_md_read md_1 (1 : Int32) r_14 md_15 hc_) ⟨rfl, rfl⟩ ⟨ht _ w_1719, w_1722, ht _ w_155, lk_X13_refused⟩ w_1721 w_65 rfl rfl rfl hl rfl rfl dX13_parts_15 rfl rfl rfl rfl (fun H locs hI => ?_)
    cases hf
    exact end_i hQ hA X hI dX13_parts_18
abbrev rm_X13_lot : Room := { frames := 5, cells := 0, slots := 0, locals := 111 }
set_option maxRecDepth 20000 in
theorem c_X13_lot (l : Launch) (g : GT) (a_md : Nat → Nat) (a_tn : Nat → Nat) (q_md_read : Option Nat) (md : MdS) (tn : TnS) (r_ : Int32) (o_md : MdS) (hf : f_X13_lot md tn = some (r_, o_md)) : CI l yX13_lot cX13_lot 4 (some .int) rm_X13_lot g [.ref (a_md 0)] (wMd g a_md (some (a_tn 0)) q_md_read md ++ (wTn g a_tn tn ++ [])) (wMd g a_md (some (a_tn 0)) q_md_read o_md ++ (wTn g a_tn tn ++ [])) r_ := by
  refine start2 (y := yX13_lot) (cc := cX13_lot) (n := 4) (av := [.ref (a_md 0)]) (ws := (wMd g a_md (some (a_tn 0)) q_md_read md ++ (wTn g a_tn tn ++ []))) (Qc := fun sz => QI g (wMd g a_md (some (a_tn 0)) q_md_read md ++ (wTn g a_tn tn ++ [])) (wMd g a_md (some (a_tn 0)) q_md_read o_md ++ (wTn g a_tn tn ++ [])) r_ sz) (by decide) rfl ?_
  intro p e s m args below meth c ls Q A ha hQ hA X hl hI hin
  have X : Cx p s m args meth c cX13_lot 4 RX13 (some .int) := X
  have hl : lv_has ls 4 [(0, .ref (a_md 0))] := hl
  obtain ⟨hx, hb, hml, hown, ht, hr, hlk⟩ := id X
  clear ha hin
  have L_103 : ∀ (n_ : Nat) (x2 : Int32) (x3 : Int32) (md : MdS) (H : Heap) (locs : List Loc) (ls : Array Slot), lv_has ls 4 [(0, .ref (a_md 0)), (2, .int x2), (3, .int x3)] → In g A s.heap s (wMd g a_md (some (a_tn 0)) q_md_read md ++ (wTn g a_tn tn ++ [])) H locs → f_X13_lot_L103 n_ x2 x3 md tn = some (r_, o_md) → W p l e rm_X13_lot s m args below meth c H locs 0 0 Q (F0 m 103 ls []) := by
    intro n_
    induction n_ with
    | zero =>
      intro x2 x3 md H locs ls hl hI hf
      rw [f_X13_lot_L103] at hf
      cases hf
    | succ n_ ih =>
      intro x2 x3 md H locs ls hl hI hf
      rw [f_X13_lot_L103] at hf
      refine lv_iload_n hx hb dX13_lot_103 rfl (lv_at hl 2 rfl) ?_
      refine lv_if_le (tgt := 119) hx hb dX13_lot_104 (by decide) (fun h_ => ?_) (fun h_ => ?_)
      · replace hf := if_t h_ hf
        refine lv_aload_n hx hb dX13_lot_119 rfl (lv_at hl 0 rfl) ?_
        refine lv_aload_n hx hb dX13_lot_120 rfl (lv_at hl 0 rfl) ?_
        refine lv_aload_n hx hb dX13_lot_121 rfl (lv_at hl 0 rfl) ?_
        refine g_Md_now X hI has_Md.l (X.fl w_1598) dX13_lot_122 ?_
        refine lv_iload_n hx hb dX13_lot_125 rfl (lv_at hl 1 rfl) ?_
        obtain ⟨r_12, hc_, hf⟩ := bd1_some hf
        refine call_Vl X hI (Cj.keep Cj.nil) (c_X13_behind l g a_md (some (a_tn 0)) q_md_read md (Md_now md) x2 r_12 hc_) ⟨rfl, rfl⟩ ⟨ht _ w_2168, w_2171, ht _ w_155, lk_X13_behind⟩ w_2170 w_114 rfl rfl rfl hl rfl rfl dX13_lot_126 rfl rfl rfl rfl (fun H locs hI => ?_)
        refine p_Md_now X hI up_Md_now.l (X.fl w_1598) dX13_lot_129 (fun H locs hI => ?_)
        generalize hz_ : (Md_now' md r_12) = md_13 at hI hf
        clear hz_
        replace hf := lt_e hf
        refine lv_aload_n hx hb dX13_lot_132 rfl (lv_at hl 0 rfl) ?_
        refine lv_iload_n hx hb dX13_lot_133 rfl (lv_at hl 1 rfl) ?_
        obtain ⟨r_14, md_15, hc_, hf⟩ := bd2_some hf
        refine call_Vi X hI (Cj.keep Cj.nil) (c_X13_good l g a_md (some (a_tn 0)) q_md_read md_13 x2 r_14 md_15 hc_) ⟨rfl, rfl⟩ ⟨ht _ w_1998, w_2001, ht _ w_155, lk_X13_good⟩ w_2000 w_92 rfl rfl rfl hl rfl rfl dX13_lot_134 rfl rfl rfl rfl (fun H locs hI => ?_)
        cases hf
        exact end_i hQ hA X hI dX13_lot_137
      · replace hf := if_f h_ hf
        refine lv_aload_n hx hb dX13_lot_107 rfl (lv_at hl 0 rfl) ?_
        refine lv_iload_n hx hb dX13_lot_108 rfl (lv_at hl 1 rfl) ?_
        obtain ⟨r_16, hc_, hf⟩ := bd1_some hf
        refine call_Vi X hI (Cj.keep (Cj.keep Cj.id)) (c_X13_nextMay l g a_md a_tn q_md_read md tn x2 r_16 hc_) ⟨rfl, rfl⟩ ⟨ht _ w_2138, w_2141, ht _ w_155, lk_X13_nextMay⟩ w_2140 w_109 rfl rfl rfl hl rfl rfl dX13_lot_109 rfl rfl rfl rfl (fun H locs hI => ?_)
        refine lv_istore_n (lv' := [(2, .int r_16), (0, .ref (a_md 0)), (3, .int x3)]) hx hb dX13_lot_112 rfl hl (by decide) rfl (fun ls hl => ?_)
        obtain ⟨v_17, e_⟩ : ∃ y : Int32, y = (x3 + (-1 : Int32)) := ⟨_, rfl⟩
        replace hf := lt_to e_ hf
        refine lv_iinc (v := v_17) (lv' := [(3, .int v_17), (2, .int r_16), (0, .ref (a_md 0))]) hx hb dX13_lot_113 hl (k := 2) rfl (by rw [e_]; rfl) (by decide) rfl (fun ls hl => ?_)
        clear e_
        refine lv_goto (tgt := 103) hx hb dX13_lot_116 (by decide) ?_
        exact ih r_16 v_17 md _ _ _ (lv_sub hl [2, 1, 0] rfl) hI hf
  have L_34 : ∀ (n_ : Nat) (x1 : Int32) (x2 : Int32) (md : MdS) (H : Heap) (locs : List Loc) (ls : Array Slot), lv_has ls 4 [(0, .ref (a_md 0)), (1, .int x1), (2, .int x2)] → In g A s.heap s (wMd g a_md (some (a_tn 0)) q_md_read md ++ (wTn g a_tn tn ++ [])) H locs → f_X13_lot_L34 n_ x1 x2 md tn = some (r_, o_md) → W p l e rm_X13_lot s m args below meth c H locs 0 0 Q (F0 m 34 ls []) := by
    intro n_
    induction n_ with
    | zero =>
      intro x1 x2 md H locs ls hl hI hf
      rw [f_X13_lot_L34] at hf
      cases hf
    | succ n_ ih =>
      intro x1 x2 md H locs ls hl hI hf
      rw [f_X13_lot_L34] at hf
      refine lv_iload_n hx hb dX13_lot_34 rfl (lv_at hl 2 rfl) ?_
      refine lv_sipush (v := 2000) hx hb dX13_lot_35 (by decide) ?_
      refine lv_icmp_ge (tgt := 53) hx hb dX13_lot_38 (by decide) (fun h_ => ?_) (fun h_ => ?_)
      · replace hf := if_t h_ hf
        refine lv_iload_n hx hb dX13_lot_53 rfl (lv_at hl 1 rfl) ?_
        refine lv_if_ne (tgt := 64) hx hb dX13_lot_54 (by decide) (fun h_ => ?_) (fun h_ => ?_)
        · replace hf := if_f h_ hf
          refine lv_aload_n hx hb dX13_lot_64 rfl (lv_at hl 0 rfl) ?_
          obtain ⟨md_4, hc_, hf⟩ := bd1_some hf
          refine call_Vv X hI (Cj.keep Cj.nil) (c_X13_keeps l g a_md (some (a_tn 0)) q_md_read md md_4 hc_) ⟨rfl, rfl⟩ ⟨ht _ w_2259, w_2262, ht _ w_155, lk_X13_keeps⟩ w_2261 w_127 rfl rfl rfl hl rfl rfl dX13_lot_65 rfl rfl rfl rfl (fun H locs hI => ?_)
          refine lv_aload_n hx hb dX13_lot_68 rfl (lv_at hl 0 rfl) ?_
          refine lv_ldc2 (v := 75) hx hb hown (ht _ w_2315) dX13_lot_69 ?_
          refine lv_aload_n hx hb dX13_lot_72 rfl (lv_at hl 0 rfl) ?_
          refine g_Md_seed X hI has_Md.l (X.fl w_1601) dX13_lot_73 ?_
          refine lv_i2l hx hb dX13_lot_76 rfl ?_
          refine lv_lmul hx hb dX13_lot_77 ?_
          refine lv_ldc2 (v := 74) hx hb hown (ht _ w_2316) dX13_lot_78 ?_
          refine lv_ladd hx hb dX13_lot_81 ?_
          refine lv_ldc2 (v := 65537) hx hb hown (ht _ w_2317) dX13_lot_82 ?_
          refine lv_lrem hx hb dX13_lot_85 (by decide) ?_
          refine lv_l2i hx hb dX13_lot_86 rfl ?_
          refine p_Md_seed X hI up_Md_seed.l (X.fl w_1601) dX13_lot_87 (fun H locs hI => ?_)
          generalize hz_ : (Md_seed' md_4 (Int64.toInt32 ((((75 : Int64) * (Int32.toInt64 (Md_seed md_4))) + (74 : Int64)) - (((75 : Int64) * (Int32.toInt64 (Md_seed md_4))) + (74 : Int64)) / (65537 : Int64) * (65537 : Int64)))) = md_5 at hI hf
          clear hz_
          replace hf := lt_e hf
          refine lv_aload_n hx hb dX13_lot_90 rfl (lv_at hl 0 rfl) ?_
          refine lv_iconst (v := (-1)) hx hb dX13_lot_91 (by decide) ?_
          obtain ⟨r_6, hc_, hf⟩ := bd1_some hf
          refine call_Vi X hI (Cj.keep (Cj.keep Cj.id)) (c_X13_nextMay l g a_md a_tn q_md_read md_5 tn (-1 : Int32) r_6 hc_) ⟨rfl, rfl⟩ ⟨ht _ w_2138, w_2141, ht _ w_155, lk_X13_nextMay⟩ w_2140 w_109 rfl rfl rfl hl rfl rfl dX13_lot_92 rfl rfl rfl rfl (fun H locs hI => ?_)
          refine lv_istore_n (lv' := [(2, .int r_6), (0, .ref (a_md 0)), (1, .int x1)]) hx hb dX13_lot_95 rfl hl (by decide) rfl (fun ls hl => ?_)
          refine lv_aload_n hx hb dX13_lot_96 rfl (lv_at hl 1 rfl) ?_
          refine g_Md_seed X hI has_Md.l (X.fl w_1601) dX13_lot_97 ?_
          refine lv_iload_n hx hb dX13_lot_100 rfl (lv_at hl 2 rfl) ?_
          obtain ⟨h_, hf⟩ := nz_some hf
          refine lv_irem hx hb dX13_lot_101 h_ ?_
          refine lv_topi (fun v_7 e_ => ?_)
          replace hf := lt_to e_ hf
          clear e_
          refine lv_istore_n (lv' := [(3, .int v_7), (2, .int r_6), (0, .ref (a_md 0)), (1, .int x1)]) hx hb dX13_lot_102 rfl hl (by decide) rfl (fun ls hl => ?_)
          exact L_103 FU r_6 v_7 md_5 _ _ _ (lv_sub hl [2, 1, 0] rfl) hI hf
        · replace hf := if_t h_ hf
          refine lv_aload_n hx hb dX13_lot_57 rfl (lv_at hl 0 rfl) ?_
          refine lv_bipush (v := 6) hx hb dX13_lot_58 (by decide) ?_
          obtain ⟨r_8, md_9, hc_, hf⟩ := bd2_some hf
          refine call_Vi X hI (Cj.keep Cj.nil) (c_X13_refused l g a_md (some (a_tn 0)) q_md_read md (6 : Int32) r_8 md_9 hc_) ⟨rfl, rfl⟩ ⟨ht _ w_1719, w_1722, ht _ w_155, lk_X13_refused⟩ w_1721 w_65 rfl rfl rfl hl rfl rfl dX13_lot_60 rfl rfl rfl rfl (fun H locs hI => ?_)
          cases hf
          exact end_i hQ hA X hI dX13_lot_63
      · replace hf := if_f h_ hf
        obtain ⟨v_10, e_⟩ : ∃ y : Int32, y = (x1 + (1 : Int32)) := ⟨_, rfl⟩
        replace hf := lt_to e_ hf
        refine lv_iinc (v := v_10) (lv' := [(1, .int v_10), (0, .ref (a_md 0)), (2, .int x2)]) hx hb dX13_lot_41 hl (k := 1) rfl (by rw [e_]; rfl) (by decide) rfl (fun ls hl => ?_)
        clear e_
        refine lv_aload_n hx hb dX13_lot_44 rfl (lv_at hl 1 rfl) ?_
        refine lv_iload_n hx hb dX13_lot_45 rfl (lv_at hl 2 rfl) ?_
        obtain ⟨r_11, hc_, hf⟩ := bd1_some hf
        refine call_Vi X hI (Cj.keep (Cj.keep Cj.id)) (c_X13_nextMay l g a_md a_tn q_md_read md tn x2 r_11 hc_) ⟨rfl, rfl⟩ ⟨ht _ w_2138, w_2141, ht _ w_155, lk_X13_nextMay⟩ w_2140 w_109 rfl rfl rfl hl rfl rfl dX13_lot_46 rfl rfl rfl rfl (fun H locs hI => ?_)
        refine lv_istore_n (lv' := [(2, .int r_11), (1, .int v_10), (0, .ref (a_md 0))]) hx hb dX13_lot_49 rfl hl (by decide) rfl (fun ls hl => ?_)
        refine lv_goto (tgt := 34) hx hb dX13_lot_50 (by decide) ?_
        exact ih v_10 r_11 md _ _ _ (lv_sub hl [2, 1, 0] rfl) hI hf
  unfold f_X13_lot at hf
  refine lv_aload_n hx hb dX13_lot_0 rfl (lv_at hl 0 rfl) ?_
  refine lv_iconst (v := 0) hx hb dX13_lot_1 (by decide) ?_
  refine p_Md_thrown X hI up_Md_thrown.l (X.fl w_1583) dX13_lot_2 (fun H locs hI => ?_)
  generalize hz_ : (Md_thrown' md (0 : Int32)) = md_1 at hI hf
  clear hz_
  replace hf := lt_e hf
  refine lv_aload_n hx hb dX13_lot_5 rfl (lv_at hl 0 rfl) ?_
  refine g_Md_tangle_S X hI has_Md.l (X.fl w_1586) dX13_lot_6 ?_
  refine lv_ifnonnull (tgt := 18) hx hb dX13_lot_9 (by decide) ?_
  refine lv_aload_n hx hb dX13_lot_18 rfl (lv_at hl 0 rfl) ?_
  refine lv_aload_n hx hb dX13_lot_19 rfl (lv_at hl 0 rfl) ?_
  refine g_Md_now X hI has_Md.l (X.fl w_1598) dX13_lot_20 ?_
  obtain ⟨md_2, hc_, hf⟩ := bd1_some hf
  refine call_Vv X hI (Cj.keep (Cj.keep Cj.id)) (c_X13_looks l g a_md a_tn q_md_read md_1 tn (Md_now md_1) md_2 hc_) ⟨rfl, rfl⟩ ⟨ht _ w_2071, w_2074, ht _ w_155, lk_X13_looks⟩ w_2073 w_99 rfl rfl rfl hl rfl rfl dX13_lot_23 rfl rfl rfl rfl (fun H locs hI => ?_)
  refine lv_iconst (v := 0) hx hb dX13_lot_26 (by decide) ?_
  refine lv_istore_n (lv' := [(1, .int (0 : Int32)), (0, .ref (a_md 0))]) hx hb dX13_lot_27 rfl hl (by decide) rfl (fun ls hl => ?_)
  refine lv_aload_n hx hb dX13_lot_28 rfl (lv_at hl 1 rfl) ?_
  refine lv_iconst (v := (-1)) hx hb dX13_lot_29 (by decide) ?_
  obtain ⟨r_3, hc_, hf⟩ := bd1_some hf
  refine call_Vi X hI (Cj.keep (Cj.keep Cj.id)) (c_X13_nextMay l g a_md a_tn q_md_read md_2 tn (-1 : Int32) r_3 hc_) ⟨rfl, rfl⟩ ⟨ht _ w_2138, w_2141, ht _ w_155, lk_X13_nextMay⟩ w_2140 w_109 rfl rfl rfl hl rfl rfl dX13_lot_30 rfl rfl rfl rfl (fun H locs hI => ?_)
  refine lv_istore_n (lv' := [(2, .int r_3), (1, .int (0 : Int32)), (0, .ref (a_md 0))]) hx hb dX13_lot_33 rfl hl (by decide) rfl (fun ls hl => ?_)
  exact L_34 FU (0 : Int32) r_3 md_2 _ _ _ (lv_sub hl [2, 1, 0] rfl) hI hf
abbrev rm_X13_call : Room := { frames := 7, cells := 0, slots := 0, locals := 160 }
set_option maxRecDepth 20000 in
theorem c_X13_call (l : Launch) (g : GT) (a_md : Nat → Nat) (a_tn : Nat → Nat) (q_md_read : Option Nat) (md : MdS) (tn : TnS) (r_ : Int32) (o_md : MdS) (hf : f_X13_call md tn = some (r_, o_md)) : CI l yX13_call cX13_call 2 (some .int) rm_X13_call g [.ref (a_md 0)] (wMd g a_md (some (a_tn 0)) q_md_read md ++ (wTn g a_tn tn ++ [])) (wMd g a_md (some (a_tn 0)) q_md_read o_md ++ (wTn g a_tn tn ++ [])) r_ := by
  refine start2 (y := yX13_call) (cc := cX13_call) (n := 2) (av := [.ref (a_md 0)]) (ws := (wMd g a_md (some (a_tn 0)) q_md_read md ++ (wTn g a_tn tn ++ []))) (Qc := fun sz => QI g (wMd g a_md (some (a_tn 0)) q_md_read md ++ (wTn g a_tn tn ++ [])) (wMd g a_md (some (a_tn 0)) q_md_read o_md ++ (wTn g a_tn tn ++ [])) r_ sz) (by decide) rfl ?_
  intro p e s m args below meth c ls Q A ha hQ hA X hl hI hin
  have X : Cx p s m args meth c cX13_call 2 RX13 (some .int) := X
  have hl : lv_has ls 2 [(0, .ref (a_md 0))] := hl
  obtain ⟨hx, hb, hml, hown, ht, hr, hlk⟩ := id X
  clear ha hin
  unfold f_X13_call at hf
  refine lv_aload_n hx hb dX13_call_0 rfl (lv_at hl 0 rfl) ?_
  refine lv_iconst (v := 0) hx hb dX13_call_1 (by decide) ?_
  refine p_Md_thrown X hI up_Md_thrown.l (X.fl w_1583) dX13_call_2 (fun H locs hI => ?_)
  generalize hz_ : (Md_thrown' md (0 : Int32)) = md_1 at hI hf
  clear hz_
  replace hf := lt_e hf
  refine lv_aload_n hx hb dX13_call_5 rfl (lv_at hl 0 rfl) ?_
  refine g_Md_tangle_S X hI has_Md.l (X.fl w_1586) dX13_call_6 ?_
  refine lv_ifnonnull (tgt := 18) hx hb dX13_call_9 (by decide) ?_
  refine lv_aload_n hx hb dX13_call_18 rfl (lv_at hl 0 rfl) ?_
  obtain ⟨r_2, md_3, hc_, hf⟩ := bd2_some hf
  refine call_Vi X hI (Cj.keep (Cj.keep Cj.id)) (c_X13_callerNow l g a_md a_tn q_md_read md_1 tn r_2 md_3 hc_) ⟨rfl, rfl⟩ ⟨ht _ w_2192, w_2195, ht _ w_155, lk_X13_callerNow⟩ w_2194 w_117 rfl rfl rfl hl rfl rfl dX13_call_19 rfl rfl rfl rfl (fun H locs hI => ?_)
  refine lv_istore_n (lv' := [(1, .int r_2), (0, .ref (a_md 0))]) hx hb dX13_call_22 rfl hl (by decide) rfl (fun ls hl => ?_)
  refine lv_iload_n hx hb dX13_call_23 rfl (lv_at hl 0 rfl) ?_
  refine lv_bipush (v := (-2)) hx hb dX13_call_24 (by decide) ?_
  refine lv_icmp_ne (tgt := 36) hx hb dX13_call_26 (by decide) (fun h_ => ?_) (fun h_ => ?_)
  · replace hf := if_f h_ hf
    refine lv_aload_n hx hb dX13_call_36 rfl (lv_at hl 1 rfl) ?_
    obtain ⟨md_4, hc_, hf⟩ := bd1_some hf
    refine call_Vv X hI (Cj.keep Cj.nil) (c_X13_keeps l g a_md (some (a_tn 0)) q_md_read md_3 md_4 hc_) ⟨rfl, rfl⟩ ⟨ht _ w_2259, w_2262, ht _ w_155, lk_X13_keeps⟩ w_2261 w_127 rfl rfl rfl hl rfl rfl dX13_call_37 rfl rfl rfl rfl (fun H locs hI => ?_)
    refine lv_aload_n hx hb dX13_call_40 rfl (lv_at hl 1 rfl) ?_
    refine lv_aload_n hx hb dX13_call_41 rfl (lv_at hl 1 rfl) ?_
    refine g_Md_now X hI has_Md.l (X.fl w_1598) dX13_call_42 ?_
    obtain ⟨md_5, hc_, hf⟩ := bd1_some hf
    refine call_Vv X hI (Cj.keep (Cj.keep Cj.id)) (c_X13_looks l g a_md a_tn q_md_read md_4 tn (Md_now md_4) md_5 hc_) ⟨rfl, rfl⟩ ⟨ht _ w_2071, w_2074, ht _ w_155, lk_X13_looks⟩ w_2073 w_99 rfl rfl rfl hl rfl rfl dX13_call_45 rfl rfl rfl rfl (fun H locs hI => ?_)
    refine lv_aload_n hx hb dX13_call_48 rfl (lv_at hl 1 rfl) ?_
    refine lv_aload_n hx hb dX13_call_49 rfl (lv_at hl 1 rfl) ?_
    refine lv_aload_n hx hb dX13_call_50 rfl (lv_at hl 1 rfl) ?_
    refine g_Md_now X hI has_Md.l (X.fl w_1598) dX13_call_51 ?_
    refine lv_iload_n hx hb dX13_call_54 rfl (lv_at hl 0 rfl) ?_
    obtain ⟨r_6, hc_, hf⟩ := bd1_some hf
    refine call_Vl X hI (Cj.keep Cj.nil) (c_X13_behind l g a_md (some (a_tn 0)) q_md_read md_5 (Md_now md_5) r_2 r_6 hc_) ⟨rfl, rfl⟩ ⟨ht _ w_2168, w_2171, ht _ w_155, lk_X13_behind⟩ w_2170 w_114 rfl rfl rfl hl rfl rfl dX13_call_55 rfl rfl rfl rfl (fun H locs hI => ?_)
    refine p_Md_now X hI up_Md_now.l (X.fl w_1598) dX13_call_58 (fun H locs hI => ?_)
    generalize hz_ : (Md_now' md_5 r_6) = md_7 at hI hf
    clear hz_
    replace hf := lt_e hf
    refine lv_aload_n hx hb dX13_call_61 rfl (lv_at hl 1 rfl) ?_
    refine lv_iload_n hx hb dX13_call_62 rfl (lv_at hl 0 rfl) ?_
    obtain ⟨r_8, md_9, hc_, hf⟩ := bd2_some hf
    refine call_Vi X hI (Cj.keep Cj.nil) (c_X13_good l g a_md (some (a_tn 0)) q_md_read md_7 r_2 r_8 md_9 hc_) ⟨rfl, rfl⟩ ⟨ht _ w_1998, w_2001, ht _ w_155, lk_X13_good⟩ w_2000 w_92 rfl rfl rfl hl rfl rfl dX13_call_63 rfl rfl rfl rfl (fun H locs hI => ?_)
    cases hf
    exact end_i hQ hA X hI dX13_call_66
  · replace hf := if_t h_ hf
    refine lv_aload_n hx hb dX13_call_29 rfl (lv_at hl 1 rfl) ?_
    refine lv_bipush (v := 6) hx hb dX13_call_30 (by decide) ?_
    obtain ⟨r_10, md_11, hc_, hf⟩ := bd2_some hf
    refine call_Vi X hI (Cj.keep Cj.nil) (c_X13_refused l g a_md (some (a_tn 0)) q_md_read md_3 (6 : Int32) r_10 md_11 hc_) ⟨rfl, rfl⟩ ⟨ht _ w_1719, w_1722, ht _ w_155, lk_X13_refused⟩ w_1721 w_65 rfl rfl rfl hl rfl rfl dX13_call_32 rfl rfl rfl rfl (fun H locs hI => ?_)
    cases hf
    exact end_i hQ hA X hI dX13_call_35
abbrev rm_X13_seed : Room := { frames := 2, cells := 0, slots := 0, locals := 42 }
set_option maxRecDepth 20000 in
theorem c_X13_seed (l : Launch) (g : GT) (a_md : Nat → Nat) (a_tn : Nat → Nat) (q_md_read : Option Nat) (md : MdS) (tn : TnS) (p1 : Int32) (r_ : Int32) (o_md : MdS) (hf : f_X13_seed md p1 = some (r_, o_md)) : CI l yX13_seed cX13_seed 2 (some .boolean) rm_X13_seed g [.ref (a_md 0), .int p1] (wMd g a_md (some (a_tn 0)) q_md_read md ++ (wTn g a_tn tn ++ [])) (wMd g a_md (some (a_tn 0)) q_md_read o_md ++ (wTn g a_tn tn ++ [])) r_ := by
  refine start2 (y := yX13_seed) (cc := cX13_seed) (n := 2) (av := [.ref (a_md 0), .int p1]) (ws := (wMd g a_md (some (a_tn 0)) q_md_read md ++ (wTn g a_tn tn ++ []))) (Qc := fun sz => QI g (wMd g a_md (some (a_tn 0)) q_md_read md ++ (wTn g a_tn tn ++ [])) (wMd g a_md (some (a_tn 0)) q_md_read o_md ++ (wTn g a_tn tn ++ [])) r_ sz) (by decide) rfl ?_
  intro p e s m args below meth c ls Q A ha hQ hA X hl hI hin
  have X : Cx p s m args meth c cX13_seed 2 RX13 (some .boolean) := X
  have hl : lv_has ls 2 [(0, .ref (a_md 0)), (1, .int p1)] := hl
  obtain ⟨hx, hb, hml, hown, ht, hr, hlk⟩ := id X
  clear ha hin
  unfold f_X13_seed at hf
  refine lv_aload_n hx hb dX13_seed_0 rfl (lv_at hl 0 rfl) ?_
  refine lv_iconst (v := 0) hx hb dX13_seed_1 (by decide) ?_
  refine p_Md_thrown X hI up_Md_thrown.l (X.fl w_1583) dX13_seed_2 (fun H locs hI => ?_)
  generalize hz_ : (Md_thrown' md (0 : Int32)) = md_1 at hI hf
  clear hz_
  replace hf := lt_e hf
  refine lv_aload_n hx hb dX13_seed_5 rfl (lv_at hl 0 rfl) ?_
  refine g_Md_tangle_S X hI has_Md.l (X.fl w_1586) dX13_seed_6 ?_
  refine lv_ifnonnull (tgt := 18) hx hb dX13_seed_9 (by decide) ?_
  refine lv_iload_n hx hb dX13_seed_18 rfl (lv_at hl 1 rfl) ?_
  refine lv_iconst (v := 0) hx hb dX13_seed_19 (by decide) ?_
  refine lv_ldcw (v := 65536) hx hb hown (ht _ w_2310) dX13_seed_20 ?_
  obtain ⟨r_2, hc_, hf⟩ := bd1_some hf
  refine call_Si X hI Cj.nil (c_X13_in l g p1 (0 : Int32) (65536 : Int32) r_2 hc_) ⟨rfl, rfl⟩ ⟨ht _ w_1910, w_1912, ht _ w_155, lk_X13_in⟩ w_1911 rfl hl rfl rfl dX13_seed_23 rfl rfl rfl rfl (fun H locs hI => ?_)
  refine lv_if_ne (tgt := 35) hx hb dX13_seed_26 (by decide) (fun h_ => ?_) (fun h_ => ?_)
  · replace hf := if_f h_ hf
    refine lv_aload_n hx hb dX13_seed_35 rfl (lv_at hl 0 rfl) ?_
    refine lv_iload_n hx hb dX13_seed_36 rfl (lv_at hl 1 rfl) ?_
    refine p_Md_seed X hI up_Md_seed.l (X.fl w_1601) dX13_seed_37 (fun H locs hI => ?_)
    generalize hz_ : (Md_seed' md_1 p1) = md_3 at hI hf
    clear hz_
    replace hf := lt_e hf
    refine lv_aload_n hx hb dX13_seed_40 rfl (lv_at hl 0 rfl) ?_
    obtain ⟨r_4, md_5, hc_, hf⟩ := bd2_some hf
    refine call_Vi X hI (Cj.keep Cj.nil) (c_X13_granted l g a_md (some (a_tn 0)) q_md_read md_3 r_4 md_5 hc_) ⟨rfl, rfl⟩ ⟨ht _ w_2374, w_2377, ht _ w_155, lk_X13_granted⟩ w_2376 w_137 rfl rfl rfl hl rfl rfl dX13_seed_41 rfl rfl rfl rfl (fun H locs hI => ?_)
    obtain ⟨hzb_, hf⟩ := zb_some hf
    cases hf
    exact end_z hQ hA X hI (zb_n hzb_) dX13_seed_44
  · replace hf := if_t h_ hf
    refine lv_aload_n hx hb dX13_seed_29 rfl (lv_at hl 0 rfl) ?_
    refine lv_iconst (v := 2) hx hb dX13_seed_30 (by decide) ?_
    obtain ⟨r_6, md_7, hc_, hf⟩ := bd2_some hf
    refine call_Vi X hI (Cj.keep Cj.nil) (c_X13_denied l g a_md (some (a_tn 0)) q_md_read md_1 (2 : Int32) r_6 md_7 hc_) ⟨rfl, rfl⟩ ⟨ht _ w_2370, w_2373, ht _ w_155, lk_X13_denied⟩ w_2372 w_136 rfl rfl rfl hl rfl rfl dX13_seed_31 rfl rfl rfl rfl (fun H locs hI => ?_)
    obtain ⟨hzb_, hf⟩ := zb_some hf
    cases hf
    exact end_z hQ hA X hI (zb_n hzb_) dX13_seed_34
abbrev rm_X13_undo : Room := { frames := 2, cells := 0, slots := 0, locals := 42 }
set_option maxRecDepth 20000 in
theorem c_X13_undo (l : Launch) (g : GT) (a_md : Nat → Nat) (a_tn : Nat → Nat) (q_md_read : Option Nat) (md : MdS) (tn : TnS) (r_ : Int32) (o_md : MdS) (hf : f_X13_undo md = some (r_, o_md)) : CI l yX13_undo cX13_undo 1 (some .boolean) rm_X13_undo g [.ref (a_md 0)] (wMd g a_md (some (a_tn 0)) q_md_read md ++ (wTn g a_tn tn ++ [])) (wMd g a_md (some (a_tn 0)) q_md_read o_md ++ (wTn g a_tn tn ++ [])) r_ := by
  refine start2 (y := yX13_undo) (cc := cX13_undo) (n := 1) (av := [.ref (a_md 0)]) (ws := (wMd g a_md (some (a_tn 0)) q_md_read md ++ (wTn g a_tn tn ++ []))) (Qc := fun sz => QI g (wMd g a_md (some (a_tn 0)) q_md_read md ++ (wTn g a_tn tn ++ [])) (wMd g a_md (some (a_tn 0)) q_md_read o_md ++ (wTn g a_tn tn ++ [])) r_ sz) (by decide) rfl ?_
  intro p e s m args below meth c ls Q A ha hQ hA X hl hI hin
  have X : Cx p s m args meth c cX13_undo 1 RX13 (some .boolean) := X
  have hl : lv_has ls 1 [(0, .ref (a_md 0))] := hl
  obtain ⟨hx, hb, hml, hown, ht, hr, hlk⟩ := id X
  clear ha hin
  have L_19 : ∀ (md : MdS) (H : Heap) (locs : List Loc) (ls : Array Slot), lv_has ls 1 [(0, .ref (a_md 0))] → In g A s.heap s (wMd g a_md (some (a_tn 0)) q_md_read md ++ (wTn g a_tn tn ++ [])) H locs → f_X13_undo_L19 md = some (r_, o_md) → W p l e rm_X13_undo s m args below meth c H locs 0 0 Q (F0 m 19 ls []) := by
    intro md H locs ls hl hI hf
    unfold f_X13_undo_L19 at hf
    refine lv_aload_n hx hb dX13_undo_19 rfl (lv_at hl 0 rfl) ?_
    refine lv_bipush (v := 6) hx hb dX13_undo_20 (by decide) ?_
    obtain ⟨r_9, md_10, hc_, hf⟩ := bd2_some hf
    refine call_Vi X hI (Cj.keep Cj.nil) (c_X13_denied l g a_md (some (a_tn 0)) q_md_read md (6 : Int32) r_9 md_10 hc_) ⟨rfl, rfl⟩ ⟨ht _ w_2370, w_2373, ht _ w_155, lk_X13_denied⟩ w_2372 w_136 rfl rfl rfl hl rfl rfl dX13_undo_22 rfl rfl rfl rfl (fun H locs hI => ?_)
    obtain ⟨hzb_, hf⟩ := zb_some hf
    cases hf
    exact end_z hQ hA X hI (zb_n hzb_) dX13_undo_25
  unfold f_X13_undo at hf
  refine lv_aload_n hx hb dX13_undo_0 rfl (lv_at hl 0 rfl) ?_
  refine lv_iconst (v := 0) hx hb dX13_undo_1 (by decide) ?_
  refine p_Md_thrown X hI up_Md_thrown.l (X.fl w_1583) dX13_undo_2 (fun H locs hI => ?_)
  generalize hz_ : (Md_thrown' md (0 : Int32)) = md_1 at hI hf
  clear hz_
  replace hf := lt_e hf
  refine lv_aload_n hx hb dX13_undo_5 rfl (lv_at hl 0 rfl) ?_
  refine g_Md_tangle_S X hI has_Md.l (X.fl w_1586) dX13_undo_6 ?_
  refine lv_ifnull hx hb dX13_undo_9 ?_
  refine lv_aload_n hx hb dX13_undo_12 rfl (lv_at hl 0 rfl) ?_
  refine g_Md_acts X hI has_Md.l (X.fl w_1622) dX13_undo_13 ?_
  refine lv_if_ne (tgt := 26) hx hb dX13_undo_16 (by decide) (fun h_ => ?_) (fun h_ => ?_)
  · replace hf := if_f h_ hf
    refine lv_aload_n hx hb dX13_undo_26 rfl (lv_at hl 0 rfl) ?_
    refine lv_dup hx hb dX13_undo_27 rfl ?_
    refine g_Md_acts X hI has_Md.l (X.fl w_1622) dX13_undo_28 ?_
    refine lv_iconst (v := 1) hx hb dX13_undo_31 (by decide) ?_
    refine lv_isub hx hb dX13_undo_32 ?_
    refine p_Md_acts X hI up_Md_acts.l (X.fl w_1622) dX13_undo_33 (fun H locs hI => ?_)
    generalize hz_ : (Md_acts' md_1 ((Md_acts md_1) - (1 : Int32))) = md_2 at hI hf
    clear hz_
    replace hf := lt_e hf
    refine lv_aload_n hx hb dX13_undo_36 rfl (lv_at hl 0 rfl) ?_
    refine lv_aload_n hx hb dX13_undo_37 rfl (lv_at hl 0 rfl) ?_
    refine g_Md_pastNow X hI has_Md.l (X.fl w_1614) dX13_undo_38 ?_
    refine lv_aload_n hx hb dX13_undo_41 rfl (lv_at hl 0 rfl) ?_
    refine g_Md_acts X hI has_Md.l (X.fl w_1622) dX13_undo_42 ?_
    obtain ⟨h_, hf⟩ := ck_someM hf
    refine ld_J X hI has_Md_pastNow.l h_ dX13_undo_45 ?_
    refine p_Md_now X hI up_Md_now.l (X.fl w_1598) dX13_undo_46 (fun H locs hI => ?_)
    generalize hz_ : (Md_now' md_2 (Md_pastNow md_2 (Int32.toNatClampNeg (Md_acts md_2)))) = md_3 at hI hf
    clear hz_
    replace hf := lt_e hf
    refine lv_aload_n hx hb dX13_undo_49 rfl (lv_at hl 0 rfl) ?_
    refine lv_aload_n hx hb dX13_undo_50 rfl (lv_at hl 0 rfl) ?_
    refine g_Md_pastParted X hI has_Md.l (X.fl w_1616) dX13_undo_51 ?_
    refine lv_aload_n hx hb dX13_undo_54 rfl (lv_at hl 0 rfl) ?_
    refine g_Md_acts X hI has_Md.l (X.fl w_1622) dX13_undo_55 ?_
    obtain ⟨h_, hf⟩ := ck_someM hf
    refine ld_I X hI has_Md_pastParted.l h_ dX13_undo_58 ?_
    refine p_Md_parted X hI up_Md_parted.l (X.fl w_1599) dX13_undo_59 (fun H locs hI => ?_)
    generalize hz_ : (Md_parted' md_3 (Md_pastParted md_3 (Int32.toNatClampNeg (Md_acts md_3)))) = md_4 at hI hf
    clear hz_
    replace hf := lt_e hf
    refine lv_aload_n hx hb dX13_undo_62 rfl (lv_at hl 0 rfl) ?_
    refine lv_aload_n hx hb dX13_undo_63 rfl (lv_at hl 0 rfl) ?_
    refine g_Md_pastSeed X hI has_Md.l (X.fl w_1617) dX13_undo_64 ?_
    refine lv_aload_n hx hb dX13_undo_67 rfl (lv_at hl 0 rfl) ?_
    refine g_Md_acts X hI has_Md.l (X.fl w_1622) dX13_undo_68 ?_
    obtain ⟨h_, hf⟩ := ck_someM hf
    refine ld_I X hI has_Md_pastSeed.l h_ dX13_undo_71 ?_
    refine p_Md_seed X hI up_Md_seed.l (X.fl w_1601) dX13_undo_72 (fun H locs hI => ?_)
    generalize hz_ : (Md_seed' md_4 (Md_pastSeed md_4 (Int32.toNatClampNeg (Md_acts md_4)))) = md_5 at hI hf
    clear hz_
    replace hf := lt_e hf
    refine lv_aload_n hx hb dX13_undo_75 rfl (lv_at hl 0 rfl) ?_
    refine lv_aload_n hx hb dX13_undo_76 rfl (lv_at hl 0 rfl) ?_
    refine g_Md_pastLifted X hI has_Md.l (X.fl w_1618) dX13_undo_77 ?_
    refine lv_aload_n hx hb dX13_undo_80 rfl (lv_at hl 0 rfl) ?_
    refine g_Md_acts X hI has_Md.l (X.fl w_1622) dX13_undo_81 ?_
    obtain ⟨h_, hf⟩ := ck_someM hf
    refine ld_I X hI has_Md_pastLifted.l h_ dX13_undo_84 ?_
    refine p_Md_lifted X hI up_Md_lifted.l (X.fl w_1600) dX13_undo_85 (fun H locs hI => ?_)
    generalize hz_ : (Md_lifted' md_5 (Md_pastLifted md_5 (Int32.toNatClampNeg (Md_acts md_5)))) = md_6 at hI hf
    clear hz_
    replace hf := lt_e hf
    refine lv_aload_n hx hb dX13_undo_88 rfl (lv_at hl 0 rfl) ?_
    obtain ⟨r_7, md_8, hc_, hf⟩ := bd2_some hf
    refine call_Vi X hI (Cj.keep Cj.nil) (c_X13_granted l g a_md (some (a_tn 0)) q_md_read md_6 r_7 md_8 hc_) ⟨rfl, rfl⟩ ⟨ht _ w_2374, w_2377, ht _ w_155, lk_X13_granted⟩ w_2376 w_137 rfl rfl rfl hl rfl rfl dX13_undo_89 rfl rfl rfl rfl (fun H locs hI => ?_)
    obtain ⟨hzb_, hf⟩ := zb_some hf
    cases hf
    exact end_z hQ hA X hI (zb_n hzb_) dX13_undo_92
  · replace hf := if_t h_ hf
    exact L_19 md_1 _ _ _ hl hI hf
abbrev rm_X13_mark : Room := { frames := 1, cells := 0, slots := 0, locals := 21 }
set_option maxRecDepth 20000 in
theorem c_X13_mark (l : Launch) (g : GT) (a_md : Nat → Nat) (a_tn : Nat → Nat) (q_md_read : Option Nat) (md : MdS) (tn : TnS) (r_ : Int32) (o_md : MdS) (hf : f_X13_mark md = some (r_, o_md)) : CI l yX13_mark cX13_mark 1 (some .int) rm_X13_mark g [.ref (a_md 0)] (wMd g a_md (some (a_tn 0)) q_md_read md ++ (wTn g a_tn tn ++ [])) (wMd g a_md (some (a_tn 0)) q_md_read o_md ++ (wTn g a_tn tn ++ [])) r_ := by
  refine start2 (y := yX13_mark) (cc := cX13_mark) (n := 1) (av := [.ref (a_md 0)]) (ws := (wMd g a_md (some (a_tn 0)) q_md_read md ++ (wTn g a_tn tn ++ []))) (Qc := fun sz => QI g (wMd g a_md (some (a_tn 0)) q_md_read md ++ (wTn g a_tn tn ++ [])) (wMd g a_md (some (a_tn 0)) q_md_read o_md ++ (wTn g a_tn tn ++ [])) r_ sz) (by decide) rfl ?_
  intro p e s m args below meth c ls Q A ha hQ hA X hl hI hin
  have X : Cx p s m args meth c cX13_mark 1 RX13 (some .int) := X
  have hl : lv_has ls 1 [(0, .ref (a_md 0))] := hl
  obtain ⟨hx, hb, hml, hown, ht, hr, hlk⟩ := id X
  clear ha hin
  unfold f_X13_mark at hf
  refine lv_aload_n hx hb dX13_mark_0 rfl (lv_at hl 0 rfl) ?_
  refine lv_iconst (v := 0) hx hb dX13_mark_1 (by decide) ?_
  refine p_Md_thrown X hI up_Md_thrown.l (X.fl w_1583) dX13_mark_2 (fun H locs hI => ?_)
  generalize hz_ : (Md_thrown' md (0 : Int32)) = md_1 at hI hf
  clear hz_
  replace hf := lt_e hf
  refine lv_aload_n hx hb dX13_mark_5 rfl (lv_at hl 0 rfl) ?_
  refine g_Md_tangle_S X hI has_Md.l (X.fl w_1586) dX13_mark_6 ?_
  refine lv_ifnonnull (tgt := 18) hx hb dX13_mark_9 (by decide) ?_
  refine lv_aload_n hx hb dX13_mark_18 rfl (lv_at hl 0 rfl) ?_
  refine g_Md_marks X hI has_Md.l (X.fl w_1623) dX13_mark_19 ?_
  refine lv_iconst (v := 3) hx hb dX13_mark_22 (by decide) ?_
  refine lv_icmp_ne (tgt := 32) hx hb dX13_mark_23 (by decide) (fun h_ => ?_) (fun h_ => ?_)
  · replace hf := if_f h_ hf
    refine lv_aload_n hx hb dX13_mark_32 rfl (lv_at hl 0 rfl) ?_
    refine g_Md_keptNow X hI has_Md.l (X.fl w_1615) dX13_mark_33 ?_
    refine lv_aload_n hx hb dX13_mark_36 rfl (lv_at hl 0 rfl) ?_
    refine g_Md_marks X hI has_Md.l (X.fl w_1623) dX13_mark_37 ?_
    refine lv_aload_n hx hb dX13_mark_40 rfl (lv_at hl 0 rfl) ?_
    refine g_Md_now X hI has_Md.l (X.fl w_1598) dX13_mark_41 ?_
    obtain ⟨h_, hf⟩ := ck_someM hf
    refine st_J X hI up_Md_keptNow.l h_ dX13_mark_44 (fun H locs hI => ?_)
    generalize hz_ : (Md_keptNow' md_1 (vp_updL (Md_keptNow md_1) (Int32.toNatClampNeg (Md_marks md_1)) (Md_now md_1))) = md_2 at hI hf
    clear hz_
    replace hf := lt_e hf
    refine lv_aload_n hx hb dX13_mark_45 rfl (lv_at hl 0 rfl) ?_
    refine g_Md_keptParted X hI has_Md.l (X.fl w_1619) dX13_mark_46 ?_
    refine lv_aload_n hx hb dX13_mark_49 rfl (lv_at hl 0 rfl) ?_
    refine g_Md_marks X hI has_Md.l (X.fl w_1623) dX13_mark_50 ?_
    refine lv_aload_n hx hb dX13_mark_53 rfl (lv_at hl 0 rfl) ?_
    refine g_Md_parted X hI has_Md.l (X.fl w_1599) dX13_mark_54 ?_
    obtain ⟨h_, hf⟩ := ck_someM hf
    refine st_I X hI up_Md_keptParted.l h_ dX13_mark_57 (fun H locs hI => ?_)
    generalize hz_ : (Md_keptParted' md_2 (upd (Md_keptParted md_2) (Int32.toNatClampNeg (Md_marks md_2)) (Md_parted md_2))) = md_3 at hI hf
    clear hz_
    replace hf := lt_e hf
    refine lv_aload_n hx hb dX13_mark_58 rfl (lv_at hl 0 rfl) ?_
    refine g_Md_keptSeed X hI has_Md.l (X.fl w_1620) dX13_mark_59 ?_
    refine lv_aload_n hx hb dX13_mark_62 rfl (lv_at hl 0 rfl) ?_
    refine g_Md_marks X hI has_Md.l (X.fl w_1623) dX13_mark_63 ?_
    refine lv_aload_n hx hb dX13_mark_66 rfl (lv_at hl 0 rfl) ?_
    refine g_Md_seed X hI has_Md.l (X.fl w_1601) dX13_mark_67 ?_
    obtain ⟨h_, hf⟩ := ck_someM hf
    refine st_I X hI up_Md_keptSeed.l h_ dX13_mark_70 (fun H locs hI => ?_)
    generalize hz_ : (Md_keptSeed' md_3 (upd (Md_keptSeed md_3) (Int32.toNatClampNeg (Md_marks md_3)) (Md_seed md_3))) = md_4 at hI hf
    clear hz_
    replace hf := lt_e hf
    refine lv_aload_n hx hb dX13_mark_71 rfl (lv_at hl 0 rfl) ?_
    refine g_Md_keptLifted X hI has_Md.l (X.fl w_1621) dX13_mark_72 ?_
    refine lv_aload_n hx hb dX13_mark_75 rfl (lv_at hl 0 rfl) ?_
    refine g_Md_marks X hI has_Md.l (X.fl w_1623) dX13_mark_76 ?_
    refine lv_aload_n hx hb dX13_mark_79 rfl (lv_at hl 0 rfl) ?_
    refine g_Md_lifted X hI has_Md.l (X.fl w_1600) dX13_mark_80 ?_
    obtain ⟨h_, hf⟩ := ck_someM hf
    refine st_I X hI up_Md_keptLifted.l h_ dX13_mark_83 (fun H locs hI => ?_)
    generalize hz_ : (Md_keptLifted' md_4 (upd (Md_keptLifted md_4) (Int32.toNatClampNeg (Md_marks md_4)) (Md_lifted md_4))) = md_5 at hI hf
    clear hz_
    replace hf := lt_e hf
    refine lv_aload_n hx hb dX13_mark_84 rfl (lv_at hl 0 rfl) ?_
    refine lv_dup hx hb dX13_mark_85 rfl ?_
    refine g_Md_marks X hI has_Md.l (X.fl w_1623) dX13_mark_86 ?_
    refine lv_iconst (v := 1) hx hb dX13_mark_89 (by decide) ?_
    refine lv_iadd hx hb dX13_mark_90 ?_
    refine p_Md_marks X hI up_Md_marks.l (X.fl w_1623) dX13_mark_91 (fun H locs hI => ?_)
    generalize hz_ : (Md_marks' md_5 ((Md_marks md_5) + (1 : Int32))) = md_6 at hI hf
    clear hz_
    replace hf := lt_e hf
    refine lv_aload_n hx hb dX13_mark_94 rfl (lv_at hl 0 rfl) ?_
    refine lv_aload_n hx hb dX13_mark_95 rfl (lv_at hl 0 rfl) ?_
    refine g_Md_marks X hI has_Md.l (X.fl w_1623) dX13_mark_96 ?_
    refine lv_iconst (v := 1) hx hb dX13_mark_99 (by decide) ?_
    refine lv_isub hx hb dX13_mark_100 ?_
    obtain ⟨r_7, md_8, hc_, hf⟩ := bd2_some hf
    refine call_Vi X hI (Cj.keep Cj.nil) (c_X13_good l g a_md (some (a_tn 0)) q_md_read md_6 ((Md_marks md_6) - (1 : Int32)) r_7 md_8 hc_) ⟨rfl, rfl⟩ ⟨ht _ w_1998, w_2001, ht _ w_155, lk_X13_good⟩ w_2000 w_92 rfl rfl rfl hl rfl rfl dX13_mark_101 rfl rfl rfl rfl (fun H locs hI => ?_)
    cases hf
    exact end_i hQ hA X hI dX13_mark_104
  · replace hf := if_t h_ hf
    refine lv_aload_n hx hb dX13_mark_26 rfl (lv_at hl 0 rfl) ?_
    refine lv_iconst (v := 3) hx hb dX13_mark_27 (by decide) ?_
    obtain ⟨r_9, md_10, hc_, hf⟩ := bd2_some hf
    refine call_Vi X hI (Cj.keep Cj.nil) (c_X13_refused l g a_md (some (a_tn 0)) q_md_read md_1 (3 : Int32) r_9 md_10 hc_) ⟨rfl, rfl⟩ ⟨ht _ w_1719, w_1722, ht _ w_155, lk_X13_refused⟩ w_1721 w_65 rfl rfl rfl hl rfl rfl dX13_mark_28 rfl rfl rfl rfl (fun H locs hI => ?_)
    cases hf
    exact end_i hQ hA X hI dX13_mark_31
abbrev rm_X13_back : Room := { frames := 2, cells := 0, slots := 0, locals := 42 }
set_option maxRecDepth 20000 in
theorem c_X13_back (l : Launch) (g : GT) (a_md : Nat → Nat) (a_tn : Nat → Nat) (q_md_read : Option Nat) (md : MdS) (tn : TnS) (p1 : Int32) (r_ : Int32) (o_md : MdS) (hf : f_X13_back md p1 = some (r_, o_md)) : CI l yX13_back cX13_back 2 (some .boolean) rm_X13_back g [.ref (a_md 0), .int p1] (wMd g a_md (some (a_tn 0)) q_md_read md ++ (wTn g a_tn tn ++ [])) (wMd g a_md (some (a_tn 0)) q_md_read o_md ++ (wTn g a_tn tn ++ [])) r_ := by
  refine start2 (y := yX13_back) (cc := cX13_back) (n := 2) (av := [.ref (a_md 0), .int p1]) (ws := (wMd g a_md (some (a_tn 0)) q_md_read md ++ (wTn g a_tn tn ++ []))) (Qc := fun sz => QI g (wMd g a_md (some (a_tn 0)) q_md_read md ++ (wTn g a_tn tn ++ [])) (wMd g a_md (some (a_tn 0)) q_md_read o_md ++ (wTn g a_tn tn ++ [])) r_ sz) (by decide) rfl ?_
  intro p e s m args below meth c ls Q A ha hQ hA X hl hI hin
  have X : Cx p s m args meth c cX13_back 2 RX13 (some .boolean) := X
  have hl : lv_has ls 2 [(0, .ref (a_md 0)), (1, .int p1)] := hl
  obtain ⟨hx, hb, hml, hown, ht, hr, hlk⟩ := id X
  clear ha hin
  have L_24 : ∀ (md : MdS) (H : Heap) (locs : List Loc) (ls : Array Slot), lv_has ls 2 [(0, .ref (a_md 0))] → In g A s.heap s (wMd g a_md (some (a_tn 0)) q_md_read md ++ (wTn g a_tn tn ++ [])) H locs → f_X13_back_L24 md = some (r_, o_md) → W p l e rm_X13_back s m args below meth c H locs 0 0 Q (F0 m 24 ls []) := by
    intro md H locs ls hl hI hf
    unfold f_X13_back_L24 at hf
    refine lv_aload_n hx hb dX13_back_24 rfl (lv_at hl 0 rfl) ?_
    refine lv_iconst (v := 1) hx hb dX13_back_25 (by decide) ?_
    obtain ⟨r_9, md_10, hc_, hf⟩ := bd2_some hf
    refine call_Vi X hI (Cj.keep Cj.nil) (c_X13_denied l g a_md (some (a_tn 0)) q_md_read md (1 : Int32) r_9 md_10 hc_) ⟨rfl, rfl⟩ ⟨ht _ w_2370, w_2373, ht _ w_155, lk_X13_denied⟩ w_2372 w_136 rfl rfl rfl hl rfl rfl dX13_back_26 rfl rfl rfl rfl (fun H locs hI => ?_)
    obtain ⟨hzb_, hf⟩ := zb_some hf
    cases hf
    exact end_z hQ hA X hI (zb_n hzb_) dX13_back_29
  unfold f_X13_back at hf
  refine lv_aload_n hx hb dX13_back_0 rfl (lv_at hl 0 rfl) ?_
  refine lv_iconst (v := 0) hx hb dX13_back_1 (by decide) ?_
  refine p_Md_thrown X hI up_Md_thrown.l (X.fl w_1583) dX13_back_2 (fun H locs hI => ?_)
  generalize hz_ : (Md_thrown' md (0 : Int32)) = md_1 at hI hf
  clear hz_
  replace hf := lt_e hf
  refine lv_aload_n hx hb dX13_back_5 rfl (lv_at hl 0 rfl) ?_
  refine g_Md_tangle_S X hI has_Md.l (X.fl w_1586) dX13_back_6 ?_
  refine lv_ifnull hx hb dX13_back_9 ?_
  refine lv_iload_n hx hb dX13_back_12 rfl (lv_at hl 1 rfl) ?_
  refine lv_if_lt (tgt := 24) hx hb dX13_back_13 (by decide) (fun h_ => ?_) (fun h_ => ?_)
  · replace hf := if_t h_ hf
    exact L_24 md_1 _ _ _ (lv_sub hl [0] rfl) hI hf
  · replace hf := if_f h_ hf
    refine lv_iload_n hx hb dX13_back_16 rfl (lv_at hl 1 rfl) ?_
    refine lv_aload_n hx hb dX13_back_17 rfl (lv_at hl 0 rfl) ?_
    refine g_Md_marks X hI has_Md.l (X.fl w_1623) dX13_back_18 ?_
    refine lv_icmp_lt (tgt := 30) hx hb dX13_back_21 (by decide) (fun h_ => ?_) (fun h_ => ?_)
    · replace hf := if_t h_ hf
      refine lv_aload_n hx hb dX13_back_30 rfl (lv_at hl 0 rfl) ?_
      refine lv_aload_n hx hb dX13_back_31 rfl (lv_at hl 0 rfl) ?_
      refine g_Md_keptNow X hI has_Md.l (X.fl w_1615) dX13_back_32 ?_
      refine lv_iload_n hx hb dX13_back_35 rfl (lv_at hl 1 rfl) ?_
      obtain ⟨h_, hf⟩ := ck_someM hf
      refine ld_J X hI has_Md_keptNow.l h_ dX13_back_36 ?_
      refine p_Md_now X hI up_Md_now.l (X.fl w_1598) dX13_back_37 (fun H locs hI => ?_)
      generalize hz_ : (Md_now' md_1 (Md_keptNow md_1 (Int32.toNatClampNeg p1))) = md_2 at hI hf
      clear hz_
      replace hf := lt_e hf
      refine lv_aload_n hx hb dX13_back_40 rfl (lv_at hl 0 rfl) ?_
      refine lv_aload_n hx hb dX13_back_41 rfl (lv_at hl 0 rfl) ?_
      refine g_Md_keptParted X hI has_Md.l (X.fl w_1619) dX13_back_42 ?_
      refine lv_iload_n hx hb dX13_back_45 rfl (lv_at hl 1 rfl) ?_
      obtain ⟨h_, hf⟩ := ck_someM hf
      refine ld_I X hI has_Md_keptParted.l h_ dX13_back_46 ?_
      refine p_Md_parted X hI up_Md_parted.l (X.fl w_1599) dX13_back_47 (fun H locs hI => ?_)
      generalize hz_ : (Md_parted' md_2 (Md_keptParted md_2 (Int32.toNatClampNeg p1))) = md_3 at hI hf
      clear hz_
      replace hf := lt_e hf
      refine lv_aload_n hx hb dX13_back_50 rfl (lv_at hl 0 rfl) ?_
      refine lv_aload_n hx hb dX13_back_51 rfl (lv_at hl 0 rfl) ?_
      refine g_Md_keptSeed X hI has_Md.l (X.fl w_1620) dX13_back_52 ?_
      refine lv_iload_n hx hb dX13_back_55 rfl (lv_at hl 1 rfl) ?_
      obtain ⟨h_, hf⟩ := ck_someM hf
      refine ld_I X hI has_Md_keptSeed.l h_ dX13_back_56 ?_
      refine p_Md_seed X hI up_Md_seed.l (X.fl w_1601) dX13_back_57 (fun H locs hI => ?_)
      generalize hz_ : (Md_seed' md_3 (Md_keptSeed md_3 (Int32.toNatClampNeg p1))) = md_4 at hI hf
      clear hz_
      replace hf := lt_e hf
      refine lv_aload_n hx hb dX13_back_60 rfl (lv_at hl 0 rfl) ?_
      refine lv_aload_n hx hb dX13_back_61 rfl (lv_at hl 0 rfl) ?_
      refine g_Md_keptLifted X hI has_Md.l (X.fl w_1621) dX13_back_62 ?_
      refine lv_iload_n hx hb dX13_back_65 rfl (lv_at hl 1 rfl) ?_
      obtain ⟨h_, hf⟩ := ck_someM hf
      refine ld_I X hI has_Md_keptLifted.l h_ dX13_back_66 ?_
      refine p_Md_lifted X hI up_Md_lifted.l (X.fl w_1600) dX13_back_67 (fun H locs hI => ?_)
      generalize hz_ : (Md_lifted' md_4 (Md_keptLifted md_4 (Int32.toNatClampNeg p1))) = md_5 at hI hf
      clear hz_
      replace hf := lt_e hf
      refine lv_aload_n hx hb dX13_back_70 rfl (lv_at hl 0 rfl) ?_
      refine lv_iconst (v := 0) hx hb dX13_back_71 (by decide) ?_
      refine p_Md_acts X hI up_Md_acts.l (X.fl w_1622) dX13_back_72 (fun H locs hI => ?_)
      generalize hz_ : (Md_acts' md_5 (0 : Int32)) = md_6 at hI hf
      clear hz_
      replace hf := lt_e hf
      refine lv_aload_n hx hb dX13_back_75 rfl (lv_at hl 0 rfl) ?_
      obtain ⟨r_7, md_8, hc_, hf⟩ := bd2_some hf
      refine call_Vi X hI (Cj.keep Cj.nil) (c_X13_granted l g a_md (some (a_tn 0)) q_md_read md_6 r_7 md_8 hc_) ⟨rfl, rfl⟩ ⟨ht _ w_2374, w_2377, ht _ w_155, lk_X13_granted⟩ w_2376 w_137 rfl rfl rfl hl rfl rfl dX13_back_76 rfl rfl rfl rfl (fun H locs hI => ?_)
      obtain ⟨hzb_, hf⟩ := zb_some hf
      cases hf
      exact end_z hQ hA X hI (zb_n hzb_) dX13_back_79
    · replace hf := if_f h_ hf
      exact L_24 md_1 _ _ _ (lv_sub hl [0] rfl) hI hf
abbrev rm_X13_led : Room := { frames := 4, cells := 0, slots := 0, locals := 92 }
set_option maxRecDepth 20000 in
theorem c_X13_led (l : Launch) (g : GT) (a_md : Nat → Nat) (a_tn : Nat → Nat) (q_md_read : Option Nat) (md : MdS) (tn : TnS) (p1 : Int32) (r_ : Int32) (o_md : MdS) (hf : f_X13_led md tn p1 = some (r_, o_md)) : CI l yX13_led cX13_led 4 (some .int) rm_X13_led g [.ref (a_md 0), .int p1] (wMd g a_md (some (a_tn 0)) q_md_read md ++ (wTn g a_tn tn ++ [])) (wMd g a_md (some (a_tn 0)) q_md_read o_md ++ (wTn g a_tn tn ++ [])) r_ := by
  refine start2 (y := yX13_led) (cc := cX13_led) (n := 4) (av := [.ref (a_md 0), .int p1]) (ws := (wMd g a_md (some (a_tn 0)) q_md_read md ++ (wTn g a_tn tn ++ []))) (Qc := fun sz => QI g (wMd g a_md (some (a_tn 0)) q_md_read md ++ (wTn g a_tn tn ++ [])) (wMd g a_md (some (a_tn 0)) q_md_read o_md ++ (wTn g a_tn tn ++ [])) r_ sz) (by decide) rfl ?_
  intro p e s m args below meth c ls Q A ha hQ hA X hl hI hin
  have X : Cx p s m args meth c cX13_led 4 RX13 (some .int) := X
  have hl : lv_has ls 4 [(0, .ref (a_md 0)), (1, .int p1)] := hl
  obtain ⟨hx, hb, hml, hown, ht, hr, hlk⟩ := id X
  clear ha hin
  have L_48 : ∀ (x1 : Int32) (x2 : Int32) (x3 : Int32) (md : MdS) (k9 : (Int32) → (Int32) → (Int32) → (MdS) → (TnS) → Option (Int32 × (MdS))) (H : Heap) (locs : List Loc) (ls : Array Slot), lv_has ls 4 [(0, .ref (a_md 0)), (1, .int x1), (2, .int x2), (3, .int x3)] → In g A s.heap s (wMd g a_md (some (a_tn 0)) q_md_read md ++ (wTn g a_tn tn ++ [])) H locs → f_X13_led_L48 x1 x2 x3 md tn k9 = some (r_, o_md) → (∀ (x1 : Int32) (x2 : Int32) (x3 : Int32) (md : MdS) (H : Heap) (locs : List Loc) (ls : Array Slot), lv_has ls 4 [(0, .ref (a_md 0)), (1, .int x1), (2, .int x2), (3, .int x3)] → In g A s.heap s (wMd g a_md (some (a_tn 0)) q_md_read md ++ (wTn g a_tn tn ++ [])) H locs → k9 x1 x2 x3 md tn = some (r_, o_md) → W p l e rm_X13_led s m args below meth c H locs 0 0 Q (F0 m 9 ls [])) → W p l e rm_X13_led s m args below meth c H locs 0 0 Q (F0 m 48 ls []) := by
    intro x1 x2 x3 md k9 H locs ls hl hI hf hk9
    unfold f_X13_led_L48 at hf
    obtain ⟨v_6, e_⟩ : ∃ y : Int32, y = (x3 + (1 : Int32)) := ⟨_, rfl⟩
    replace hf := lt_to e_ hf
    refine lv_iinc (v := v_6) (lv' := [(3, .int v_6), (0, .ref (a_md 0)), (1, .int x1), (2, .int x2)]) hx hb dX13_led_48 hl (k := 3) rfl (by rw [e_]; rfl) (by decide) rfl (fun ls hl => ?_)
    clear e_
    refine lv_goto (tgt := 9) hx hb dX13_led_51 (by decide) ?_
    exact hk9 x1 x2 v_6 md _ _ _ (lv_sub hl [1, 2, 3, 0] rfl) hI hf
  have L_54 : ∀ (md : MdS) (H : Heap) (locs : List Loc) (ls : Array Slot), lv_has ls 4 [(0, .ref (a_md 0))] → In g A s.heap s (wMd g a_md (some (a_tn 0)) q_md_read md ++ (wTn g a_tn tn ++ [])) H locs → f_X13_led_L54 md = some (r_, o_md) → W p l e rm_X13_led s m args below meth c H locs 0 0 Q (F0 m 54 ls []) := by
    intro md H locs ls hl hI hf
    unfold f_X13_led_L54 at hf
    refine lv_aload_n hx hb dX13_led_54 rfl (lv_at hl 0 rfl) ?_
    refine lv_iconst (v := 1) hx hb dX13_led_55 (by decide) ?_
    refine p_Md_thrown X hI up_Md_thrown.l (X.fl w_1583) dX13_led_56 (fun H locs hI => ?_)
    generalize hz_ : (Md_thrown' md (1 : Int32)) = md_5 at hI hf
    clear hz_
    replace hf := lt_e hf
    refine lv_iconst (v := 0) hx hb dX13_led_59 (by decide) ?_
    cases hf
    exact end_i hQ hA X hI dX13_led_60
  have L_9 : ∀ (n_ : Nat) (x1 : Int32) (x2 : Int32) (x3 : Int32) (md : MdS) (H : Heap) (locs : List Loc) (ls : Array Slot), lv_has ls 4 [(0, .ref (a_md 0)), (1, .int x1), (2, .int x2), (3, .int x3)] → In g A s.heap s (wMd g a_md (some (a_tn 0)) q_md_read md ++ (wTn g a_tn tn ++ [])) H locs → f_X13_led_L9 n_ x1 x2 x3 md tn = some (r_, o_md) → W p l e rm_X13_led s m args below meth c H locs 0 0 Q (F0 m 9 ls []) := by
    intro n_
    induction n_ with
    | zero =>
      intro x1 x2 x3 md H locs ls hl hI hf
      rw [f_X13_led_L9] at hf
      cases hf
    | succ n_ ih =>
      intro x1 x2 x3 md H locs ls hl hI hf
      rw [f_X13_led_L9] at hf
      refine lv_aload_n hx hb dX13_led_9 rfl (lv_at hl 0 rfl) ?_
      refine g_Md_tangle_S X hI has_Md.l (X.fl w_1586) dX13_led_10 ?_
      refine lv_ifnull hx hb dX13_led_13 ?_
      refine lv_iload_n hx hb dX13_led_16 rfl (lv_at hl 3 rfl) ?_
      refine lv_aload_n hx hb dX13_led_17 rfl (lv_at hl 0 rfl) ?_
      refine g_Md_tangle_S X hI has_Md.l (X.fl w_1586) dX13_led_18 ?_
      refine g_Tn_crossings X hI has_Tn.l.r (hI.fn (List.mem_of_getElem? (i := 82) rfl)) dX13_led_21 ?_
      refine lv_icmp_ge (tgt := 54) hx hb dX13_led_24 (by decide) (fun h_ => ?_) (fun h_ => ?_)
      · replace hf := if_t h_ hf
        exact L_54 md _ _ _ (lv_sub hl [0] rfl) hI hf
      · replace hf := if_f h_ hf
        refine lv_aload_n hx hb dX13_led_27 rfl (lv_at hl 0 rfl) ?_
        refine lv_iload_n hx hb dX13_led_28 rfl (lv_at hl 3 rfl) ?_
        obtain ⟨r_2, md_3, hc_, hf⟩ := bd2_some hf
        refine call_Vi X hI (Cj.keep (Cj.keep Cj.id)) (c_X13_isLeft l g a_md a_tn q_md_read md tn x3 r_2 md_3 hc_) ⟨rfl, rfl⟩ ⟨ht _ w_2067, w_2070, ht _ w_155, lk_X13_isLeft⟩ w_2069 w_98 rfl rfl rfl hl rfl rfl dX13_led_29 rfl rfl rfl rfl (fun H locs hI => ?_)
        refine lv_if_ne (tgt := 38) hx hb dX13_led_32 (by decide) (fun h_ => ?_) (fun h_ => ?_)
        · replace hf := if_f h_ hf
          refine lv_iload_n hx hb dX13_led_38 rfl (lv_at hl 2 rfl) ?_
          refine lv_iload_n hx hb dX13_led_39 rfl (lv_at hl 1 rfl) ?_
          refine lv_icmp_ne (tgt := 45) hx hb dX13_led_40 (by decide) (fun h_ => ?_) (fun h_ => ?_)
          · replace hf := if_f h_ hf
            obtain ⟨v_4, e_⟩ : ∃ y : Int32, y = (x2 + (1 : Int32)) := ⟨_, rfl⟩
            replace hf := lt_to e_ hf
            refine lv_iinc (v := v_4) (lv' := [(2, .int v_4), (0, .ref (a_md 0)), (1, .int x1), (3, .int x3)]) hx hb dX13_led_45 hl (k := 2) rfl (by rw [e_]; rfl) (by decide) rfl (fun ls hl => ?_)
            clear e_
            exact L_48 x1 v_4 x3 md_3 _ _ _ _ (lv_sub hl [1, 2, 0, 3] rfl) hI hf (fun z_0 z_1 z_2 z_3 _ _ _ hl hI hf => ih z_0 z_1 z_2 z_3 _ _ _ hl hI hf)
          · replace hf := if_t h_ hf
            refine lv_iload_n hx hb dX13_led_43 rfl (lv_at hl 3 rfl) ?_
            cases hf
            exact end_i hQ hA X hI dX13_led_44
        · replace hf := if_t h_ hf
          refine lv_goto (tgt := 48) hx hb dX13_led_35 (by decide) ?_
          exact L_48 x1 x2 x3 md_3 _ _ _ _ hl hI hf (fun z_0 z_1 z_2 z_3 _ _ _ hl hI hf => ih z_0 z_1 z_2 z_3 _ _ _ hl hI hf)
  unfold f_X13_led at hf
  refine lv_aload_n hx hb dX13_led_0 rfl (lv_at hl 0 rfl) ?_
  refine lv_iconst (v := 0) hx hb dX13_led_1 (by decide) ?_
  refine p_Md_thrown X hI up_Md_thrown.l (X.fl w_1583) dX13_led_2 (fun H locs hI => ?_)
  generalize hz_ : (Md_thrown' md (0 : Int32)) = md_1 at hI hf
  clear hz_
  replace hf := lt_e hf
  refine lv_iconst (v := 0) hx hb dX13_led_5 (by decide) ?_
  refine lv_istore_n (lv' := [(2, .int (0 : Int32)), (0, .ref (a_md 0)), (1, .int p1)]) hx hb dX13_led_6 rfl hl (by decide) rfl (fun ls hl => ?_)
  refine lv_iconst (v := 0) hx hb dX13_led_7 (by decide) ?_
  refine lv_istore_n (lv' := [(3, .int (0 : Int32)), (2, .int (0 : Int32)), (0, .ref (a_md 0)), (1, .int p1)]) hx hb dX13_led_8 rfl hl (by decide) rfl (fun ls hl => ?_)
  exact L_9 FU p1 (0 : Int32) (0 : Int32) md_1 _ _ _ (lv_sub hl [2, 3, 1, 0] rfl) hI hf
abbrev rm_X13_size : Room := { frames := 1, cells := 0, slots := 0, locals := 22 }
set_option maxRecDepth 20000 in
theorem c_X13_size (l : Launch) (g : GT) (a_md : Nat → Nat) (a_tn : Nat → Nat) (q_md_read : Option Nat) (md : MdS) (tn : TnS) (p1 : Int32) (r_ : Int32) (o_md : MdS) (hf : f_X13_size md tn p1 = some (r_, o_md)) : CI l yX13_size cX13_size 2 (some .int) rm_X13_size g [.ref (a_md 0), .int p1] (wMd g a_md (some (a_tn 0)) q_md_read md ++ (wTn g a_tn tn ++ [])) (wMd g a_md (some (a_tn 0)) q_md_read o_md ++ (wTn g a_tn tn ++ [])) r_ := by
  refine start2 (y := yX13_size) (cc := cX13_size) (n := 2) (av := [.ref (a_md 0), .int p1]) (ws := (wMd g a_md (some (a_tn 0)) q_md_read md ++ (wTn g a_tn tn ++ []))) (Qc := fun sz => QI g (wMd g a_md (some (a_tn 0)) q_md_read md ++ (wTn g a_tn tn ++ [])) (wMd g a_md (some (a_tn 0)) q_md_read o_md ++ (wTn g a_tn tn ++ [])) r_ sz) (by decide) rfl ?_
  intro p e s m args below meth c ls Q A ha hQ hA X hl hI hin
  have X : Cx p s m args meth c cX13_size 2 RX13 (some .int) := X
  have hl : lv_has ls 2 [(0, .ref (a_md 0)), (1, .int p1)] := hl
  obtain ⟨hx, hb, hml, hown, ht, hr, hlk⟩ := id X
  clear ha hin
  unfold f_X13_size at hf
  refine lv_aload_n hx hb dX13_size_0 rfl (lv_at hl 0 rfl) ?_
  refine lv_iconst (v := 0) hx hb dX13_size_1 (by decide) ?_
  refine p_Md_thrown X hI up_Md_thrown.l (X.fl w_1583) dX13_size_2 (fun H locs hI => ?_)
  generalize hz_ : (Md_thrown' md (0 : Int32)) = md_1 at hI hf
  clear hz_
  replace hf := lt_e hf
  refine lv_iload_n hx hb dX13_size_5 rfl (lv_at hl 1 rfl) ?_
  refine lv_bipush (v := 11) hx hb dX13_size_6 (by decide) ?_
  refine lv_icmp_ne (tgt := 16) hx hb dX13_size_8 (by decide) (fun h_ => ?_) (fun h_ => ?_)
  · replace hf := if_f h_ hf
    refine lv_iload_n hx hb dX13_size_16 rfl (lv_at hl 1 rfl) ?_
    refine lv_iconst (v := 0) hx hb dX13_size_17 (by decide) ?_
    refine lv_bipush (v := 10) hx hb dX13_size_18 (by decide) ?_
    obtain ⟨r_2, hc_, hf⟩ := bd1_some hf
    refine call_Si X hI Cj.nil (c_X13_in l g p1 (0 : Int32) (10 : Int32) r_2 hc_) ⟨rfl, rfl⟩ ⟨ht _ w_1910, w_1912, ht _ w_155, lk_X13_in⟩ w_1911 rfl hl rfl rfl dX13_size_20 rfl rfl rfl rfl (fun H locs hI => ?_)
    refine lv_if_ne (tgt := 28) hx hb dX13_size_23 (by decide) (fun h_ => ?_) (fun h_ => ?_)
    · replace hf := if_f h_ hf
      refine lv_aload_n hx hb dX13_size_28 rfl (lv_at hl 0 rfl) ?_
      refine g_Md_tangle_S X hI has_Md.l (X.fl w_1586) dX13_size_29 ?_
      refine lv_ifnonnull (tgt := 37) hx hb dX13_size_32 (by decide) ?_
      refine lv_iload_n hx hb dX13_size_37 rfl (lv_at hl 1 rfl) ?_
      by_cases h0_ : p1 = (0 : Int32)
      · replace hf := if_t h0_ hf
        refine lv_tableIn (tgt := 92) (off := 54) hx hb dX13_size_38 (by rw [h0_]; decide) (by rw [h0_]; decide) (by rw [h0_]; rfl) (by decide) ?_
        refine lv_aload_n hx hb dX13_size_92 rfl (lv_at hl 0 rfl) ?_
        refine g_Md_tangle_S X hI has_Md.l (X.fl w_1586) dX13_size_93 ?_
        refine g_Tn_people X hI has_Tn.l.r (hI.fn (List.mem_of_getElem? (i := 80) rfl)) dX13_size_96 ?_
        cases hf
        exact end_i hQ hA X hI dX13_size_99
      · replace hf := if_f h0_ hf
        by_cases h1_ : p1 = (1 : Int32)
        · replace hf := if_t h1_ hf
          refine lv_tableIn (tgt := 100) (off := 62) hx hb dX13_size_38 (by rw [h1_]; decide) (by rw [h1_]; decide) (by rw [h1_]; rfl) (by decide) ?_
          refine lv_aload_n hx hb dX13_size_100 rfl (lv_at hl 0 rfl) ?_
          refine g_Md_tangle_S X hI has_Md.l (X.fl w_1586) dX13_size_101 ?_
          refine g_Tn_links X hI has_Tn.l.r (hI.fn (List.mem_of_getElem? (i := 81) rfl)) dX13_size_104 ?_
          cases hf
          exact end_i hQ hA X hI dX13_size_107
        · replace hf := if_f h1_ hf
          by_cases h2_ : p1 = (2 : Int32)
          · replace hf := if_t h2_ hf
            refine lv_tableIn (tgt := 108) (off := 70) hx hb dX13_size_38 (by rw [h2_]; decide) (by rw [h2_]; decide) (by rw [h2_]; rfl) (by decide) ?_
            refine lv_aload_n hx hb dX13_size_108 rfl (lv_at hl 0 rfl) ?_
            refine g_Md_tangle_S X hI has_Md.l (X.fl w_1586) dX13_size_109 ?_
            refine g_Tn_rings X hI has_Tn.l.r (hI.fn (List.mem_of_getElem? (i := 84) rfl)) dX13_size_112 ?_
            cases hf
            exact end_i hQ hA X hI dX13_size_115
          · replace hf := if_f h2_ hf
            by_cases h3_ : p1 = (3 : Int32)
            · replace hf := if_t h3_ hf
              refine lv_tableIn (tgt := 116) (off := 78) hx hb dX13_size_38 (by rw [h3_]; decide) (by rw [h3_]; decide) (by rw [h3_]; rfl) (by decide) ?_
              refine lv_aload_n hx hb dX13_size_116 rfl (lv_at hl 0 rfl) ?_
              refine g_Md_tangle_S X hI has_Md.l (X.fl w_1586) dX13_size_117 ?_
              refine g_Tn_crossings X hI has_Tn.l.r (hI.fn (List.mem_of_getElem? (i := 82) rfl)) dX13_size_120 ?_
              cases hf
              exact end_i hQ hA X hI dX13_size_123
            · replace hf := if_f h3_ hf
              by_cases h4_ : p1 = (4 : Int32)
              · replace hf := if_t h4_ hf
                refine lv_tableIn (tgt := 124) (off := 86) hx hb dX13_size_38 (by rw [h4_]; decide) (by rw [h4_]; decide) (by rw [h4_]; rfl) (by decide) ?_
                refine lv_aload_n hx hb dX13_size_124 rfl (lv_at hl 0 rfl) ?_
                refine g_Md_tangle_S X hI has_Md.l (X.fl w_1586) dX13_size_125 ?_
                refine g_Tn_standings X hI has_Tn.l.r (hI.fn (List.mem_of_getElem? (i := 85) rfl)) dX13_size_128 ?_
                cases hf
                exact end_i hQ hA X hI dX13_size_131
              · replace hf := if_f h4_ hf
                by_cases h5_ : p1 = (5 : Int32)
                · replace hf := if_t h5_ hf
                  refine lv_tableIn (tgt := 132) (off := 94) hx hb dX13_size_38 (by rw [h5_]; decide) (by rw [h5_]; decide) (by rw [h5_]; rfl) (by decide) ?_
                  refine lv_aload_n hx hb dX13_size_132 rfl (lv_at hl 0 rfl) ?_
                  refine g_Md_tangle_S X hI has_Md.l (X.fl w_1586) dX13_size_133 ?_
                  refine g_Tn_height X hI has_Tn.l.r (hI.fn (List.mem_of_getElem? (i := 79) rfl)) dX13_size_136 ?_
                  cases hf
                  exact end_i hQ hA X hI dX13_size_139
                · replace hf := if_f h5_ hf
                  by_cases h6_ : p1 = (6 : Int32)
                  · replace hf := if_t h6_ hf
                    refine lv_tableIn (tgt := 140) (off := 102) hx hb dX13_size_38 (by rw [h6_]; decide) (by rw [h6_]; decide) (by rw [h6_]; rfl) (by decide) ?_
                    refine lv_aload_n hx hb dX13_size_140 rfl (lv_at hl 0 rfl) ?_
                    refine g_Md_tangle_S X hI has_Md.l (X.fl w_1586) dX13_size_141 ?_
                    refine g_Tn_once X hI has_Tn.l.r (hI.fn (List.mem_of_getElem? (i := 86) rfl)) dX13_size_144 ?_
                    refine lv_if_eq (tgt := 154) hx hb dX13_size_147 (by decide) (fun h_ => ?_) (fun h_ => ?_)
                    · replace hf := if_t h_ hf
                      refine lv_iconst (v := 0) hx hb dX13_size_154 (by decide) ?_
                      cases hf
                      exact end_i hQ hA X hI dX13_size_155
                    · replace hf := if_f h_ hf
                      refine lv_iconst (v := 1) hx hb dX13_size_150 (by decide) ?_
                      refine lv_goto (tgt := 155) hx hb dX13_size_151 (by decide) ?_
                      cases hf
                      exact end_i hQ hA X hI dX13_size_155
                  · replace hf := if_f h6_ hf
                    by_cases h7_ : p1 = (7 : Int32)
                    · replace hf := if_t h7_ hf
                      refine lv_tableIn (tgt := 156) (off := 118) hx hb dX13_size_38 (by rw [h7_]; decide) (by rw [h7_]; decide) (by rw [h7_]; rfl) (by decide) ?_
                      refine lv_aload_n hx hb dX13_size_156 rfl (lv_at hl 0 rfl) ?_
                      refine g_Md_parted X hI has_Md.l (X.fl w_1599) dX13_size_157 ?_
                      cases hf
                      exact end_i hQ hA X hI dX13_size_160
                    · replace hf := if_f h7_ hf
                      by_cases h8_ : p1 = (8 : Int32)
                      · replace hf := if_t h8_ hf
                        refine lv_tableIn (tgt := 161) (off := 123) hx hb dX13_size_38 (by rw [h8_]; decide) (by rw [h8_]; decide) (by rw [h8_]; rfl) (by decide) ?_
                        refine lv_aload_n hx hb dX13_size_161 rfl (lv_at hl 0 rfl) ?_
                        refine g_Md_seed X hI has_Md.l (X.fl w_1601) dX13_size_162 ?_
                        cases hf
                        exact end_i hQ hA X hI dX13_size_165
                      · replace hf := if_f h8_ hf
                        by_cases h9_ : p1 = (9 : Int32)
                        · replace hf := if_t h9_ hf
                          refine lv_tableIn (tgt := 166) (off := 128) hx hb dX13_size_38 (by rw [h9_]; decide) (by rw [h9_]; decide) (by rw [h9_]; rfl) (by decide) ?_
                          refine lv_aload_n hx hb dX13_size_166 rfl (lv_at hl 0 rfl) ?_
                          refine g_Md_acts X hI has_Md.l (X.fl w_1622) dX13_size_167 ?_
                          cases hf
                          exact end_i hQ hA X hI dX13_size_170
                        · replace hf := if_f h9_ hf
                          refine lv_tableOut (tgt := 171) hx hb dX13_size_38 (by have q0 := sw_ne h0_ (j := 0) (by decide); have q1 := sw_ne h1_ (j := 1) (by decide); have q2 := sw_ne h2_ (j := 2) (by decide); have q3 := sw_ne h3_ (j := 3) (by decide); have q4 := sw_ne h4_ (j := 4) (by decide); have q5 := sw_ne h5_ (j := 5) (by decide); have q6 := sw_ne h6_ (j := 6) (by decide); have q7 := sw_ne h7_ (j := 7) (by decide); have q8 := sw_ne h8_ (j := 8) (by decide); have q9 := sw_ne h9_ (j := 9) (by decide); omega) (by decide) ?_
                          refine lv_aload_n hx hb dX13_size_171 rfl (lv_at hl 0 rfl) ?_
                          refine g_Md_marks X hI has_Md.l (X.fl w_1623) dX13_size_172 ?_
                          cases hf
                          exact end_i hQ hA X hI dX13_size_175
    · replace hf := if_t h_ hf
      refine lv_iconst (v := (-1)) hx hb dX13_size_26 (by decide) ?_
      cases hf
      exact end_i hQ hA X hI dX13_size_27
  · replace hf := if_t h_ hf
    refine lv_aload_n hx hb dX13_size_11 rfl (lv_at hl 0 rfl) ?_
    refine g_Md_taped X hI has_Md.l (X.fl w_1589) dX13_size_12 ?_
    cases hf
    exact end_i hQ hA X hI dX13_size_15
abbrev rm_X13_trouble : Room := { frames := 0, cells := 0, slots := 0, locals := 0 }
set_option maxRecDepth 20000 in
theorem c_X13_trouble (l : Launch) (g : GT) (a_md : Nat → Nat) (q_md_tangle : Option Nat) (q_md_read : Option Nat) (md : MdS) (r_ : Int32) (o_md : MdS) (hf : f_X13_trouble md = some (r_, o_md)) : CI l yX13_trouble cX13_trouble 1 (some .int) rm_X13_trouble g [.ref (a_md 0)] (wMd g a_md q_md_tangle q_md_read md ++ []) (wMd g a_md q_md_tangle q_md_read o_md ++ []) r_ := by
  refine start2 (y := yX13_trouble) (cc := cX13_trouble) (n := 1) (av := [.ref (a_md 0)]) (ws := (wMd g a_md q_md_tangle q_md_read md ++ [])) (Qc := fun sz => QI g (wMd g a_md q_md_tangle q_md_read md ++ []) (wMd g a_md q_md_tangle q_md_read o_md ++ []) r_ sz) (by decide) rfl ?_
  intro p e s m args below meth c ls Q A ha hQ hA X hl hI hin
  have X : Cx p s m args meth c cX13_trouble 1 RX13 (some .int) := X
  have hl : lv_has ls 1 [(0, .ref (a_md 0))] := hl
  obtain ⟨hx, hb, hml, hown, ht, hr, hlk⟩ := id X
  clear ha hin
  unfold f_X13_trouble at hf
  refine lv_aload_n hx hb dX13_trouble_0 rfl (lv_at hl 0 rfl) ?_
  refine lv_iconst (v := 0) hx hb dX13_trouble_1 (by decide) ?_
  refine p_Md_thrown X hI up_Md_thrown.l (X.fl w_1583) dX13_trouble_2 (fun H locs hI => ?_)
  generalize hz_ : (Md_thrown' md (0 : Int32)) = md_1 at hI hf
  clear hz_
  replace hf := lt_e hf
  refine lv_aload_n hx hb dX13_trouble_5 rfl (lv_at hl 0 rfl) ?_
  refine g_Md_trouble X hI has_Md.l (X.fl w_1584) dX13_trouble_6 ?_
  cases hf
  exact end_i hQ hA X hI dX13_trouble_9
