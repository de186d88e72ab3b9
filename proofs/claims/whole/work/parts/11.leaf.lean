abbrev rm_X4_passAt : Room := { frames := 0, cells := 0, slots := 0, locals := 0 }
set_option maxRecDepth 20000 in
theorem c_X4_passAt (l : Launch) (g : GT) (p0 : Int64) (p2 : Int32) (r_ : Int32) (hf : f_X4_passAt p0 p2 = some (r_)) : CI l yX4_passAt cX4_passAt 3 (some .int) rm_X4_passAt g [.long p0, .int p2] ([]) ([]) r_ := by
  refine start2 (y := yX4_passAt) (cc := cX4_passAt) (n := 3) (av := [.long p0, .int p2]) (ws := ([])) (Qc := fun sz => QI g ([]) ([]) r_ sz) (by decide) rfl ?_
  intro p e s m args below meth c ls Q A ha hQ hA X hl hI hin
  have X : Cx p s m args meth c cX4_passAt 3 RX4 (some .int) := X
  have hl : lv_has ls 3 [(0, .long p0), (2, .int p2)] := hl
  obtain ⟨hx, hb, hml, hown, ht, hr, hlk⟩ := id X
  clear ha hin
  unfold f_X4_passAt at hf
  refine lv_lload_n hx hb dX4_passAt_0 rfl (lv_at hl 0 rfl) ?_
  refine lv_iconst (v := 4) hx hb dX4_passAt_1 (by decide) ?_
  refine lv_iload_n hx hb dX4_passAt_2 rfl (lv_at hl 1 rfl) ?_
  refine lv_imul hx hb dX4_passAt_3 ?_
  refine lv_lushr hx hb dX4_passAt_4 rfl ?_
  refine lv_ldc2 (v := 15) hx hb hown (ht _ w_955) dX4_passAt_5 ?_
  refine lv_land hx hb dX4_passAt_8 ?_
  refine lv_l2i hx hb dX4_passAt_9 rfl ?_
  refine lv_iconst (v := 1) hx hb dX4_passAt_10 (by decide) ?_
  refine lv_isub hx hb dX4_passAt_11 ?_
  cases hf
  exact end_i hQ hA X hI dX4_passAt_12
abbrev rm_X1_isCrowd : Room := { frames := 0, cells := 0, slots := 0, locals := 0 }
set_option maxRecDepth 20000 in
theorem c_X1_isCrowd (l : Launch) (g : GT) (p0 : Int32) (r_ : Int32) (hf : f_X1_isCrowd p0 = some (r_)) : CI l yX1_isCrowd cX1_isCrowd 1 (some .boolean) rm_X1_isCrowd g [.int p0] ([]) ([]) r_ := by
  refine start2 (y := yX1_isCrowd) (cc := cX1_isCrowd) (n := 1) (av := [.int p0]) (ws := ([])) (Qc := fun sz => QI g ([]) ([]) r_ sz) (by decide) rfl ?_
  intro p e s m args below meth c ls Q A ha hQ hA X hl hI hin
  have X : Cx p s m args meth c cX1_isCrowd 1 RX1 (some .boolean) := X
  have hl : lv_has ls 1 [(0, .int p0)] := hl
  obtain ⟨hx, hb, hml, hown, ht, hr, hlk⟩ := id X
  clear ha hin
  unfold f_X1_isCrowd at hf
  refine lv_iload_n hx hb dX1_isCrowd_0 rfl (lv_at hl 0 rfl) ?_
  refine lv_iconst (v := 2) hx hb dX1_isCrowd_1 (by decide) ?_
  refine lv_icmp_lt (tgt := 15) hx hb dX1_isCrowd_2 (by decide) (fun h_ => ?_) (fun h_ => ?_)
  · replace hf := if_t h_ hf
    refine lv_iconst (v := 0) hx hb dX1_isCrowd_15 (by decide) ?_
    cases hf
    exact end_z hQ hA X hI rfl dX1_isCrowd_16
  · replace hf := if_f h_ hf
    refine lv_iload_n hx hb dX1_isCrowd_5 rfl (lv_at hl 0 rfl) ?_
    refine lv_bipush (v := 13) hx hb dX1_isCrowd_6 (by decide) ?_
    refine lv_icmp_gt (tgt := 15) hx hb dX1_isCrowd_8 (by decide) (fun h_ => ?_) (fun h_ => ?_)
    · replace hf := if_t h_ hf
      refine lv_iconst (v := 0) hx hb dX1_isCrowd_15 (by decide) ?_
      cases hf
      exact end_z hQ hA X hI rfl dX1_isCrowd_16
    · replace hf := if_f h_ hf
      refine lv_iconst (v := 1) hx hb dX1_isCrowd_11 (by decide) ?_
      refine lv_goto (tgt := 16) hx hb dX1_isCrowd_12 (by decide) ?_
      cases hf
      exact end_z hQ hA X hI rfl dX1_isCrowd_16
abbrev rm_X1_isRingCount : Room := { frames := 0, cells := 0, slots := 0, locals := 0 }
set_option maxRecDepth 20000 in
theorem c_X1_isRingCount (l : Launch) (g : GT) (p0 : Int32) (r_ : Int32) (hf : f_X1_isRingCount p0 = some (r_)) : CI l yX1_isRingCount cX1_isRingCount 1 (some .boolean) rm_X1_isRingCount g [.int p0] ([]) ([]) r_ := by
  refine start2 (y := yX1_isRingCount) (cc := cX1_isRingCount) (n := 1) (av := [.int p0]) (ws := ([])) (Qc := fun sz => QI g ([]) ([]) r_ sz) (by decide) rfl ?_
  intro p e s m args below meth c ls Q A ha hQ hA X hl hI hin
  have X : Cx p s m args meth c cX1_isRingCount 1 RX1 (some .boolean) := X
  have hl : lv_has ls 1 [(0, .int p0)] := hl
  obtain ⟨hx, hb, hml, hown, ht, hr, hlk⟩ := id X
  clear ha hin
  unfold f_X1_isRingCount at hf
  refine lv_iload_n hx hb dX1_isRingCount_0 rfl (lv_at hl 0 rfl) ?_
  refine lv_if_lt (tgt := 14) hx hb dX1_isRingCount_1 (by decide) (fun h_ => ?_) (fun h_ => ?_)
  · replace hf := if_t h_ hf
    refine lv_iconst (v := 0) hx hb dX1_isRingCount_14 (by decide) ?_
    cases hf
    exact end_z hQ hA X hI rfl dX1_isRingCount_15
  · replace hf := if_f h_ hf
    refine lv_iload_n hx hb dX1_isRingCount_4 rfl (lv_at hl 0 rfl) ?_
    refine lv_bipush (v := 13) hx hb dX1_isRingCount_5 (by decide) ?_
    refine lv_icmp_gt (tgt := 14) hx hb dX1_isRingCount_7 (by decide) (fun h_ => ?_) (fun h_ => ?_)
    · replace hf := if_t h_ hf
      refine lv_iconst (v := 0) hx hb dX1_isRingCount_14 (by decide) ?_
      cases hf
      exact end_z hQ hA X hI rfl dX1_isRingCount_15
    · replace hf := if_f h_ hf
      refine lv_iconst (v := 1) hx hb dX1_isRingCount_10 (by decide) ?_
      refine lv_goto (tgt := 15) hx hb dX1_isRingCount_11 (by decide) ?_
      cases hf
      exact end_z hQ hA X hI rfl dX1_isRingCount_15
abbrev rm_X1_waysByFirstRing : Room := { frames := 0, cells := 0, slots := 0, locals := 0 }
set_option maxRecDepth 20000 in
theorem c_X1_waysByFirstRing (l : Launch) (g : GT) (a_ra : Nat → Nat) (ra : Nat → Int64) (p1 : Int32) (p2 : Int32) (p3 : Int32) (r_ : Int64) (hf : f_X1_waysByFirstRing ra p1 p2 p3 = some (r_)) : CL l yX1_waysByFirstRing cX1_waysByFirstRing 9 (some .long) rm_X1_waysByFirstRing g [.ref (a_ra 0), .int p1, .int p2, .int p3] ([(a_ra 0, .inl (g.2 1, 196, .inr (.inl ra)))] ++ []) ([(a_ra 0, .inl (g.2 1, 196, .inr (.inl ra)))] ++ []) r_ := by
  refine start2 (y := yX1_waysByFirstRing) (cc := cX1_waysByFirstRing) (n := 9) (av := [.ref (a_ra 0), .int p1, .int p2, .int p3]) (ws := ([(a_ra 0, .inl (g.2 1, 196, .inr (.inl ra)))] ++ [])) (Qc := fun sz => QL g ([(a_ra 0, .inl (g.2 1, 196, .inr (.inl ra)))] ++ []) ([(a_ra 0, .inl (g.2 1, 196, .inr (.inl ra)))] ++ []) r_ sz) (by decide) rfl ?_
  intro p e s m args below meth c ls Q A ha hQ hA X hl hI hin
  have X : Cx p s m args meth c cX1_waysByFirstRing 9 RX1 (some .long) := X
  have hl : lv_has ls 9 [(0, .ref (a_ra 0)), (1, .int p1), (2, .int p2), (3, .int p3)] := hl
  obtain ⟨hx, hb, hml, hown, ht, hr, hlk⟩ := id X
  clear ha hin
  have L_42 : ∀ (x1 : Int32) (x2 : Int32) (x3 : Int32) (x4 : Int64) (x6 : Int64) (x8 : Int32) (k9 : (Int32) → (Int32) → (Int32) → (Int64) → (Int64) → (Int32) → (Nat → Int64) → Option (Int64)) (H : Heap) (locs : List Loc) (ls : Array Slot), lv_has ls 9 [(0, .ref (a_ra 0)), (1, .int x1), (2, .int x2), (3, .int x3), (4, .long x4), (6, .long x6), (8, .int x8)] → In g A s.heap s ([(a_ra 0, .inl (g.2 1, 196, .inr (.inl ra)))] ++ []) H locs → f_X1_waysByFirstRing_L42 x1 x2 x3 x4 x6 x8 ra k9 = some (r_) → (∀ (x1 : Int32) (x2 : Int32) (x3 : Int32) (x4 : Int64) (x6 : Int64) (x8 : Int32) (H : Heap) (locs : List Loc) (ls : Array Slot), lv_has ls 9 [(0, .ref (a_ra 0)), (1, .int x1), (2, .int x2), (3, .int x3), (4, .long x4), (6, .long x6), (8, .int x8)] → In g A s.heap s ([(a_ra 0, .inl (g.2 1, 196, .inr (.inl ra)))] ++ []) H locs → k9 x1 x2 x3 x4 x6 x8 ra = some (r_) → W p l e rm_X1_waysByFirstRing s m args below meth c H locs 0 0 Q (F0 m 9 ls [])) → W p l e rm_X1_waysByFirstRing s m args below meth c H locs 0 0 Q (F0 m 42 ls []) := by
    intro x1 x2 x3 x4 x6 x8 k9 H locs ls hl hI hf hk9
    unfold f_X1_waysByFirstRing_L42 at hf
    refine lv_lload hx hb dX1_waysByFirstRing_42 (lv_at hl 5 rfl) ?_
    refine lv_ldc2 (v := 2) hx hb hown (ht _ w_1398) dX1_waysByFirstRing_44 ?_
    refine lv_iload_n hx hb dX1_waysByFirstRing_47 rfl (lv_at hl 2 rfl) ?_
    refine lv_iload hx hb dX1_waysByFirstRing_48 (lv_at hl 6 rfl) ?_
    refine lv_isub hx hb dX1_waysByFirstRing_50 ?_
    refine lv_i2l hx hb dX1_waysByFirstRing_51 rfl ?_
    refine lv_lmul hx hb dX1_waysByFirstRing_52 ?_
    refine lv_lmul hx hb dX1_waysByFirstRing_53 ?_
    refine lv_topl (fun v_2 e_ => ?_)
    replace hf := lt_to e_ hf
    clear e_
    refine lv_lstore (lv' := [(6, .long v_2), (0, .ref (a_ra 0)), (1, .int x1), (2, .int x2), (3, .int x3), (4, .long x4), (8, .int x8)]) hx hb dX1_waysByFirstRing_54 hl (by decide) rfl (fun ls hl => ?_)
    obtain ⟨v_3, e_⟩ : ∃ y : Int32, y = (x8 + (1 : Int32)) := ⟨_, rfl⟩
    replace hf := lt_to e_ hf
    refine lv_iinc (v := v_3) (lv' := [(8, .int v_3), (6, .long v_2), (0, .ref (a_ra 0)), (1, .int x1), (2, .int x2), (3, .int x3), (4, .long x4)]) hx hb dX1_waysByFirstRing_56 hl (k := 6) rfl (by rw [e_]; rfl) (by decide) rfl (fun ls hl => ?_)
    clear e_
    refine lv_goto (tgt := 9) hx hb dX1_waysByFirstRing_59 (by decide) ?_
    exact hk9 x1 x2 x3 x4 v_2 v_3 _ _ _ (lv_sub hl [2, 3, 4, 5, 6, 1, 0] rfl) hI hf
  have L_9 : ∀ (n_ : Nat) (x1 : Int32) (x2 : Int32) (x3 : Int32) (x4 : Int64) (x6 : Int64) (x8 : Int32) (H : Heap) (locs : List Loc) (ls : Array Slot), lv_has ls 9 [(0, .ref (a_ra 0)), (1, .int x1), (2, .int x2), (3, .int x3), (4, .long x4), (6, .long x6), (8, .int x8)] → In g A s.heap s ([(a_ra 0, .inl (g.2 1, 196, .inr (.inl ra)))] ++ []) H locs → f_X1_waysByFirstRing_L9 n_ x1 x2 x3 x4 x6 x8 ra = some (r_) → W p l e rm_X1_waysByFirstRing s m args below meth c H locs 0 0 Q (F0 m 9 ls []) := by
    intro n_
    induction n_ with
    | zero =>
      intro x1 x2 x3 x4 x6 x8 H locs ls hl hI hf
      rw [f_X1_waysByFirstRing_L9] at hf
      cases hf
    | succ n_ ih =>
      intro x1 x2 x3 x4 x6 x8 H locs ls hl hI hf
      rw [f_X1_waysByFirstRing_L9] at hf
      refine lv_iload hx hb dX1_waysByFirstRing_9 (lv_at hl 6 rfl) ?_
      refine lv_iload_n hx hb dX1_waysByFirstRing_11 rfl (lv_at hl 2 rfl) ?_
      refine lv_icmp_gt (tgt := 62) hx hb dX1_waysByFirstRing_12 (by decide) (fun h_ => ?_) (fun h_ => ?_)
      · replace hf := if_t h_ hf
        refine lv_lload hx hb dX1_waysByFirstRing_62 (lv_at hl 4 rfl) ?_
        cases hf
        exact end_l hQ hA X hI dX1_waysByFirstRing_64
      · replace hf := if_f h_ hf
        refine lv_iload hx hb dX1_waysByFirstRing_15 (lv_at hl 6 rfl) ?_
        refine lv_iload_n hx hb dX1_waysByFirstRing_17 rfl (lv_at hl 1 rfl) ?_
        refine lv_icmp_lt (tgt := 42) hx hb dX1_waysByFirstRing_18 (by decide) (fun h_ => ?_) (fun h_ => ?_)
        · replace hf := if_t h_ hf
          exact L_42 x1 x2 x3 x4 x6 x8 _ _ _ _ hl hI hf (fun z_0 z_1 z_2 z_3 z_4 z_5 _ _ _ hl hI hf => ih z_0 z_1 z_2 z_3 z_4 z_5 _ _ _ hl hI hf)
        · replace hf := if_f h_ hf
          refine lv_lload hx hb dX1_waysByFirstRing_21 (lv_at hl 4 rfl) ?_
          refine lv_lload hx hb dX1_waysByFirstRing_23 (lv_at hl 5 rfl) ?_
          refine lv_aload_n hx hb dX1_waysByFirstRing_25 rfl (lv_at hl 0 rfl) ?_
          refine lv_bipush (v := 14) hx hb dX1_waysByFirstRing_26 (by decide) ?_
          refine lv_iload_n hx hb dX1_waysByFirstRing_28 rfl (lv_at hl 2 rfl) ?_
          refine lv_iload hx hb dX1_waysByFirstRing_29 (lv_at hl 6 rfl) ?_
          refine lv_isub hx hb dX1_waysByFirstRing_31 ?_
          refine lv_imul hx hb dX1_waysByFirstRing_32 ?_
          refine lv_iload_n hx hb dX1_waysByFirstRing_33 rfl (lv_at hl 3 rfl) ?_
          refine lv_iadd hx hb dX1_waysByFirstRing_34 ?_
          refine lv_iconst (v := 1) hx hb dX1_waysByFirstRing_35 (by decide) ?_
          refine lv_isub hx hb dX1_waysByFirstRing_36 ?_
          obtain ⟨h_, hf⟩ := ck_someM hf
          refine ld_J X hI (show Has _ _ from ⟨0, rfl⟩).l h_ dX1_waysByFirstRing_37 ?_
          refine lv_lmul hx hb dX1_waysByFirstRing_38 ?_
          refine lv_ladd hx hb dX1_waysByFirstRing_39 ?_
          refine lv_topl (fun v_1 e_ => ?_)
          replace hf := lt_to e_ hf
          clear e_
          refine lv_lstore (lv' := [(4, .long v_1), (0, .ref (a_ra 0)), (1, .int x1), (2, .int x2), (3, .int x3), (6, .long x6), (8, .int x8)]) hx hb dX1_waysByFirstRing_40 hl (by decide) rfl (fun ls hl => ?_)
          exact L_42 x1 x2 x3 v_1 x6 x8 _ _ _ _ (lv_sub hl [1, 2, 3, 4, 0, 5, 6] rfl) hI hf (fun z_0 z_1 z_2 z_3 z_4 z_5 _ _ _ hl hI hf => ih z_0 z_1 z_2 z_3 z_4 z_5 _ _ _ hl hI hf)
  unfold f_X1_waysByFirstRing at hf
  refine lv_lconst (v := 0) hx hb dX1_waysByFirstRing_0 (by decide) ?_
  refine lv_lstore (lv' := [(4, .long (0 : Int64)), (0, .ref (a_ra 0)), (1, .int p1), (2, .int p2), (3, .int p3)]) hx hb dX1_waysByFirstRing_1 hl (by decide) rfl (fun ls hl => ?_)
  refine lv_lconst (v := 1) hx hb dX1_waysByFirstRing_3 (by decide) ?_
  refine lv_lstore (lv' := [(6, .long (1 : Int64)), (4, .long (0 : Int64)), (0, .ref (a_ra 0)), (1, .int p1), (2, .int p2), (3, .int p3)]) hx hb dX1_waysByFirstRing_4 hl (by decide) rfl (fun ls hl => ?_)
  refine lv_iconst (v := 1) hx hb dX1_waysByFirstRing_6 (by decide) ?_
  refine lv_istore (lv' := [(8, .int (1 : Int32)), (6, .long (1 : Int64)), (4, .long (0 : Int64)), (0, .ref (a_ra 0)), (1, .int p1), (2, .int p2), (3, .int p3)]) hx hb dX1_waysByFirstRing_7 hl (by decide) rfl (fun ls hl => ?_)
  exact L_9 FU p1 p2 p3 (0 : Int64) (1 : Int64) (1 : Int32) _ _ _ (lv_sub hl [3, 4, 5, 6, 2, 1, 0] rfl) hI hf
abbrev rm_X1_fill : Room := { frames := 1, cells := 0, slots := 0, locals := 28 }
set_option maxRecDepth 20000 in
theorem c_X1_fill (l : Launch) (g : GT) (a_ra : Nat → Nat) (ra : Nat → Int64) (p1 : Int32) (o_ra : Nat → Int64) (hf : f_X1_fill ra p1 = some (o_ra)) : CV l yX1_fill cX1_fill 4 none rm_X1_fill g [.ref (a_ra 0), .int p1] ([(a_ra 0, .inl (g.2 1, 196, .inr (.inl ra)))] ++ []) ([(a_ra 0, .inl (g.2 1, 196, .inr (.inl o_ra)))] ++ []) := by
  refine start2 (y := yX1_fill) (cc := cX1_fill) (n := 4) (av := [.ref (a_ra 0), .int p1]) (ws := ([(a_ra 0, .inl (g.2 1, 196, .inr (.inl ra)))] ++ [])) (Qc := fun sz => QV g ([(a_ra 0, .inl (g.2 1, 196, .inr (.inl ra)))] ++ []) ([(a_ra 0, .inl (g.2 1, 196, .inr (.inl o_ra)))] ++ []) sz) (by decide) rfl ?_
  intro p e s m args below meth c ls Q A ha hQ hA X hl hI hin
  have X : Cx p s m args meth c cX1_fill 4 RX1 none := X
  have hl : lv_has ls 4 [(0, .ref (a_ra 0)), (1, .int p1)] := hl
  obtain ⟨hx, hb, hml, hown, ht, hr, hlk⟩ := id X
  clear ha hin
  have L_14 : ∀ (n_ : Nat) (x1 : Int32) (x2 : Int32) (x3 : Int32) (ra : Nat → Int64) (k6 : (Int32) → (Int32) → (Nat → Int64) → Option ((Nat → Int64))) (H : Heap) (locs : List Loc) (ls : Array Slot), lv_has ls 4 [(0, .ref (a_ra 0)), (1, .int x1), (2, .int x2), (3, .int x3)] → In g A s.heap s ([(a_ra 0, .inl (g.2 1, 196, .inr (.inl ra)))] ++ []) H locs → f_X1_fill_L14 n_ x1 x2 x3 ra k6 = some (o_ra) → (∀ (x1 : Int32) (x2 : Int32) (ra : Nat → Int64) (H : Heap) (locs : List Loc) (ls : Array Slot), lv_has ls 4 [(0, .ref (a_ra 0)), (1, .int x1), (2, .int x2)] → In g A s.heap s ([(a_ra 0, .inl (g.2 1, 196, .inr (.inl ra)))] ++ []) H locs → k6 x1 x2 ra = some (o_ra) → W p l e rm_X1_fill s m args below meth c H locs 0 0 Q (F0 m 6 ls [])) → W p l e rm_X1_fill s m args below meth c H locs 0 0 Q (F0 m 14 ls []) := by
    intro n_
    induction n_ with
    | zero =>
      intro x1 x2 x3 ra k6 H locs ls hl hI hf hk6
      rw [f_X1_fill_L14] at hf
      cases hf
    | succ n_ ih =>
      intro x1 x2 x3 ra k6 H locs ls hl hI hf hk6
      rw [f_X1_fill_L14] at hf
      refine lv_iload_n hx hb dX1_fill_14 rfl (lv_at hl 3 rfl) ?_
      refine lv_iload_n hx hb dX1_fill_15 rfl (lv_at hl 2 rfl) ?_
      refine lv_icmp_gt (tgt := 40) hx hb dX1_fill_16 (by decide) (fun h_ => ?_) (fun h_ => ?_)
      · replace hf := if_t h_ hf
        obtain ⟨v_2, e_⟩ : ∃ y : Int32, y = (x2 + (1 : Int32)) := ⟨_, rfl⟩
        replace hf := lt_to e_ hf
        refine lv_iinc (v := v_2) (lv' := [(2, .int v_2), (0, .ref (a_ra 0)), (1, .int x1), (3, .int x3)]) hx hb dX1_fill_40 hl (k := 2) rfl (by rw [e_]; rfl) (by decide) rfl (fun ls hl => ?_)
        clear e_
        refine lv_goto (tgt := 6) hx hb dX1_fill_43 (by decide) ?_
        exact hk6 x1 v_2 ra _ _ _ (lv_sub hl [1, 2, 0] rfl) hI hf
      · replace hf := if_f h_ hf
        refine lv_aload_n hx hb dX1_fill_19 rfl (lv_at hl 0 rfl) ?_
        refine lv_bipush (v := 14) hx hb dX1_fill_20 (by decide) ?_
        refine lv_iload_n hx hb dX1_fill_22 rfl (lv_at hl 2 rfl) ?_
        refine lv_imul hx hb dX1_fill_23 ?_
        refine lv_iload_n hx hb dX1_fill_24 rfl (lv_at hl 3 rfl) ?_
        refine lv_iadd hx hb dX1_fill_25 ?_
        refine lv_aload_n hx hb dX1_fill_26 rfl (lv_at hl 0 rfl) ?_
        refine lv_iload_n hx hb dX1_fill_27 rfl (lv_at hl 1 rfl) ?_
        refine lv_iload_n hx hb dX1_fill_28 rfl (lv_at hl 2 rfl) ?_
        refine lv_iload_n hx hb dX1_fill_29 rfl (lv_at hl 3 rfl) ?_
        obtain ⟨r_3, hc_, hf⟩ := bd1_some hf
        refine call_Sl X hI (Cj.keep Cj.id) (c_X1_waysByFirstRing l g a_ra (ra) x1 x2 x3 r_3 hc_) ⟨rfl, rfl⟩ ⟨ht _ w_1395, w_1397, ht _ w_154, lk_X1_waysByFirstRing⟩ w_1396 rfl hl rfl rfl dX1_fill_30 rfl rfl rfl rfl (fun H locs hI => ?_)
        obtain ⟨h_, hf⟩ := ck_someM hf
        refine st_J X hI (show Ups _ [(a_ra 0, .inl (g.2 1, 196, .inr (.inl (vp_updL (ra) (Int32.toNatClampNeg (((14 : Int32) * x2) + x3)) r_3))))] _ _ from ⟨0, rfl, rfl⟩).l h_ dX1_fill_33 (fun H locs hI => ?_)
        generalize hz_ : (vp_updL (ra) (Int32.toNatClampNeg (((14 : Int32) * x2) + x3)) r_3) = ra_4 at hI hf
        clear hz_
        replace hf := lt_e hf
        obtain ⟨v_5, e_⟩ : ∃ y : Int32, y = (x3 + (1 : Int32)) := ⟨_, rfl⟩
        replace hf := lt_to e_ hf
        refine lv_iinc (v := v_5) (lv' := [(3, .int v_5), (0, .ref (a_ra 0)), (1, .int x1), (2, .int x2)]) hx hb dX1_fill_34 hl (k := 3) rfl (by rw [e_]; rfl) (by decide) rfl (fun ls hl => ?_)
        clear e_
        refine lv_goto (tgt := 14) hx hb dX1_fill_37 (by decide) ?_
        exact ih x1 x2 v_5 ra_4 k6 _ _ _ (lv_sub hl [1, 2, 3, 0] rfl) hI hf hk6
  have L_6 : ∀ (n_ : Nat) (x1 : Int32) (x2 : Int32) (ra : Nat → Int64) (H : Heap) (locs : List Loc) (ls : Array Slot), lv_has ls 4 [(0, .ref (a_ra 0)), (1, .int x1), (2, .int x2)] → In g A s.heap s ([(a_ra 0, .inl (g.2 1, 196, .inr (.inl ra)))] ++ []) H locs → f_X1_fill_L6 n_ x1 x2 ra = some (o_ra) → W p l e rm_X1_fill s m args below meth c H locs 0 0 Q (F0 m 6 ls []) := by
    intro n_
    induction n_ with
    | zero =>
      intro x1 x2 ra H locs ls hl hI hf
      rw [f_X1_fill_L6] at hf
      cases hf
    | succ n_ ih =>
      intro x1 x2 ra H locs ls hl hI hf
      rw [f_X1_fill_L6] at hf
      refine lv_iload_n hx hb dX1_fill_6 rfl (lv_at hl 2 rfl) ?_
      refine lv_bipush (v := 13) hx hb dX1_fill_7 (by decide) ?_
      refine lv_icmp_gt (tgt := 46) hx hb dX1_fill_9 (by decide) (fun h_ => ?_) (fun h_ => ?_)
      · replace hf := if_t h_ hf
        cases hf
        exact end_v hQ hA X hI dX1_fill_46
      · replace hf := if_f h_ hf
        refine lv_iconst (v := 1) hx hb dX1_fill_12 (by decide) ?_
        refine lv_istore_n (lv' := [(3, .int (1 : Int32)), (0, .ref (a_ra 0)), (1, .int x1), (2, .int x2)]) hx hb dX1_fill_13 rfl hl (by decide) rfl (fun ls hl => ?_)
        exact L_14 FU x1 x2 (1 : Int32) ra _ _ _ _ (lv_sub hl [1, 2, 3, 0] rfl) hI hf (fun z_0 z_1 z_2 _ _ _ hl hI hf => ih z_0 z_1 z_2 _ _ _ hl hI hf)
  unfold f_X1_fill at hf
  refine lv_aload_n hx hb dX1_fill_0 rfl (lv_at hl 0 rfl) ?_
  refine lv_iconst (v := 0) hx hb dX1_fill_1 (by decide) ?_
  refine lv_lconst (v := 1) hx hb dX1_fill_2 (by decide) ?_
  obtain ⟨h_, hf⟩ := ck_someM hf
  refine st_J X hI (show Ups _ [(a_ra 0, .inl (g.2 1, 196, .inr (.inl (vp_updL (ra) (Int32.toNatClampNeg (0 : Int32)) (1 : Int64)))))] _ _ from ⟨0, rfl, rfl⟩).l h_ dX1_fill_3 (fun H locs hI => ?_)
  generalize hz_ : (vp_updL (ra) (Int32.toNatClampNeg (0 : Int32)) (1 : Int64)) = ra_1 at hI hf
  clear hz_
  replace hf := lt_e hf
  refine lv_iconst (v := 1) hx hb dX1_fill_4 (by decide) ?_
  refine lv_istore_n (lv' := [(2, .int (1 : Int32)), (0, .ref (a_ra 0)), (1, .int p1)]) hx hb dX1_fill_5 rfl hl (by decide) rfl (fun ls hl => ?_)
  exact L_6 FU p1 (1 : Int32) ra_1 _ _ _ (lv_sub hl [1, 2, 0] rfl) hI hf
abbrev rm_X1_waysInto : Room := { frames := 2, cells := 0, slots := 0, locals := 51 }
set_option maxRecDepth 20000 in
theorem c_X1_waysInto (l : Launch) (g : GT) (a_ch : Nat → Nat) (ch : ChS) (p1 : Int32) (p2 : Int32) (p3 : Int32) (r_ : Int64) (o_ch : ChS) (hf : f_X1_waysInto ch p1 p2 p3 = some (r_, o_ch)) : CL l yX1_waysInto cX1_waysInto 4 (some .long) rm_X1_waysInto g [.ref (a_ch 0), .int p1, .int p2, .int p3] (wCh g a_ch ch ++ []) (wCh g a_ch o_ch ++ []) r_ := by
  refine start2 (y := yX1_waysInto) (cc := cX1_waysInto) (n := 4) (av := [.ref (a_ch 0), .int p1, .int p2, .int p3]) (ws := (wCh g a_ch ch ++ [])) (Qc := fun sz => QL g (wCh g a_ch ch ++ []) (wCh g a_ch o_ch ++ []) r_ sz) (by decide) rfl ?_
  intro p e s m args below meth c ls Q A ha hQ hA X hl hI hin
  have X : Cx p s m args meth c cX1_waysInto 4 RX1 (some .long) := X
  have hl : lv_has ls 4 [(0, .ref (a_ch 0)), (1, .int p1), (2, .int p2), (3, .int p3)] := hl
  obtain ⟨hx, hb, hml, hown, ht, hr, hlk⟩ := id X
  clear ha hin
  have L_28 : ∀ (x1 : Int32) (x2 : Int32) (x3 : Int32) (ch : ChS) (H : Heap) (locs : List Loc) (ls : Array Slot), lv_has ls 4 [(0, .ref (a_ch 0)), (1, .int x1), (2, .int x2), (3, .int x3)] → In g A s.heap s (wCh g a_ch ch ++ []) H locs → f_X1_waysInto_L28 x1 x2 x3 ch = some (r_, o_ch) → W p l e rm_X1_waysInto s m args below meth c H locs 0 0 Q (F0 m 28 ls []) := by
    intro x1 x2 x3 ch H locs ls hl hI hf
    unfold f_X1_waysInto_L28 at hf
    refine lv_iload_n hx hb dX1_waysInto_28 rfl (lv_at hl 1 rfl) ?_
    refine lv_if_lt (tgt := 45) hx hb dX1_waysInto_29 (by decide) (fun h_ => ?_) (fun h_ => ?_)
    · replace hf := if_t h_ hf
      refine lv_lconst (v := 0) hx hb dX1_waysInto_45 (by decide) ?_
      cases hf
      exact end_l hQ hA X hI dX1_waysInto_46
    · replace hf := if_f h_ hf
      refine lv_iload_n hx hb dX1_waysInto_32 rfl (lv_at hl 1 rfl) ?_
      refine lv_bipush (v := 13) hx hb dX1_waysInto_33 (by decide) ?_
      refine lv_icmp_gt (tgt := 45) hx hb dX1_waysInto_35 (by decide) (fun h_ => ?_) (fun h_ => ?_)
      · replace hf := if_t h_ hf
        refine lv_lconst (v := 0) hx hb dX1_waysInto_45 (by decide) ?_
        cases hf
        exact end_l hQ hA X hI dX1_waysInto_46
      · replace hf := if_f h_ hf
        refine lv_iload_n hx hb dX1_waysInto_38 rfl (lv_at hl 2 rfl) ?_
        obtain ⟨r_6, hc_, hf⟩ := bd1_some hf
        refine call_Si X hI Cj.nil (c_X1_isRingCount l g x2 r_6 hc_) ⟨rfl, rfl⟩ ⟨ht _ w_1399, w_1387, ht _ w_154, lk_X1_isRingCount⟩ w_1386 rfl hl rfl rfl dX1_waysInto_39 rfl rfl rfl rfl (fun H locs hI => ?_)
        refine lv_if_ne (tgt := 47) hx hb dX1_waysInto_42 (by decide) (fun h_ => ?_) (fun h_ => ?_)
        · replace hf := if_f h_ hf
          refine lv_iload_n hx hb dX1_waysInto_47 rfl (lv_at hl 3 rfl) ?_
          refine lv_if_eq (tgt := 65) hx hb dX1_waysInto_48 (by decide) (fun h_ => ?_) (fun h_ => ?_)
          · replace hf := if_t h_ hf
            refine lv_aload_n hx hb dX1_waysInto_65 rfl (lv_at hl 0 rfl) ?_
            refine g_Ch_often X hI has_Ch.l (X.fl w_666) dX1_waysInto_66 ?_
            refine lv_bipush (v := 14) hx hb dX1_waysInto_69 (by decide) ?_
            refine lv_iload_n hx hb dX1_waysInto_71 rfl (lv_at hl 1 rfl) ?_
            refine lv_imul hx hb dX1_waysInto_72 ?_
            refine lv_iload_n hx hb dX1_waysInto_73 rfl (lv_at hl 2 rfl) ?_
            refine lv_iadd hx hb dX1_waysInto_74 ?_
            obtain ⟨h_, hf⟩ := ck_someM hf
            refine ld_J X hI has_Ch_often.l h_ dX1_waysInto_75 ?_
            cases hf
            exact end_l hQ hA X hI dX1_waysInto_76
          · replace hf := if_f h_ hf
            refine lv_aload_n hx hb dX1_waysInto_51 rfl (lv_at hl 0 rfl) ?_
            refine g_Ch_onlyOnce X hI has_Ch.l (X.fl w_667) dX1_waysInto_52 ?_
            refine lv_bipush (v := 14) hx hb dX1_waysInto_55 (by decide) ?_
            refine lv_iload_n hx hb dX1_waysInto_57 rfl (lv_at hl 1 rfl) ?_
            refine lv_imul hx hb dX1_waysInto_58 ?_
            refine lv_iload_n hx hb dX1_waysInto_59 rfl (lv_at hl 2 rfl) ?_
            refine lv_iadd hx hb dX1_waysInto_60 ?_
            obtain ⟨h_, hf⟩ := ck_someM hf
            refine ld_J X hI has_Ch_onlyOnce.l h_ dX1_waysInto_61 ?_
            refine lv_goto (tgt := 76) hx hb dX1_waysInto_62 (by decide) ?_
            cases hf
            exact end_l hQ hA X hI dX1_waysInto_76
        · replace hf := if_t h_ hf
          refine lv_lconst (v := 0) hx hb dX1_waysInto_45 (by decide) ?_
          cases hf
          exact end_l hQ hA X hI dX1_waysInto_46
  unfold f_X1_waysInto at hf
  refine lv_aload_n hx hb dX1_waysInto_0 rfl (lv_at hl 0 rfl) ?_
  refine g_Ch_filled X hI has_Ch.l (X.fl w_668) dX1_waysInto_1 ?_
  refine lv_if_ne (tgt := 28) hx hb dX1_waysInto_4 (by decide) (fun h_ => ?_) (fun h_ => ?_)
  · replace hf := if_f h_ hf
    exact L_28 p1 p2 p3 ch _ _ _ hl hI hf
  · replace hf := if_t h_ hf
    refine lv_aload_n hx hb dX1_waysInto_7 rfl (lv_at hl 0 rfl) ?_
    refine g_Ch_often X hI has_Ch.l (X.fl w_666) dX1_waysInto_8 ?_
    refine lv_iconst (v := 2) hx hb dX1_waysInto_11 (by decide) ?_
    obtain ⟨ra_1, hc_, hf⟩ := bd1_some hf
    refine call_Sv X hI (Cj.up up_Ch_often.l) (c_X1_fill l g (fun _ => (a_ch 1)) (Ch_often ch) (2 : Int32) ra_1 hc_) ⟨rfl, rfl⟩ ⟨ht _ w_1392, w_1394, ht _ w_154, lk_X1_fill⟩ w_1393 rfl hl rfl rfl dX1_waysInto_12 rfl rfl rfl rfl (fun H locs hI => ?_)
    generalize hz_ : (Ch_often' ch ra_1) = ch_2 at hI hf
    clear hz_
    replace hf := lt_e hf
    refine lv_aload_n hx hb dX1_waysInto_15 rfl (lv_at hl 0 rfl) ?_
    refine g_Ch_onlyOnce X hI has_Ch.l (X.fl w_667) dX1_waysInto_16 ?_
    refine lv_iconst (v := 3) hx hb dX1_waysInto_19 (by decide) ?_
    obtain ⟨ra_3, hc_, hf⟩ := bd1_some hf
    refine call_Sv X hI (Cj.up up_Ch_onlyOnce.l) (c_X1_fill l g (fun _ => (a_ch 2)) (Ch_onlyOnce ch_2) (3 : Int32) ra_3 hc_) ⟨rfl, rfl⟩ ⟨ht _ w_1392, w_1394, ht _ w_154, lk_X1_fill⟩ w_1393 rfl hl rfl rfl dX1_waysInto_20 rfl rfl rfl rfl (fun H locs hI => ?_)
    generalize hz_ : (Ch_onlyOnce' ch_2 ra_3) = ch_4 at hI hf
    clear hz_
    replace hf := lt_e hf
    refine lv_aload_n hx hb dX1_waysInto_23 rfl (lv_at hl 0 rfl) ?_
    refine lv_iconst (v := 1) hx hb dX1_waysInto_24 (by decide) ?_
    refine p_Ch_filled X hI up_Ch_filled.l (X.fl w_668) (by decide) dX1_waysInto_25 (fun H locs hI => ?_)
    generalize hz_ : (Ch_filled' ch_4 (1 : Int32)) = ch_5 at hI hf
    clear hz_
    replace hf := lt_e hf
    exact L_28 p1 p2 p3 ch_5 _ _ _ hl hI hf
abbrev rm_X1_allWays : Room := { frames := 3, cells := 0, slots := 0, locals := 74 }
set_option maxRecDepth 20000 in
theorem c_X1_allWays (l : Launch) (g : GT) (a_ch : Nat → Nat) (ch : ChS) (p1 : Int32) (p2 : Int32) (r_ : Int64) (o_ch : ChS) (hf : f_X1_allWays ch p1 p2 = some (r_, o_ch)) : CL l yX1_allWays cX1_allWays 6 (some .long) rm_X1_allWays g [.ref (a_ch 0), .int p1, .int p2] (wCh g a_ch ch ++ []) (wCh g a_ch o_ch ++ []) r_ := by
  refine start2 (y := yX1_allWays) (cc := cX1_allWays) (n := 6) (av := [.ref (a_ch 0), .int p1, .int p2]) (ws := (wCh g a_ch ch ++ [])) (Qc := fun sz => QL g (wCh g a_ch ch ++ []) (wCh g a_ch o_ch ++ []) r_ sz) (by decide) rfl ?_
  intro p e s m args below meth c ls Q A ha hQ hA X hl hI hin
  have X : Cx p s m args meth c cX1_allWays 6 RX1 (some .long) := X
  have hl : lv_has ls 6 [(0, .ref (a_ch 0)), (1, .int p1), (2, .int p2)] := hl
  obtain ⟨hx, hb, hml, hown, ht, hr, hlk⟩ := id X
  clear ha hin
  have L_5 : ∀ (n_ : Nat) (x1 : Int32) (x2 : Int32) (x3 : Int64) (x5 : Int32) (ch : ChS) (H : Heap) (locs : List Loc) (ls : Array Slot), lv_has ls 6 [(0, .ref (a_ch 0)), (1, .int x1), (2, .int x2), (3, .long x3), (5, .int x5)] → In g A s.heap s (wCh g a_ch ch ++ []) H locs → f_X1_allWays_L5 n_ x1 x2 x3 x5 ch = some (r_, o_ch) → W p l e rm_X1_allWays s m args below meth c H locs 0 0 Q (F0 m 5 ls []) := by
    intro n_
    induction n_ with
    | zero =>
      intro x1 x2 x3 x5 ch H locs ls hl hI hf
      rw [f_X1_allWays_L5] at hf
      cases hf
    | succ n_ ih =>
      intro x1 x2 x3 x5 ch H locs ls hl hI hf
      rw [f_X1_allWays_L5] at hf
      refine lv_iload hx hb dX1_allWays_5 (lv_at hl 4 rfl) ?_
      refine lv_bipush (v := 13) hx hb dX1_allWays_7 (by decide) ?_
      refine lv_icmp_gt (tgt := 29) hx hb dX1_allWays_9 (by decide) (fun h_ => ?_) (fun h_ => ?_)
      · replace hf := if_t h_ hf
        refine lv_lload_n hx hb dX1_allWays_29 rfl (lv_at hl 3 rfl) ?_
        cases hf
        exact end_l hQ hA X hI dX1_allWays_30
      · replace hf := if_f h_ hf
        refine lv_lload_n hx hb dX1_allWays_12 rfl (lv_at hl 3 rfl) ?_
        refine lv_aload_n hx hb dX1_allWays_13 rfl (lv_at hl 0 rfl) ?_
        refine lv_iload_n hx hb dX1_allWays_14 rfl (lv_at hl 1 rfl) ?_
        refine lv_iload hx hb dX1_allWays_15 (lv_at hl 4 rfl) ?_
        refine lv_iload_n hx hb dX1_allWays_17 rfl (lv_at hl 2 rfl) ?_
        obtain ⟨r_1, ch_2, hc_, hf⟩ := bd2_some hf
        refine call_Vl X hI (Cj.keep Cj.id) (c_X1_waysInto l g a_ch ch x1 x5 x2 r_1 ch_2 hc_) ⟨rfl, rfl⟩ ⟨ht _ w_1408, w_1391, ht _ w_154, lk_X1_waysInto⟩ w_1389 w_1390 rfl rfl rfl hl rfl rfl dX1_allWays_18 rfl rfl rfl rfl (fun H locs hI => ?_)
        refine lv_ladd hx hb dX1_allWays_21 ?_
        refine lv_topl (fun v_3 e_ => ?_)
        replace hf := lt_to e_ hf
        clear e_
        refine lv_lstore_n (lv' := [(3, .long v_3), (0, .ref (a_ch 0)), (1, .int x1), (2, .int x2), (5, .int x5)]) hx hb dX1_allWays_22 rfl hl (by decide) rfl (fun ls hl => ?_)
        obtain ⟨v_4, e_⟩ : ∃ y : Int32, y = (x5 + (1 : Int32)) := ⟨_, rfl⟩
        replace hf := lt_to e_ hf
        refine lv_iinc (v := v_4) (lv' := [(5, .int v_4), (3, .long v_3), (0, .ref (a_ch 0)), (1, .int x1), (2, .int x2)]) hx hb dX1_allWays_23 hl (k := 4) rfl (by rw [e_]; rfl) (by decide) rfl (fun ls hl => ?_)
        clear e_
        refine lv_goto (tgt := 5) hx hb dX1_allWays_26 (by decide) ?_
        exact ih x1 x2 v_3 v_4 ch_2 _ _ _ (lv_sub hl [2, 3, 4, 1, 0] rfl) hI hf
  unfold f_X1_allWays at hf
  refine lv_lconst (v := 0) hx hb dX1_allWays_0 (by decide) ?_
  refine lv_lstore_n (lv' := [(3, .long (0 : Int64)), (0, .ref (a_ch 0)), (1, .int p1), (2, .int p2)]) hx hb dX1_allWays_1 rfl hl (by decide) rfl (fun ls hl => ?_)
  refine lv_iconst (v := 0) hx hb dX1_allWays_2 (by decide) ?_
  refine lv_istore (lv' := [(5, .int (0 : Int32)), (3, .long (0 : Int64)), (0, .ref (a_ch 0)), (1, .int p1), (2, .int p2)]) hx hb dX1_allWays_3 hl (by decide) rfl (fun ls hl => ?_)
  exact L_5 FU p1 p2 (0 : Int64) (0 : Int32) ch _ _ _ (lv_sub hl [2, 3, 4, 1, 0] rfl) hI hf
abbrev rm_X1_allRings : Room := { frames := 3, cells := 0, slots := 0, locals := 74 }
set_option maxRecDepth 20000 in
theorem c_X1_allRings (l : Launch) (g : GT) (a_ch : Nat → Nat) (ch : ChS) (p1 : Int32) (p2 : Int32) (r_ : Int64) (o_ch : ChS) (hf : f_X1_allRings ch p1 p2 = some (r_, o_ch)) : CL l yX1_allRings cX1_allRings 6 (some .long) rm_X1_allRings g [.ref (a_ch 0), .int p1, .int p2] (wCh g a_ch ch ++ []) (wCh g a_ch o_ch ++ []) r_ := by
  refine start2 (y := yX1_allRings) (cc := cX1_allRings) (n := 6) (av := [.ref (a_ch 0), .int p1, .int p2]) (ws := (wCh g a_ch ch ++ [])) (Qc := fun sz => QL g (wCh g a_ch ch ++ []) (wCh g a_ch o_ch ++ []) r_ sz) (by decide) rfl ?_
  intro p e s m args below meth c ls Q A ha hQ hA X hl hI hin
  have X : Cx p s m args meth c cX1_allRings 6 RX1 (some .long) := X
  have hl : lv_has ls 6 [(0, .ref (a_ch 0)), (1, .int p1), (2, .int p2)] := hl
  obtain ⟨hx, hb, hml, hown, ht, hr, hlk⟩ := id X
  clear ha hin
  have L_5 : ∀ (n_ : Nat) (x1 : Int32) (x2 : Int32) (x3 : Int64) (x5 : Int32) (ch : ChS) (H : Heap) (locs : List Loc) (ls : Array Slot), lv_has ls 6 [(0, .ref (a_ch 0)), (1, .int x1), (2, .int x2), (3, .long x3), (5, .int x5)] → In g A s.heap s (wCh g a_ch ch ++ []) H locs → f_X1_allRings_L5 n_ x1 x2 x3 x5 ch = some (r_, o_ch) → W p l e rm_X1_allRings s m args below meth c H locs 0 0 Q (F0 m 5 ls []) := by
    intro n_
    induction n_ with
    | zero =>
      intro x1 x2 x3 x5 ch H locs ls hl hI hf
      rw [f_X1_allRings_L5] at hf
      cases hf
    | succ n_ ih =>
      intro x1 x2 x3 x5 ch H locs ls hl hI hf
      rw [f_X1_allRings_L5] at hf
      refine lv_iload hx hb dX1_allRings_5 (lv_at hl 4 rfl) ?_
      refine lv_bipush (v := 13) hx hb dX1_allRings_7 (by decide) ?_
      refine lv_icmp_gt (tgt := 33) hx hb dX1_allRings_9 (by decide) (fun h_ => ?_) (fun h_ => ?_)
      · replace hf := if_t h_ hf
        refine lv_lload_n hx hb dX1_allRings_33 rfl (lv_at hl 3 rfl) ?_
        cases hf
        exact end_l hQ hA X hI dX1_allRings_34
      · replace hf := if_f h_ hf
        refine lv_lload_n hx hb dX1_allRings_12 rfl (lv_at hl 3 rfl) ?_
        refine lv_iload hx hb dX1_allRings_13 (lv_at hl 4 rfl) ?_
        refine lv_i2l hx hb dX1_allRings_15 rfl ?_
        refine lv_aload_n hx hb dX1_allRings_16 rfl (lv_at hl 0 rfl) ?_
        refine lv_iload_n hx hb dX1_allRings_17 rfl (lv_at hl 1 rfl) ?_
        refine lv_iload hx hb dX1_allRings_18 (lv_at hl 4 rfl) ?_
        refine lv_iload_n hx hb dX1_allRings_20 rfl (lv_at hl 2 rfl) ?_
        obtain ⟨r_1, ch_2, hc_, hf⟩ := bd2_some hf
        refine call_Vl X hI (Cj.keep Cj.id) (c_X1_waysInto l g a_ch ch x1 x5 x2 r_1 ch_2 hc_) ⟨rfl, rfl⟩ ⟨ht _ w_1408, w_1391, ht _ w_154, lk_X1_waysInto⟩ w_1389 w_1390 rfl rfl rfl hl rfl rfl dX1_allRings_21 rfl rfl rfl rfl (fun H locs hI => ?_)
        refine lv_lmul hx hb dX1_allRings_24 ?_
        refine lv_ladd hx hb dX1_allRings_25 ?_
        refine lv_topl (fun v_3 e_ => ?_)
        replace hf := lt_to e_ hf
        clear e_
        refine lv_lstore_n (lv' := [(3, .long v_3), (0, .ref (a_ch 0)), (1, .int x1), (2, .int x2), (5, .int x5)]) hx hb dX1_allRings_26 rfl hl (by decide) rfl (fun ls hl => ?_)
        obtain ⟨v_4, e_⟩ : ∃ y : Int32, y = (x5 + (1 : Int32)) := ⟨_, rfl⟩
        replace hf := lt_to e_ hf
        refine lv_iinc (v := v_4) (lv' := [(5, .int v_4), (3, .long v_3), (0, .ref (a_ch 0)), (1, .int x1), (2, .int x2)]) hx hb dX1_allRings_27 hl (k := 4) rfl (by rw [e_]; rfl) (by decide) rfl (fun ls hl => ?_)
        clear e_
        refine lv_goto (tgt := 5) hx hb dX1_allRings_30 (by decide) ?_
        exact ih x1 x2 v_3 v_4 ch_2 _ _ _ (lv_sub hl [2, 3, 4, 1, 0] rfl) hI hf
  unfold f_X1_allRings at hf
  refine lv_lconst (v := 0) hx hb dX1_allRings_0 (by decide) ?_
  refine lv_lstore_n (lv' := [(3, .long (0 : Int64)), (0, .ref (a_ch 0)), (1, .int p1), (2, .int p2)]) hx hb dX1_allRings_1 rfl hl (by decide) rfl (fun ls hl => ?_)
  refine lv_iconst (v := 0) hx hb dX1_allRings_2 (by decide) ?_
  refine lv_istore (lv' := [(5, .int (0 : Int32)), (3, .long (0 : Int64)), (0, .ref (a_ch 0)), (1, .int p1), (2, .int p2)]) hx hb dX1_allRings_3 hl (by decide) rfl (fun ls hl => ?_)
  exact L_5 FU p1 p2 (0 : Int64) (0 : Int32) ch _ _ _ (lv_sub hl [2, 3, 4, 1, 0] rfl) hI hf
abbrev rm_X1_commonDivisor : Room := { frames := 0, cells := 0, slots := 0, locals := 0 }
set_option maxRecDepth 20000 in
theorem c_X1_commonDivisor (l : Launch) (g : GT) (p0 : Int64) (p2 : Int64) (r_ : Int64) (hf : f_X1_commonDivisor p0 p2 = some (r_)) : CL l yX1_commonDivisor cX1_commonDivisor 11 (some .long) rm_X1_commonDivisor g [.long p0, .long p2] ([]) ([]) r_ := by
  refine start2 (y := yX1_commonDivisor) (cc := cX1_commonDivisor) (n := 11) (av := [.long p0, .long p2]) (ws := ([])) (Qc := fun sz => QL g ([]) ([]) r_ sz) (by decide) rfl ?_
  intro p e s m args below meth c ls Q A ha hQ hA X hl hI hin
  have X : Cx p s m args meth c cX1_commonDivisor 11 RX1 (some .long) := X
  have hl : lv_has ls 11 [(0, .long p0), (2, .long p2)] := hl
  obtain ⟨hx, hb, hml, hown, ht, hr, hlk⟩ := id X
  clear ha hin
  have L_9 : ∀ (n_ : Nat) (x4 : Int64) (x6 : Int64) (x8 : Int32) (H : Heap) (locs : List Loc) (ls : Array Slot), lv_has ls 11 [(4, .long x4), (6, .long x6), (8, .int x8)] → In g A s.heap s ([]) H locs → f_X1_commonDivisor_L9 n_ x4 x6 x8 = some (r_) → W p l e rm_X1_commonDivisor s m args below meth c H locs 0 0 Q (F0 m 9 ls []) := by
    intro n_
    induction n_ with
    | zero =>
      intro x4 x6 x8 H locs ls hl hI hf
      rw [f_X1_commonDivisor_L9] at hf
      cases hf
    | succ n_ ih =>
      intro x4 x6 x8 H locs ls hl hI hf
      rw [f_X1_commonDivisor_L9] at hf
      refine lv_lload hx hb dX1_commonDivisor_9 (lv_at hl 1 rfl) ?_
      refine lv_lconst (v := 0) hx hb dX1_commonDivisor_11 (by decide) ?_
      refine W.lcmp hx hb dX1_commonDivisor_12 ?_
      refine lv_if_eq (tgt := 45) hx hb dX1_commonDivisor_13 (by decide) (fun h_ => ?_) (fun h_ => ?_)
      · replace hf := if_t h_ hf
        refine lv_lload hx hb dX1_commonDivisor_45 (lv_at hl 0 rfl) ?_
        cases hf
        exact end_l hQ hA X hI dX1_commonDivisor_47
      · replace hf := if_f h_ hf
        refine lv_iload hx hb dX1_commonDivisor_16 (lv_at hl 2 rfl) ?_
        refine lv_sipush (v := 200) hx hb dX1_commonDivisor_18 (by decide) ?_
        refine lv_icmp_ge (tgt := 45) hx hb dX1_commonDivisor_21 (by decide) (fun h_ => ?_) (fun h_ => ?_)
        · replace hf := if_t h_ hf
          refine lv_lload hx hb dX1_commonDivisor_45 (lv_at hl 0 rfl) ?_
          cases hf
          exact end_l hQ hA X hI dX1_commonDivisor_47
        · replace hf := if_f h_ hf
          refine lv_lload hx hb dX1_commonDivisor_24 (lv_at hl 0 rfl) ?_
          refine lv_lload hx hb dX1_commonDivisor_26 (lv_at hl 1 rfl) ?_
          obtain ⟨h_, hf⟩ := nzl_some hf
          refine lv_lrem hx hb dX1_commonDivisor_28 h_ ?_
          refine lv_topl (fun v_1 e_ => ?_)
          replace hf := lt_to e_ hf
          clear e_
          refine lv_lstore (lv' := [(9, .long v_1), (4, .long x4), (6, .long x6), (8, .int x8)]) hx hb dX1_commonDivisor_29 hl (by decide) rfl (fun ls hl => ?_)
          refine lv_lload hx hb dX1_commonDivisor_31 (lv_at hl 2 rfl) ?_
          refine lv_lstore (lv' := [(4, .long x6), (9, .long v_1), (6, .long x6), (8, .int x8)]) hx hb dX1_commonDivisor_33 hl (by decide) rfl (fun ls hl => ?_)
          refine lv_lload hx hb dX1_commonDivisor_35 (lv_at hl 1 rfl) ?_
          refine lv_lstore (lv' := [(6, .long v_1), (4, .long x6), (9, .long v_1), (8, .int x8)]) hx hb dX1_commonDivisor_37 hl (by decide) rfl (fun ls hl => ?_)
          obtain ⟨v_2, e_⟩ : ∃ y : Int32, y = (x8 + (1 : Int32)) := ⟨_, rfl⟩
          replace hf := lt_to e_ hf
          refine lv_iinc (v := v_2) (lv' := [(8, .int v_2), (6, .long v_1), (4, .long x6), (9, .long v_1)]) hx hb dX1_commonDivisor_39 hl (k := 3) rfl (by rw [e_]; rfl) (by decide) rfl (fun ls hl => ?_)
          clear e_
          refine lv_goto (tgt := 9) hx hb dX1_commonDivisor_42 (by decide) ?_
          exact ih x6 v_1 v_2 _ _ _ (lv_sub hl [2, 1, 0] rfl) hI hf
  unfold f_X1_commonDivisor at hf
  refine lv_lload_n hx hb dX1_commonDivisor_0 rfl (lv_at hl 0 rfl) ?_
  refine lv_lstore (lv' := [(4, .long p0), (0, .long p0), (2, .long p2)]) hx hb dX1_commonDivisor_1 hl (by decide) rfl (fun ls hl => ?_)
  refine lv_lload_n hx hb dX1_commonDivisor_3 rfl (lv_at hl 2 rfl) ?_
  refine lv_lstore (lv' := [(6, .long p2), (4, .long p0), (0, .long p0), (2, .long p2)]) hx hb dX1_commonDivisor_4 hl (by decide) rfl (fun ls hl => ?_)
  refine lv_iconst (v := 0) hx hb dX1_commonDivisor_6 (by decide) ?_
  refine lv_istore (lv' := [(8, .int (0 : Int32)), (6, .long p2), (4, .long p0), (0, .long p0), (2, .long p2)]) hx hb dX1_commonDivisor_7 hl (by decide) rfl (fun ls hl => ?_)
  exact L_9 FU p0 p2 (0 : Int32) _ _ _ (lv_sub hl [2, 1, 0] rfl) hI hf
abbrev rm_X1_inLowestTerms : Room := { frames := 1, cells := 0, slots := 0, locals := 30 }
set_option maxRecDepth 20000 in
theorem c_X1_inLowestTerms (l : Launch) (g : GT) (p0 : Int64) (p2 : Int64) (p4 : Int32) (r_ : Int64) (hf : f_X1_inLowestTerms p0 p2 p4 = some (r_)) : CL l yX1_inLowestTerms cX1_inLowestTerms 9 (some .long) rm_X1_inLowestTerms g [.long p0, .long p2, .int p4] ([]) ([]) r_ := by
  refine start2 (y := yX1_inLowestTerms) (cc := cX1_inLowestTerms) (n := 9) (av := [.long p0, .long p2, .int p4]) (ws := ([])) (Qc := fun sz => QL g ([]) ([]) r_ sz) (by decide) rfl ?_
  intro p e s m args below meth c ls Q A ha hQ hA X hl hI hin
  have X : Cx p s m args meth c cX1_inLowestTerms 9 RX1 (some .long) := X
  have hl : lv_has ls 9 [(0, .long p0), (2, .long p2), (4, .int p4)] := hl
  obtain ⟨hx, hb, hml, hown, ht, hr, hlk⟩ := id X
  clear ha hin
  have L_17 : ∀ (x5 : Int64) (t0j : Int64) (H : Heap) (locs : List Loc) (ls : Array Slot), lv_has ls 9 [(5, .long x5)] → In g A s.heap s ([]) H locs → f_X1_inLowestTerms_L17 x5 t0j = some (r_) → W p l e rm_X1_inLowestTerms s m args below meth c H locs 0 0 Q (F0 m 17 ls [.long t0j]) := by
    intro x5 t0j H locs ls hl hI hf
    unfold f_X1_inLowestTerms_L17 at hf
    refine lv_lstore (lv' := [(7, .long t0j), (5, .long x5)]) hx hb dX1_inLowestTerms_17 hl (by decide) rfl (fun ls hl => ?_)
    refine lv_lload hx hb dX1_inLowestTerms_19 (lv_at hl 1 rfl) ?_
    refine lv_lconst (v := 0) hx hb dX1_inLowestTerms_21 (by decide) ?_
    refine W.lcmp hx hb dX1_inLowestTerms_22 ?_
    refine lv_if_ne (tgt := 31) hx hb dX1_inLowestTerms_23 (by decide) (fun h_ => ?_) (fun h_ => ?_)
    · replace hf := if_f h_ hf
      refine lv_lload hx hb dX1_inLowestTerms_31 (lv_at hl 0 rfl) ?_
      refine lv_lload hx hb dX1_inLowestTerms_33 (lv_at hl 1 rfl) ?_
      obtain ⟨h_, hf⟩ := nzl_some hf
      refine lv_ldiv hx hb dX1_inLowestTerms_35 h_ ?_
      cases hf
      exact end_l hQ hA X hI dX1_inLowestTerms_36
    · replace hf := if_t h_ hf
      refine lv_lload hx hb dX1_inLowestTerms_26 (lv_at hl 0 rfl) ?_
      refine lv_goto (tgt := 36) hx hb dX1_inLowestTerms_28 (by decide) ?_
      cases hf
      exact end_l hQ hA X hI dX1_inLowestTerms_36
  unfold f_X1_inLowestTerms at hf
  refine lv_lload_n hx hb dX1_inLowestTerms_0 rfl (lv_at hl 0 rfl) ?_
  refine lv_lload_n hx hb dX1_inLowestTerms_1 rfl (lv_at hl 1 rfl) ?_
  obtain ⟨r_1, hc_, hf⟩ := bd1_some hf
  refine call_Sl X hI Cj.nil (c_X1_commonDivisor l g p0 p2 r_1 hc_) ⟨rfl, rfl⟩ ⟨ht _ w_1412, w_1414, ht _ w_154, lk_X1_commonDivisor⟩ w_1413 rfl hl rfl rfl dX1_inLowestTerms_2 rfl rfl rfl rfl (fun H locs hI => ?_)
  refine lv_lstore (lv' := [(5, .long r_1), (0, .long p0), (2, .long p2), (4, .int p4)]) hx hb dX1_inLowestTerms_5 hl (by decide) rfl (fun ls hl => ?_)
  refine lv_iload hx hb dX1_inLowestTerms_7 (lv_at hl 3 rfl) ?_
  refine lv_if_eq (tgt := 16) hx hb dX1_inLowestTerms_9 (by decide) (fun h_ => ?_) (fun h_ => ?_)
  · replace hf := if_t h_ hf
    refine lv_lload_n hx hb dX1_inLowestTerms_16 rfl (lv_at hl 1 rfl) ?_
    exact L_17 r_1 p0 _ _ _ (lv_sub hl [0] rfl) hI hf
  · replace hf := if_f h_ hf
    refine lv_lload_n hx hb dX1_inLowestTerms_12 rfl (lv_at hl 2 rfl) ?_
    refine lv_goto (tgt := 17) hx hb dX1_inLowestTerms_13 (by decide) ?_
    exact L_17 r_1 p2 _ _ _ (lv_sub hl [0] rfl) hI hf
abbrev rm_X4_become : Room := { frames := 0, cells := 0, slots := 0, locals := 0 }
set_option maxRecDepth 20000 in
theorem c_X4_become (l : Launch) (g : GT) (a_mo : Nat → Nat) (a_om : Nat → Nat) (mo : MoS) (om : MoS) (o_mo : MoS) (hf : f_X4_become mo om = some (o_mo)) : CV l yX4_become cX4_become 2 none rm_X4_become g [.ref (a_mo 0), .ref (a_om 0)] (wMo g a_mo mo ++ (wMo g a_om om ++ [])) (wMo g a_mo o_mo ++ (wMo g a_om om ++ [])) := by
  refine start2 (y := yX4_become) (cc := cX4_become) (n := 2) (av := [.ref (a_mo 0), .ref (a_om 0)]) (ws := (wMo g a_mo mo ++ (wMo g a_om om ++ []))) (Qc := fun sz => QV g (wMo g a_mo mo ++ (wMo g a_om om ++ [])) (wMo g a_mo o_mo ++ (wMo g a_om om ++ [])) sz) (by decide) rfl ?_
  intro p e s m args below meth c ls Q A ha hQ hA X hl hI hin
  have X : Cx p s m args meth c cX4_become 2 RX4 none := X
  have hl : lv_has ls 2 [(0, .ref (a_mo 0)), (1, .ref (a_om 0))] := hl
  obtain ⟨hx, hb, hml, hown, ht, hr, hlk⟩ := id X
  clear ha hin
  unfold f_X4_become at hf
  refine lv_aload_n hx hb dX4_become_0 rfl (lv_at hl 0 rfl) ?_
  refine lv_aload_n hx hb dX4_become_1 rfl (lv_at hl 1 rfl) ?_
  refine g_Mo_key X hI has_Mo.l.r (X.fl w_480) dX4_become_2 ?_
  refine p_Mo_key X hI up_Mo_key.l (X.fl w_480) dX4_become_5 (fun H locs hI => ?_)
  generalize hz_ : (Mo_key' mo (Mo_key om)) = mo_1 at hI hf
  clear hz_
  replace hf := lt_e hf
  refine lv_aload_n hx hb dX4_become_8 rfl (lv_at hl 0 rfl) ?_
  refine lv_aload_n hx hb dX4_become_9 rfl (lv_at hl 1 rfl) ?_
  refine g_Mo_plus X hI has_Mo.l.r (X.fl w_484) dX4_become_10 ?_
  refine p_Mo_plus X hI up_Mo_plus.l (X.fl w_484) dX4_become_13 (fun H locs hI => ?_)
  generalize hz_ : (Mo_plus' mo_1 (Mo_plus om)) = mo_2 at hI hf
  clear hz_
  replace hf := lt_e hf
  refine lv_aload_n hx hb dX4_become_16 rfl (lv_at hl 0 rfl) ?_
  refine lv_aload_n hx hb dX4_become_17 rfl (lv_at hl 1 rfl) ?_
  refine g_Mo_parted X hI has_Mo.l.r (X.fl w_488) dX4_become_18 ?_
  refine p_Mo_parted X hI up_Mo_parted.l (X.fl w_488) dX4_become_21 (fun H locs hI => ?_)
  generalize hz_ : (Mo_parted' mo_2 (Mo_parted om)) = mo_3 at hI hf
  clear hz_
  replace hf := lt_e hf
  refine lv_aload_n hx hb dX4_become_24 rfl (lv_at hl 0 rfl) ?_
  refine lv_aload_n hx hb dX4_become_25 rfl (lv_at hl 1 rfl) ?_
  refine g_Mo_seed X hI has_Mo.l.r (X.fl w_493) dX4_become_26 ?_
  refine p_Mo_seed X hI up_Mo_seed.l (X.fl w_493) dX4_become_29 (fun H locs hI => ?_)
  generalize hz_ : (Mo_seed' mo_3 (Mo_seed om)) = mo_4 at hI hf
  clear hz_
  replace hf := lt_e hf
  cases hf
  exact end_v hQ hA X hI dX4_become_32
abbrev rm_X4_begin : Room := { frames := 0, cells := 0, slots := 0, locals := 0 }
set_option maxRecDepth 20000 in
theorem c_X4_begin (l : Launch) (g : GT) (a_mo : Nat → Nat) (mo : MoS) (p1 : Int64) (p3 : Int32) (o_mo : MoS) (hf : f_X4_begin mo p1 p3 = some (o_mo)) : CV l yX4_begin cX4_begin 4 none rm_X4_begin g [.ref (a_mo 0), .long p1, .int p3] (wMo g a_mo mo ++ []) (wMo g a_mo o_mo ++ []) := by
  refine start2 (y := yX4_begin) (cc := cX4_begin) (n := 4) (av := [.ref (a_mo 0), .long p1, .int p3]) (ws := (wMo g a_mo mo ++ [])) (Qc := fun sz => QV g (wMo g a_mo mo ++ []) (wMo g a_mo o_mo ++ []) sz) (by decide) rfl ?_
  intro p e s m args below meth c ls Q A ha hQ hA X hl hI hin
  have X : Cx p s m args meth c cX4_begin 4 RX4 none := X
  have hl : lv_has ls 4 [(0, .ref (a_mo 0)), (1, .long p1), (3, .int p3)] := hl
  obtain ⟨hx, hb, hml, hown, ht, hr, hlk⟩ := id X
  clear ha hin
  unfold f_X4_begin at hf
  refine lv_aload_n hx hb dX4_begin_0 rfl (lv_at hl 0 rfl) ?_
  refine lv_lload_n hx hb dX4_begin_1 rfl (lv_at hl 1 rfl) ?_
  refine p_Mo_key X hI up_Mo_key.l (X.fl w_480) dX4_begin_2 (fun H locs hI => ?_)
  generalize hz_ : (Mo_key' mo p1) = mo_1 at hI hf
  clear hz_
  replace hf := lt_e hf
  refine lv_aload_n hx hb dX4_begin_5 rfl (lv_at hl 0 rfl) ?_
  refine lv_iload_n hx hb dX4_begin_6 rfl (lv_at hl 2 rfl) ?_
  refine p_Mo_plus X hI up_Mo_plus.l (X.fl w_484) dX4_begin_7 (fun H locs hI => ?_)
  generalize hz_ : (Mo_plus' mo_1 p3) = mo_2 at hI hf
  clear hz_
  replace hf := lt_e hf
  refine lv_aload_n hx hb dX4_begin_10 rfl (lv_at hl 0 rfl) ?_
  refine lv_bipush (v := (-2)) hx hb dX4_begin_11 (by decide) ?_
  refine p_Mo_parted X hI up_Mo_parted.l (X.fl w_488) dX4_begin_13 (fun H locs hI => ?_)
  generalize hz_ : (Mo_parted' mo_2 (-2 : Int32)) = mo_3 at hI hf
  clear hz_
  replace hf := lt_e hf
  refine lv_aload_n hx hb dX4_begin_16 rfl (lv_at hl 0 rfl) ?_
  refine lv_iconst (v := 0) hx hb dX4_begin_17 (by decide) ?_
  refine p_Mo_seed X hI up_Mo_seed.l (X.fl w_493) dX4_begin_18 (fun H locs hI => ?_)
  generalize hz_ : (Mo_seed' mo_3 (0 : Int32)) = mo_4 at hI hf
  clear hz_
  replace hf := lt_e hf
  cases hf
  exact end_v hQ hA X hI dX4_begin_21
abbrev rm_X4_seedBehind : Room := { frames := 0, cells := 0, slots := 0, locals := 0 }
set_option maxRecDepth 20000 in
theorem c_X4_seedBehind (l : Launch) (g : GT) (p0 : Int32) (r_ : Int32) (hf : f_X4_seedBehind p0 = some (r_)) : CI l yX4_seedBehind cX4_seedBehind 1 (some .int) rm_X4_seedBehind g [.int p0] ([]) ([]) r_ := by
  refine start2 (y := yX4_seedBehind) (cc := cX4_seedBehind) (n := 1) (av := [.int p0]) (ws := ([])) (Qc := fun sz => QI g ([]) ([]) r_ sz) (by decide) rfl ?_
  intro p e s m args below meth c ls Q A ha hQ hA X hl hI hin
  have X : Cx p s m args meth c cX4_seedBehind 1 RX4 (some .int) := X
  have hl : lv_has ls 1 [(0, .int p0)] := hl
  obtain ⟨hx, hb, hml, hown, ht, hr, hlk⟩ := id X
  clear ha hin
  unfold f_X4_seedBehind at hf
  refine lv_bipush (v := 75) hx hb dX4_seedBehind_0 (by decide) ?_
  refine lv_iload_n hx hb dX4_seedBehind_2 rfl (lv_at hl 0 rfl) ?_
  refine lv_imul hx hb dX4_seedBehind_3 ?_
  refine lv_bipush (v := 74) hx hb dX4_seedBehind_4 (by decide) ?_
  refine lv_iadd hx hb dX4_seedBehind_6 ?_
  refine lv_ldc (v := 65537) hx hb hown (ht _ w_1373) dX4_seedBehind_7 ?_
  refine lv_irem hx hb dX4_seedBehind_9 (by decide) ?_
  cases hf
  exact end_i hQ hA X hI dX4_seedBehind_10
abbrev rm_X4_letGo : Room := { frames := 1, cells := 0, slots := 0, locals := 22 }
set_option maxRecDepth 20000 in
theorem c_X4_letGo (l : Launch) (g : GT) (a_mo : Nat → Nat) (a_ri : Nat → Nat) (mo : MoS) (ri : RiS) (p2 : Int32) (o_mo : MoS) (hf : f_X4_letGo mo ri p2 = some (o_mo)) : CV l yX4_letGo cX4_letGo 6 none rm_X4_letGo g [.ref (a_mo 0), .ref (a_ri 0), .int p2] (wMo g a_mo mo ++ (wRi g a_ri ri ++ [])) (wMo g a_mo o_mo ++ (wRi g a_ri ri ++ [])) := by
  refine start2 (y := yX4_letGo) (cc := cX4_letGo) (n := 6) (av := [.ref (a_mo 0), .ref (a_ri 0), .int p2]) (ws := (wMo g a_mo mo ++ (wRi g a_ri ri ++ []))) (Qc := fun sz => QV g (wMo g a_mo mo ++ (wRi g a_ri ri ++ [])) (wMo g a_mo o_mo ++ (wRi g a_ri ri ++ [])) sz) (by decide) rfl ?_
  intro p e s m args below meth c ls Q A ha hQ hA X hl hI hin
  have X : Cx p s m args meth c cX4_letGo 6 RX4 none := X
  have hl : lv_has ls 6 [(0, .ref (a_mo 0)), (1, .ref (a_ri 0)), (2, .int p2)] := hl
  obtain ⟨hx, hb, hml, hown, ht, hr, hlk⟩ := id X
  clear ha hin
  have L_51 : ∀ (x2 : Int32) (x3 : Int32) (x4 : Int32) (mo : MoS) (k5 : (Int32) → (Int32) → (Int32) → (MoS) → (RiS) → Option ((MoS))) (H : Heap) (locs : List Loc) (ls : Array Slot), lv_has ls 6 [(0, .ref (a_mo 0)), (1, .ref (a_ri 0)), (2, .int x2), (3, .int x3), (4, .int x4)] → In g A s.heap s (wMo g a_mo mo ++ (wRi g a_ri ri ++ [])) H locs → f_X4_letGo_L51 x2 x3 x4 mo ri k5 = some (o_mo) → (∀ (x2 : Int32) (x3 : Int32) (x4 : Int32) (mo : MoS) (H : Heap) (locs : List Loc) (ls : Array Slot), lv_has ls 6 [(0, .ref (a_mo 0)), (1, .ref (a_ri 0)), (2, .int x2), (3, .int x3), (4, .int x4)] → In g A s.heap s (wMo g a_mo mo ++ (wRi g a_ri ri ++ [])) H locs → k5 x2 x3 x4 mo ri = some (o_mo) → W p l e rm_X4_letGo s m args below meth c H locs 0 0 Q (F0 m 5 ls [])) → W p l e rm_X4_letGo s m args below meth c H locs 0 0 Q (F0 m 51 ls []) := by
    intro x2 x3 x4 mo k5 H locs ls hl hI hf hk5
    unfold f_X4_letGo_L51 at hf
    obtain ⟨v_6, e_⟩ : ∃ y : Int32, y = (x4 + (1 : Int32)) := ⟨_, rfl⟩
    replace hf := lt_to e_ hf
    refine lv_iinc (v := v_6) (lv' := [(4, .int v_6), (0, .ref (a_mo 0)), (1, .ref (a_ri 0)), (2, .int x2), (3, .int x3)]) hx hb dX4_letGo_51 hl (k := 4) rfl (by rw [e_]; rfl) (by decide) rfl (fun ls hl => ?_)
    clear e_
    refine lv_goto (tgt := 5) hx hb dX4_letGo_54 (by decide) ?_
    exact hk5 x2 x3 v_6 mo _ _ _ (lv_sub hl [1, 2, 3, 4, 0] rfl) hI hf
  have L_118 : ∀ (x2 : Int32) (x3 : Int32) (x4 : Int32) (mo : MoS) (k60 : (Int32) → (Int32) → (Int32) → (MoS) → (RiS) → Option ((MoS))) (H : Heap) (locs : List Loc) (ls : Array Slot), lv_has ls 6 [(0, .ref (a_mo 0)), (1, .ref (a_ri 0)), (2, .int x2), (3, .int x3), (4, .int x4)] → In g A s.heap s (wMo g a_mo mo ++ (wRi g a_ri ri ++ [])) H locs → f_X4_letGo_L118 x2 x3 x4 mo ri k60 = some (o_mo) → (∀ (x2 : Int32) (x3 : Int32) (x4 : Int32) (mo : MoS) (H : Heap) (locs : List Loc) (ls : Array Slot), lv_has ls 6 [(0, .ref (a_mo 0)), (1, .ref (a_ri 0)), (2, .int x2), (3, .int x3), (4, .int x4)] → In g A s.heap s (wMo g a_mo mo ++ (wRi g a_ri ri ++ [])) H locs → k60 x2 x3 x4 mo ri = some (o_mo) → W p l e rm_X4_letGo s m args below meth c H locs 0 0 Q (F0 m 60 ls [])) → W p l e rm_X4_letGo s m args below meth c H locs 0 0 Q (F0 m 118 ls []) := by
    intro x2 x3 x4 mo k60 H locs ls hl hI hf hk60
    unfold f_X4_letGo_L118 at hf
    obtain ⟨v_7, e_⟩ : ∃ y : Int32, y = (x4 + (1 : Int32)) := ⟨_, rfl⟩
    replace hf := lt_to e_ hf
    refine lv_iinc (v := v_7) (lv' := [(4, .int v_7), (0, .ref (a_mo 0)), (1, .ref (a_ri 0)), (2, .int x2), (3, .int x3)]) hx hb dX4_letGo_118 hl (k := 4) rfl (by rw [e_]; rfl) (by decide) rfl (fun ls hl => ?_)
    clear e_
    refine lv_goto (tgt := 60) hx hb dX4_letGo_121 (by decide) ?_
    exact hk60 x2 x3 v_7 mo _ _ _ (lv_sub hl [1, 2, 3, 4, 0] rfl) hI hf
  have L_60 : ∀ (n_ : Nat) (x2 : Int32) (x3 : Int32) (x4 : Int32) (mo : MoS) (H : Heap) (locs : List Loc) (ls : Array Slot), lv_has ls 6 [(0, .ref (a_mo 0)), (1, .ref (a_ri 0)), (2, .int x2), (3, .int x3), (4, .int x4)] → In g A s.heap s (wMo g a_mo mo ++ (wRi g a_ri ri ++ [])) H locs → f_X4_letGo_L60 n_ x2 x3 x4 mo ri = some (o_mo) → W p l e rm_X4_letGo s m args below meth c H locs 0 0 Q (F0 m 60 ls []) := by
    intro n_
    induction n_ with
    | zero =>
      intro x2 x3 x4 mo H locs ls hl hI hf
      rw [f_X4_letGo_L60] at hf
      cases hf
    | succ n_ ih =>
      intro x2 x3 x4 mo H locs ls hl hI hf
      rw [f_X4_letGo_L60] at hf
      refine lv_iload hx hb dX4_letGo_60 (lv_at hl 4 rfl) ?_
      refine lv_aload_n hx hb dX4_letGo_62 rfl (lv_at hl 1 rfl) ?_
      refine g_Ri_standings X hI has_Ri.l.r (hI.fn (List.mem_of_getElem? (i := 33) rfl)) dX4_letGo_63 ?_
      refine lv_icmp_ge (tgt := 124) hx hb dX4_letGo_66 (by decide) (fun h_ => ?_) (fun h_ => ?_)
      · replace hf := if_t h_ hf
        refine lv_aload_n hx hb dX4_letGo_124 rfl (lv_at hl 0 rfl) ?_
        refine lv_iload_n hx hb dX4_letGo_125 rfl (lv_at hl 2 rfl) ?_
        refine p_Mo_parted X hI up_Mo_parted.l (X.fl w_488) dX4_letGo_126 (fun H locs hI => ?_)
        generalize hz_ : (Mo_parted' mo x2) = mo_3 at hI hf
        clear hz_
        replace hf := lt_e hf
        cases hf
        exact end_v hQ hA X hI dX4_letGo_129
      · replace hf := if_f h_ hf
        refine lv_aload_n hx hb dX4_letGo_69 rfl (lv_at hl 0 rfl) ?_
        refine g_Mo_key X hI has_Mo.l (X.fl w_480) dX4_letGo_70 ?_
        refine lv_iload hx hb dX4_letGo_73 (lv_at hl 4 rfl) ?_
        obtain ⟨r_4, hc_, hf⟩ := bd1_some hf
        refine call_Si X hI Cj.nil (c_X4_passAt l g (Mo_key mo) x4 r_4 hc_) ⟨rfl, rfl⟩ ⟨ht _ w_1279, w_954, ht _ w_148, lk_X4_passAt⟩ w_953 rfl hl rfl rfl dX4_letGo_75 rfl rfl rfl rfl (fun H locs hI => ?_)
        refine lv_istore (lv' := [(5, .int r_4), (0, .ref (a_mo 0)), (1, .ref (a_ri 0)), (2, .int x2), (3, .int x3), (4, .int x4)]) hx hb dX4_letGo_78 hl (by decide) rfl (fun ls hl => ?_)
        refine lv_iload hx hb dX4_letGo_80 (lv_at hl 0 rfl) ?_
        refine lv_iconst (v := (-1)) hx hb dX4_letGo_82 (by decide) ?_
        refine lv_icmp_eq (tgt := 118) hx hb dX4_letGo_83 (by decide) (fun h_ => ?_) (fun h_ => ?_)
        · replace hf := if_t h_ hf
          exact L_118 x2 x3 x4 mo _ _ _ _ (lv_sub hl [1, 2, 3, 4, 5] rfl) hI hf (fun z_0 z_1 z_2 z_3 _ _ _ hl hI hf => ih z_0 z_1 z_2 z_3 _ _ _ hl hI hf)
        · replace hf := if_f h_ hf
          refine lv_iload_n hx hb dX4_letGo_86 rfl (lv_at hl 4 rfl) ?_
          refine lv_iload hx hb dX4_letGo_87 (lv_at hl 0 rfl) ?_
          refine lv_iconst (v := 2) hx hb dX4_letGo_89 (by decide) ?_
          refine lv_idiv hx hb dX4_letGo_90 (by decide) ?_
          refine lv_ishr hx hb dX4_letGo_91 ?_
          refine lv_iconst (v := 1) hx hb dX4_letGo_92 (by decide) ?_
          refine lv_iand hx hb dX4_letGo_93 ?_
          refine lv_if_eq (tgt := 118) hx hb dX4_letGo_94 (by decide) (fun h_ => ?_) (fun h_ => ?_)
          · replace hf := if_t h_ hf
            exact L_118 x2 x3 x4 mo _ _ _ _ (lv_sub hl [1, 2, 3, 4, 5] rfl) hI hf (fun z_0 z_1 z_2 z_3 _ _ _ hl hI hf => ih z_0 z_1 z_2 z_3 _ _ _ hl hI hf)
          · replace hf := if_f h_ hf
            refine lv_aload_n hx hb dX4_letGo_97 rfl (lv_at hl 1 rfl) ?_
            refine lv_dup hx hb dX4_letGo_98 rfl ?_
            refine g_Mo_key X hI has_Mo.l (X.fl w_480) dX4_letGo_99 ?_
            refine lv_ldc2 (v := 15) hx hb hown (ht _ w_955) dX4_letGo_102 ?_
            refine lv_iconst (v := 4) hx hb dX4_letGo_105 (by decide) ?_
            refine lv_iload hx hb dX4_letGo_106 (lv_at hl 5 rfl) ?_
            refine lv_imul hx hb dX4_letGo_108 ?_
            refine lv_lshl hx hb dX4_letGo_109 rfl ?_
            refine lv_ldc2 (v := (-1)) hx hb hown (ht _ w_1280) dX4_letGo_110 ?_
            refine lv_lxor hx hb dX4_letGo_113 ?_
            refine lv_land hx hb dX4_letGo_114 ?_
            refine p_Mo_key X hI up_Mo_key.l (X.fl w_480) dX4_letGo_115 (fun H locs hI => ?_)
            generalize hz_ : (Mo_key' mo ((Mo_key mo) &&& (((15 : Int64) <<< (Int32.toInt64 ((4 : Int32) * x4) &&& 63)) ^^^ (-1 : Int64)))) = mo_5 at hI hf
            clear hz_
            replace hf := lt_e hf
            exact L_118 x2 x3 x4 mo_5 _ _ _ _ (lv_sub hl [1, 2, 3, 4, 5] rfl) hI hf (fun z_0 z_1 z_2 z_3 _ _ _ hl hI hf => ih z_0 z_1 z_2 z_3 _ _ _ hl hI hf)
  have L_5 : ∀ (n_ : Nat) (x2 : Int32) (x3 : Int32) (x4 : Int32) (mo : MoS) (H : Heap) (locs : List Loc) (ls : Array Slot), lv_has ls 6 [(0, .ref (a_mo 0)), (1, .ref (a_ri 0)), (2, .int x2), (3, .int x3), (4, .int x4)] → In g A s.heap s (wMo g a_mo mo ++ (wRi g a_ri ri ++ [])) H locs → f_X4_letGo_L5 n_ x2 x3 x4 mo ri = some (o_mo) → W p l e rm_X4_letGo s m args below meth c H locs 0 0 Q (F0 m 5 ls []) := by
    intro n_
    induction n_ with
    | zero =>
      intro x2 x3 x4 mo H locs ls hl hI hf
      rw [f_X4_letGo_L5] at hf
      cases hf
    | succ n_ ih =>
      intro x2 x3 x4 mo H locs ls hl hI hf
      rw [f_X4_letGo_L5] at hf
      refine lv_iload hx hb dX4_letGo_5 (lv_at hl 4 rfl) ?_
      refine lv_aload_n hx hb dX4_letGo_7 rfl (lv_at hl 1 rfl) ?_
      refine g_Ri_standings X hI has_Ri.l.r (hI.fn (List.mem_of_getElem? (i := 33) rfl)) dX4_letGo_8 ?_
      refine lv_icmp_ge (tgt := 57) hx hb dX4_letGo_11 (by decide) (fun h_ => ?_) (fun h_ => ?_)
      · replace hf := if_t h_ hf
        refine lv_iconst (v := 0) hx hb dX4_letGo_57 (by decide) ?_
        refine lv_istore (lv' := [(4, .int (0 : Int32)), (0, .ref (a_mo 0)), (1, .ref (a_ri 0)), (2, .int x2), (3, .int x3)]) hx hb dX4_letGo_58 hl (by decide) rfl (fun ls hl => ?_)
        exact L_60 FU x2 x3 (0 : Int32) mo _ _ _ (lv_sub hl [1, 2, 3, 4, 0] rfl) hI hf
      · replace hf := if_f h_ hf
        refine lv_aload_n hx hb dX4_letGo_14 rfl (lv_at hl 0 rfl) ?_
        refine g_Mo_key X hI has_Mo.l (X.fl w_480) dX4_letGo_15 ?_
        refine lv_iload hx hb dX4_letGo_18 (lv_at hl 4 rfl) ?_
        obtain ⟨r_1, hc_, hf⟩ := bd1_some hf
        refine call_Si X hI Cj.nil (c_X4_passAt l g (Mo_key mo) x4 r_1 hc_) ⟨rfl, rfl⟩ ⟨ht _ w_1279, w_954, ht _ w_148, lk_X4_passAt⟩ w_953 rfl hl rfl rfl dX4_letGo_20 rfl rfl rfl rfl (fun H locs hI => ?_)
        refine lv_istore (lv' := [(5, .int r_1), (0, .ref (a_mo 0)), (1, .ref (a_ri 0)), (2, .int x2), (3, .int x3), (4, .int x4)]) hx hb dX4_letGo_23 hl (by decide) rfl (fun ls hl => ?_)
        refine lv_iload hx hb dX4_letGo_25 (lv_at hl 0 rfl) ?_
        refine lv_iconst (v := (-1)) hx hb dX4_letGo_27 (by decide) ?_
        refine lv_icmp_eq (tgt := 51) hx hb dX4_letGo_28 (by decide) (fun h_ => ?_) (fun h_ => ?_)
        · replace hf := if_t h_ hf
          exact L_51 x2 x3 x4 mo _ _ _ _ (lv_sub hl [1, 2, 3, 4, 5] rfl) hI hf (fun z_0 z_1 z_2 z_3 _ _ _ hl hI hf => ih z_0 z_1 z_2 z_3 _ _ _ hl hI hf)
        · replace hf := if_f h_ hf
          refine lv_aload_n hx hb dX4_letGo_31 rfl (lv_at hl 2 rfl) ?_
          refine g_Ri_standingLink X hI has_Ri.l.r (hI.fn (List.mem_of_getElem? (i := 51) rfl)) dX4_letGo_32 ?_
          refine lv_iload hx hb dX4_letGo_35 (lv_at hl 5 rfl) ?_
          obtain ⟨h_, hf⟩ := ck_someM hf
          refine ld_I X hI has_Ri_standingLink.l.r h_ dX4_letGo_37 ?_
          refine lv_iload_n hx hb dX4_letGo_38 rfl (lv_at hl 3 rfl) ?_
          refine lv_icmp_ne (tgt := 51) hx hb dX4_letGo_39 (by decide) (fun h_ => ?_) (fun h_ => ?_)
          · replace hf := if_f h_ hf
            exact L_51 x2 x3 x4 mo _ _ _ _ (lv_sub hl [1, 2, 3, 4, 5] rfl) hI hf (fun z_0 z_1 z_2 z_3 _ _ _ hl hI hf => ih z_0 z_1 z_2 z_3 _ _ _ hl hI hf)
          · replace hf := if_t h_ hf
            refine lv_iload_n hx hb dX4_letGo_42 rfl (lv_at hl 4 rfl) ?_
            refine lv_iconst (v := 1) hx hb dX4_letGo_43 (by decide) ?_
            refine lv_iload hx hb dX4_letGo_44 (lv_at hl 0 rfl) ?_
            refine lv_iconst (v := 2) hx hb dX4_letGo_46 (by decide) ?_
            refine lv_idiv hx hb dX4_letGo_47 (by decide) ?_
            refine lv_ishl hx hb dX4_letGo_48 ?_
            refine lv_ior hx hb dX4_letGo_49 ?_
            refine lv_topi (fun v_2 e_ => ?_)
            replace hf := lt_to e_ hf
            clear e_
            refine lv_istore_n (lv' := [(3, .int v_2), (5, .int r_1), (0, .ref (a_mo 0)), (1, .ref (a_ri 0)), (2, .int x2), (4, .int x4)]) hx hb dX4_letGo_50 rfl hl (by decide) rfl (fun ls hl => ?_)
            exact L_51 x2 v_2 x4 mo _ _ _ _ (lv_sub hl [2, 3, 4, 0, 5] rfl) hI hf (fun z_0 z_1 z_2 z_3 _ _ _ hl hI hf => ih z_0 z_1 z_2 z_3 _ _ _ hl hI hf)
  unfold f_X4_letGo at hf
  refine lv_iconst (v := 0) hx hb dX4_letGo_0 (by decide) ?_
  refine lv_istore_n (lv' := [(3, .int (0 : Int32)), (0, .ref (a_mo 0)), (1, .ref (a_ri 0)), (2, .int p2)]) hx hb dX4_letGo_1 rfl hl (by decide) rfl (fun ls hl => ?_)
  refine lv_iconst (v := 0) hx hb dX4_letGo_2 (by decide) ?_
  refine lv_istore (lv' := [(4, .int (0 : Int32)), (3, .int (0 : Int32)), (0, .ref (a_mo 0)), (1, .ref (a_ri 0)), (2, .int p2)]) hx hb dX4_letGo_3 hl (by decide) rfl (fun ls hl => ?_)
  exact L_5 FU p2 (0 : Int32) (0 : Int32) mo _ _ _ (lv_sub hl [2, 3, 4, 1, 0] rfl) hI hf
abbrev rm_X4_turnOver : Room := { frames := 1, cells := 0, slots := 0, locals := 22 }
set_option maxRecDepth 20000 in
theorem c_X4_turnOver (l : Launch) (g : GT) (a_mo : Nat → Nat) (mo : MoS) (p1 : Int32) (o_mo : MoS) (hf : f_X4_turnOver mo p1 = some (o_mo)) : CV l yX4_turnOver cX4_turnOver 6 none rm_X4_turnOver g [.ref (a_mo 0), .int p1] (wMo g a_mo mo ++ []) (wMo g a_mo o_mo ++ []) := by
  refine start2 (y := yX4_turnOver) (cc := cX4_turnOver) (n := 6) (av := [.ref (a_mo 0), .int p1]) (ws := (wMo g a_mo mo ++ [])) (Qc := fun sz => QV g (wMo g a_mo mo ++ []) (wMo g a_mo o_mo ++ []) sz) (by decide) rfl ?_
  intro p e s m args below meth c ls Q A ha hQ hA X hl hI hin
  have X : Cx p s m args meth c cX4_turnOver 6 RX4 none := X
  have hl : lv_has ls 6 [(0, .ref (a_mo 0)), (1, .int p1)] := hl
  obtain ⟨hx, hb, hml, hown, ht, hr, hlk⟩ := id X
  clear ha hin
  have L_63 : ∀ (x1 : Int32) (x2 : Int64) (x4 : Int32) (mo : MoS) (k16 : (Int32) → (Int64) → (Int32) → (MoS) → Option ((MoS))) (H : Heap) (locs : List Loc) (ls : Array Slot), lv_has ls 6 [(0, .ref (a_mo 0)), (1, .int x1), (2, .long x2), (4, .int x4)] → In g A s.heap s (wMo g a_mo mo ++ []) H locs → f_X4_turnOver_L63 x1 x2 x4 mo k16 = some (o_mo) → (∀ (x1 : Int32) (x2 : Int64) (x4 : Int32) (mo : MoS) (H : Heap) (locs : List Loc) (ls : Array Slot), lv_has ls 6 [(0, .ref (a_mo 0)), (1, .int x1), (2, .long x2), (4, .int x4)] → In g A s.heap s (wMo g a_mo mo ++ []) H locs → k16 x1 x2 x4 mo = some (o_mo) → W p l e rm_X4_turnOver s m args below meth c H locs 0 0 Q (F0 m 16 ls [])) → W p l e rm_X4_turnOver s m args below meth c H locs 0 0 Q (F0 m 63 ls []) := by
    intro x1 x2 x4 mo k16 H locs ls hl hI hf hk16
    unfold f_X4_turnOver_L63 at hf
    obtain ⟨v_5, e_⟩ : ∃ y : Int32, y = (x4 + (1 : Int32)) := ⟨_, rfl⟩
    replace hf := lt_to e_ hf
    refine lv_iinc (v := v_5) (lv' := [(4, .int v_5), (0, .ref (a_mo 0)), (1, .int x1), (2, .long x2)]) hx hb dX4_turnOver_63 hl (k := 3) rfl (by rw [e_]; rfl) (by decide) rfl (fun ls hl => ?_)
    clear e_
    refine lv_goto (tgt := 16) hx hb dX4_turnOver_66 (by decide) ?_
    exact hk16 x1 x2 v_5 mo _ _ _ (lv_sub hl [1, 2, 3, 0] rfl) hI hf
  have L_16 : ∀ (n_ : Nat) (x1 : Int32) (x2 : Int64) (x4 : Int32) (mo : MoS) (H : Heap) (locs : List Loc) (ls : Array Slot), lv_has ls 6 [(0, .ref (a_mo 0)), (1, .int x1), (2, .long x2), (4, .int x4)] → In g A s.heap s (wMo g a_mo mo ++ []) H locs → f_X4_turnOver_L16 n_ x1 x2 x4 mo = some (o_mo) → W p l e rm_X4_turnOver s m args below meth c H locs 0 0 Q (F0 m 16 ls []) := by
    intro n_
    induction n_ with
    | zero =>
      intro x1 x2 x4 mo H locs ls hl hI hf
      rw [f_X4_turnOver_L16] at hf
      cases hf
    | succ n_ ih =>
      intro x1 x2 x4 mo H locs ls hl hI hf
      rw [f_X4_turnOver_L16] at hf
      refine lv_iload hx hb dX4_turnOver_16 (lv_at hl 3 rfl) ?_
      refine lv_bipush (v := 14) hx hb dX4_turnOver_18 (by decide) ?_
      refine lv_icmp_ge (tgt := 69) hx hb dX4_turnOver_20 (by decide) (fun h_ => ?_) (fun h_ => ?_)
      · replace hf := if_t h_ hf
        refine lv_aload_n hx hb dX4_turnOver_69 rfl (lv_at hl 0 rfl) ?_
        refine lv_dup hx hb dX4_turnOver_70 rfl ?_
        refine g_Mo_plus X hI has_Mo.l (X.fl w_484) dX4_turnOver_71 ?_
        refine lv_iconst (v := 1) hx hb dX4_turnOver_74 (by decide) ?_
        refine lv_iload_n hx hb dX4_turnOver_75 rfl (lv_at hl 1 rfl) ?_
        refine lv_ishl hx hb dX4_turnOver_76 ?_
        refine lv_ixor hx hb dX4_turnOver_77 ?_
        refine p_Mo_plus X hI up_Mo_plus.l (X.fl w_484) dX4_turnOver_78 (fun H locs hI => ?_)
        generalize hz_ : (Mo_plus' mo ((Mo_plus mo) ^^^ ((1 : Int32) <<< (x1 &&& 31)))) = mo_2 at hI hf
        clear hz_
        replace hf := lt_e hf
        cases hf
        exact end_v hQ hA X hI dX4_turnOver_81
      · replace hf := if_f h_ hf
        refine lv_aload_n hx hb dX4_turnOver_23 rfl (lv_at hl 0 rfl) ?_
        refine g_Mo_key X hI has_Mo.l (X.fl w_480) dX4_turnOver_24 ?_
        refine lv_iload hx hb dX4_turnOver_27 (lv_at hl 3 rfl) ?_
        obtain ⟨r_3, hc_, hf⟩ := bd1_some hf
        refine call_Si X hI Cj.nil (c_X4_passAt l g (Mo_key mo) x4 r_3 hc_) ⟨rfl, rfl⟩ ⟨ht _ w_1279, w_954, ht _ w_148, lk_X4_passAt⟩ w_953 rfl hl rfl rfl dX4_turnOver_29 rfl rfl rfl rfl (fun H locs hI => ?_)
        refine lv_istore (lv' := [(5, .int r_3), (0, .ref (a_mo 0)), (1, .int x1), (2, .long x2), (4, .int x4)]) hx hb dX4_turnOver_32 hl (by decide) rfl (fun ls hl => ?_)
        refine lv_iload hx hb dX4_turnOver_34 (lv_at hl 0 rfl) ?_
        refine lv_iconst (v := (-1)) hx hb dX4_turnOver_36 (by decide) ?_
        refine lv_icmp_eq (tgt := 63) hx hb dX4_turnOver_37 (by decide) (fun h_ => ?_) (fun h_ => ?_)
        · replace hf := if_t h_ hf
          exact L_63 x1 x2 x4 mo _ _ _ _ (lv_sub hl [1, 2, 3, 4] rfl) hI hf (fun z_0 z_1 z_2 z_3 _ _ _ hl hI hf => ih z_0 z_1 z_2 z_3 _ _ _ hl hI hf)
        · replace hf := if_f h_ hf
          refine lv_iload hx hb dX4_turnOver_40 (lv_at hl 0 rfl) ?_
          refine lv_iconst (v := 2) hx hb dX4_turnOver_42 (by decide) ?_
          refine lv_idiv hx hb dX4_turnOver_43 (by decide) ?_
          refine lv_iload_n hx hb dX4_turnOver_44 rfl (lv_at hl 2 rfl) ?_
          refine lv_icmp_ne (tgt := 63) hx hb dX4_turnOver_45 (by decide) (fun h_ => ?_) (fun h_ => ?_)
          · replace hf := if_f h_ hf
            exact L_63 x1 x2 x4 mo _ _ _ _ (lv_sub hl [1, 2, 3, 4] rfl) hI hf (fun z_0 z_1 z_2 z_3 _ _ _ hl hI hf => ih z_0 z_1 z_2 z_3 _ _ _ hl hI hf)
          · replace hf := if_t h_ hf
            refine lv_aload_n hx hb dX4_turnOver_48 rfl (lv_at hl 1 rfl) ?_
            refine lv_dup hx hb dX4_turnOver_49 rfl ?_
            refine g_Mo_key X hI has_Mo.l (X.fl w_480) dX4_turnOver_50 ?_
            refine lv_lload_n hx hb dX4_turnOver_53 rfl (lv_at hl 3 rfl) ?_
            refine lv_iconst (v := 4) hx hb dX4_turnOver_54 (by decide) ?_
            refine lv_iload hx hb dX4_turnOver_55 (lv_at hl 4 rfl) ?_
            refine lv_imul hx hb dX4_turnOver_57 ?_
            refine lv_lshl hx hb dX4_turnOver_58 rfl ?_
            refine lv_lxor hx hb dX4_turnOver_59 ?_
            refine p_Mo_key X hI up_Mo_key.l (X.fl w_480) dX4_turnOver_60 (fun H locs hI => ?_)
            generalize hz_ : (Mo_key' mo ((Mo_key mo) ^^^ (x2 <<< (Int32.toInt64 ((4 : Int32) * x4) &&& 63)))) = mo_4 at hI hf
            clear hz_
            replace hf := lt_e hf
            exact L_63 x1 x2 x4 mo_4 _ _ _ _ (lv_sub hl [1, 2, 3, 4] rfl) hI hf (fun z_0 z_1 z_2 z_3 _ _ _ hl hI hf => ih z_0 z_1 z_2 z_3 _ _ _ hl hI hf)
  unfold f_X4_turnOver at hf
  refine lv_iconst (v := 2) hx hb dX4_turnOver_0 (by decide) ?_
  refine lv_iload_n hx hb dX4_turnOver_1 rfl (lv_at hl 1 rfl) ?_
  refine lv_imul hx hb dX4_turnOver_2 ?_
  refine lv_iconst (v := 1) hx hb dX4_turnOver_3 (by decide) ?_
  refine lv_iadd hx hb dX4_turnOver_4 ?_
  refine lv_iconst (v := 2) hx hb dX4_turnOver_5 (by decide) ?_
  refine lv_iload_n hx hb dX4_turnOver_6 rfl (lv_at hl 1 rfl) ?_
  refine lv_imul hx hb dX4_turnOver_7 ?_
  refine lv_iconst (v := 2) hx hb dX4_turnOver_8 (by decide) ?_
  refine lv_iadd hx hb dX4_turnOver_9 ?_
  refine lv_ixor hx hb dX4_turnOver_10 ?_
  refine lv_i2l hx hb dX4_turnOver_11 rfl ?_
  refine lv_topl (fun v_1 e_ => ?_)
  replace hf := lt_to e_ hf
  clear e_
  refine lv_lstore_n (lv' := [(2, .long v_1), (0, .ref (a_mo 0)), (1, .int p1)]) hx hb dX4_turnOver_12 rfl hl (by decide) rfl (fun ls hl => ?_)
  refine lv_iconst (v := 0) hx hb dX4_turnOver_13 (by decide) ?_
  refine lv_istore (lv' := [(4, .int (0 : Int32)), (2, .long v_1), (0, .ref (a_mo 0)), (1, .int p1)]) hx hb dX4_turnOver_14 hl (by decide) rfl (fun ls hl => ?_)
  exact L_16 FU p1 v_1 (0 : Int32) mo _ _ _ (lv_sub hl [2, 3, 1, 0] rfl) hI hf
abbrev rm_X8_addToken : Room := { frames := 0, cells := 0, slots := 0, locals := 0 }
set_option maxRecDepth 20000 in
theorem c_X8_addToken (l : Launch) (g : GT) (a_ta : Nat → Nat) (ta : TaS) (p1 : Int32) (p2 : Int32) (p3 : Int32) (p4 : Int64) (o_ta : TaS) (hf : f_X8_addToken ta p1 p2 p3 p4 = some (o_ta)) : CV l yX8_addToken cX8_addToken 6 none rm_X8_addToken g [.ref (a_ta 0), .int p1, .int p2, .int p3, .long p4] (wTa g a_ta ta ++ []) (wTa g a_ta o_ta ++ []) := by
  refine start2 (y := yX8_addToken) (cc := cX8_addToken) (n := 6) (av := [.ref (a_ta 0), .int p1, .int p2, .int p3, .long p4]) (ws := (wTa g a_ta ta ++ [])) (Qc := fun sz => QV g (wTa g a_ta ta ++ []) (wTa g a_ta o_ta ++ []) sz) (by decide) rfl ?_
  intro p e s m args below meth c ls Q A ha hQ hA X hl hI hin
  have X : Cx p s m args meth c cX8_addToken 6 RX8 none := X
  have hl : lv_has ls 6 [(0, .ref (a_ta 0)), (1, .int p1), (2, .int p2), (3, .int p3), (4, .long p4)] := hl
  obtain ⟨hx, hb, hml, hown, ht, hr, hlk⟩ := id X
  clear ha hin
  unfold f_X8_addToken at hf
  refine lv_aload_n hx hb dX8_addToken_0 rfl (lv_at hl 0 rfl) ?_
  refine g_Ta_count X hI has_Ta.l (X.fl w_262) dX8_addToken_1 ?_
  refine lv_sipush (v := 900) hx hb dX8_addToken_4 (by decide) ?_
  refine lv_icmp_gt (tgt := 61) hx hb dX8_addToken_7 (by decide) (fun h_ => ?_) (fun h_ => ?_)
  · replace hf := if_t h_ hf
    cases hf
    exact end_v hQ hA X hI dX8_addToken_61
  · replace hf := if_f h_ hf
    refine lv_aload_n hx hb dX8_addToken_10 rfl (lv_at hl 0 rfl) ?_
    refine g_Ta_kinds X hI has_Ta.l (X.fl w_253) dX8_addToken_11 ?_
    refine lv_aload_n hx hb dX8_addToken_14 rfl (lv_at hl 0 rfl) ?_
    refine g_Ta_count X hI has_Ta.l (X.fl w_262) dX8_addToken_15 ?_
    refine lv_iload_n hx hb dX8_addToken_18 rfl (lv_at hl 1 rfl) ?_
    obtain ⟨h_, hf⟩ := ck_someM hf
    refine st_I X hI up_Ta_kinds.l h_ dX8_addToken_19 (fun H locs hI => ?_)
    generalize hz_ : (Ta_kinds' ta (upd (Ta_kinds ta) (Int32.toNatClampNeg (Ta_count ta)) p1)) = ta_1 at hI hf
    clear hz_
    replace hf := lt_e hf
    refine lv_aload_n hx hb dX8_addToken_20 rfl (lv_at hl 0 rfl) ?_
    refine g_Ta_starts X hI has_Ta.l (X.fl w_255) dX8_addToken_21 ?_
    refine lv_aload_n hx hb dX8_addToken_24 rfl (lv_at hl 0 rfl) ?_
    refine g_Ta_count X hI has_Ta.l (X.fl w_262) dX8_addToken_25 ?_
    refine lv_iload_n hx hb dX8_addToken_28 rfl (lv_at hl 2 rfl) ?_
    obtain ⟨h_, hf⟩ := ck_someM hf
    refine st_I X hI up_Ta_starts.l h_ dX8_addToken_29 (fun H locs hI => ?_)
    generalize hz_ : (Ta_starts' ta_1 (upd (Ta_starts ta_1) (Int32.toNatClampNeg (Ta_count ta_1)) p2)) = ta_2 at hI hf
    clear hz_
    replace hf := lt_e hf
    refine lv_aload_n hx hb dX8_addToken_30 rfl (lv_at hl 0 rfl) ?_
    refine g_Ta_values X hI has_Ta.l (X.fl w_257) dX8_addToken_31 ?_
    refine lv_aload_n hx hb dX8_addToken_34 rfl (lv_at hl 0 rfl) ?_
    refine g_Ta_count X hI has_Ta.l (X.fl w_262) dX8_addToken_35 ?_
    refine lv_iload_n hx hb dX8_addToken_38 rfl (lv_at hl 3 rfl) ?_
    obtain ⟨h_, hf⟩ := ck_someM hf
    refine st_I X hI up_Ta_values.l h_ dX8_addToken_39 (fun H locs hI => ?_)
    generalize hz_ : (Ta_values' ta_2 (upd (Ta_values ta_2) (Int32.toNatClampNeg (Ta_count ta_2)) p3)) = ta_3 at hI hf
    clear hz_
    replace hf := lt_e hf
    refine lv_aload_n hx hb dX8_addToken_40 rfl (lv_at hl 0 rfl) ?_
    refine g_Ta_spellings X hI has_Ta.l (X.fl w_259) dX8_addToken_41 ?_
    refine lv_aload_n hx hb dX8_addToken_44 rfl (lv_at hl 0 rfl) ?_
    refine g_Ta_count X hI has_Ta.l (X.fl w_262) dX8_addToken_45 ?_
    refine lv_lload hx hb dX8_addToken_48 (lv_at hl 4 rfl) ?_
    obtain ⟨h_, hf⟩ := ck_someM hf
    refine st_J X hI up_Ta_spellings.l h_ dX8_addToken_50 (fun H locs hI => ?_)
    generalize hz_ : (Ta_spellings' ta_3 (vp_updL (Ta_spellings ta_3) (Int32.toNatClampNeg (Ta_count ta_3)) p4)) = ta_4 at hI hf
    clear hz_
    replace hf := lt_e hf
    refine lv_aload_n hx hb dX8_addToken_51 rfl (lv_at hl 0 rfl) ?_
    refine lv_dup hx hb dX8_addToken_52 rfl ?_
    refine g_Ta_count X hI has_Ta.l (X.fl w_262) dX8_addToken_53 ?_
    refine lv_iconst (v := 1) hx hb dX8_addToken_56 (by decide) ?_
    refine lv_iadd hx hb dX8_addToken_57 ?_
    refine p_Ta_count X hI up_Ta_count.l (X.fl w_262) dX8_addToken_58 (fun H locs hI => ?_)
    generalize hz_ : (Ta_count' ta_4 ((Ta_count ta_4) + (1 : Int32))) = ta_5 at hI hf
    clear hz_
    replace hf := lt_e hf
    cases hf
    exact end_v hQ hA X hI dX8_addToken_61
abbrev rm_X8_ends : Room := { frames := 1, cells := 0, slots := 0, locals := 25 }
set_option maxRecDepth 20000 in
theorem c_X8_ends (l : Launch) (g : GT) (a_ta : Nat → Nat) (ta : TaS) (p1 : Int32) (r_ : Int32) (o_ta : TaS) (hf : f_X8_ends ta p1 = some (r_, o_ta)) : CI l yX8_ends cX8_ends 2 (some .int) rm_X8_ends g [.ref (a_ta 0), .int p1] (wTa g a_ta ta ++ []) (wTa g a_ta o_ta ++ []) r_ := by
  refine start2 (y := yX8_ends) (cc := cX8_ends) (n := 2) (av := [.ref (a_ta 0), .int p1]) (ws := (wTa g a_ta ta ++ [])) (Qc := fun sz => QI g (wTa g a_ta ta ++ []) (wTa g a_ta o_ta ++ []) r_ sz) (by decide) rfl ?_
  intro p e s m args below meth c ls Q A ha hQ hA X hl hI hin
  have X : Cx p s m args meth c cX8_ends 2 RX8 (some .int) := X
  have hl : lv_has ls 2 [(0, .ref (a_ta 0)), (1, .int p1)] := hl
  obtain ⟨hx, hb, hml, hown, ht, hr, hlk⟩ := id X
  clear ha hin
  unfold f_X8_ends at hf
  refine lv_aload_n hx hb dX8_ends_0 rfl (lv_at hl 0 rfl) ?_
  refine lv_iconst (v := 0) hx hb dX8_ends_1 (by decide) ?_
  refine lv_iload_n hx hb dX8_ends_2 rfl (lv_at hl 1 rfl) ?_
  refine lv_iconst (v := 0) hx hb dX8_ends_3 (by decide) ?_
  refine lv_lconst (v := 0) hx hb dX8_ends_4 (by decide) ?_
  obtain ⟨ta_1, hc_, hf⟩ := bd1_some hf
  refine call_Vv X hI (Cj.keep Cj.id) (c_X8_addToken l g a_ta ta (0 : Int32) p1 (0 : Int32) (0 : Int64) ta_1 hc_) ⟨rfl, rfl⟩ ⟨ht _ w_755, w_758, ht _ w_141, lk_X8_addToken⟩ w_757 w_3 rfl rfl rfl hl rfl rfl dX8_ends_5 rfl rfl rfl rfl (fun H locs hI => ?_)
  refine lv_iload_n hx hb dX8_ends_8 rfl (lv_at hl 1 rfl) ?_
  refine lv_iconst (v := 1) hx hb dX8_ends_9 (by decide) ?_
  refine lv_iadd hx hb dX8_ends_10 ?_
  cases hf
  exact end_i hQ hA X hI dX8_ends_11
abbrev rm_X8_isLetter : Room := { frames := 0, cells := 0, slots := 0, locals := 0 }
set_option maxRecDepth 20000 in
theorem c_X8_isLetter (l : Launch) (g : GT) (p0 : Int32) (r_ : Int32) (hf : f_X8_isLetter p0 = some (r_)) : CI l yX8_isLetter cX8_isLetter 1 (some .boolean) rm_X8_isLetter g [.int p0] ([]) ([]) r_ := by
  refine start2 (y := yX8_isLetter) (cc := cX8_isLetter) (n := 1) (av := [.int p0]) (ws := ([])) (Qc := fun sz => QI g ([]) ([]) r_ sz) (by decide) rfl ?_
  intro p e s m args below meth c ls Q A ha hQ hA X hl hI hin
  have X : Cx p s m args meth c cX8_isLetter 1 RX8 (some .boolean) := X
  have hl : lv_has ls 1 [(0, .int p0)] := hl
  obtain ⟨hx, hb, hml, hown, ht, hr, hlk⟩ := id X
  clear ha hin
  unfold f_X8_isLetter at hf
  refine lv_iload_n hx hb dX8_isLetter_0 rfl (lv_at hl 0 rfl) ?_
  refine lv_bipush (v := 97) hx hb dX8_isLetter_1 (by decide) ?_
  refine lv_icmp_lt (tgt := 16) hx hb dX8_isLetter_3 (by decide) (fun h_ => ?_) (fun h_ => ?_)
  · replace hf := if_t h_ hf
    refine lv_iconst (v := 0) hx hb dX8_isLetter_16 (by decide) ?_
    cases hf
    exact end_z hQ hA X hI rfl dX8_isLetter_17
  · replace hf := if_f h_ hf
    refine lv_iload_n hx hb dX8_isLetter_6 rfl (lv_at hl 0 rfl) ?_
    refine lv_bipush (v := 122) hx hb dX8_isLetter_7 (by decide) ?_
    refine lv_icmp_gt (tgt := 16) hx hb dX8_isLetter_9 (by decide) (fun h_ => ?_) (fun h_ => ?_)
    · replace hf := if_t h_ hf
      refine lv_iconst (v := 0) hx hb dX8_isLetter_16 (by decide) ?_
      cases hf
      exact end_z hQ hA X hI rfl dX8_isLetter_17
    · replace hf := if_f h_ hf
      refine lv_iconst (v := 1) hx hb dX8_isLetter_12 (by decide) ?_
      refine lv_goto (tgt := 17) hx hb dX8_isLetter_13 (by decide) ?_
      cases hf
      exact end_z hQ hA X hI rfl dX8_isLetter_17
abbrev rm_X8_isFigure : Room := { frames := 0, cells := 0, slots := 0, locals := 0 }
set_option maxRecDepth 20000 in
theorem c_X8_isFigure (l : Launch) (g : GT) (p0 : Int32) (r_ : Int32) (hf : f_X8_isFigure p0 = some (r_)) : CI l yX8_isFigure cX8_isFigure 1 (some .boolean) rm_X8_isFigure g [.int p0] ([]) ([]) r_ := by
  refine start2 (y := yX8_isFigure) (cc := cX8_isFigure) (n := 1) (av := [.int p0]) (ws := ([])) (Qc := fun sz => QI g ([]) ([]) r_ sz) (by decide) rfl ?_
  intro p e s m args below meth c ls Q A ha hQ hA X hl hI hin
  have X : Cx p s m args meth c cX8_isFigure 1 RX8 (some .boolean) := X
  have hl : lv_has ls 1 [(0, .int p0)] := hl
  obtain ⟨hx, hb, hml, hown, ht, hr, hlk⟩ := id X
  clear ha hin
  unfold f_X8_isFigure at hf
  refine lv_iload_n hx hb dX8_isFigure_0 rfl (lv_at hl 0 rfl) ?_
  refine lv_bipush (v := 48) hx hb dX8_isFigure_1 (by decide) ?_
  refine lv_icmp_lt (tgt := 16) hx hb dX8_isFigure_3 (by decide) (fun h_ => ?_) (fun h_ => ?_)
  · replace hf := if_t h_ hf
    refine lv_iconst (v := 0) hx hb dX8_isFigure_16 (by decide) ?_
    cases hf
    exact end_z hQ hA X hI rfl dX8_isFigure_17
  · replace hf := if_f h_ hf
    refine lv_iload_n hx hb dX8_isFigure_6 rfl (lv_at hl 0 rfl) ?_
    refine lv_bipush (v := 57) hx hb dX8_isFigure_7 (by decide) ?_
    refine lv_icmp_gt (tgt := 16) hx hb dX8_isFigure_9 (by decide) (fun h_ => ?_) (fun h_ => ?_)
    · replace hf := if_t h_ hf
      refine lv_iconst (v := 0) hx hb dX8_isFigure_16 (by decide) ?_
      cases hf
      exact end_z hQ hA X hI rfl dX8_isFigure_17
    · replace hf := if_f h_ hf
      refine lv_iconst (v := 1) hx hb dX8_isFigure_12 (by decide) ?_
      refine lv_goto (tgt := 17) hx hb dX8_isFigure_13 (by decide) ?_
      cases hf
      exact end_z hQ hA X hI rfl dX8_isFigure_17
abbrev rm_X8_addWhole : Room := { frames := 1, cells := 0, slots := 0, locals := 25 }
set_option maxRecDepth 20000 in
theorem c_X8_addWhole (l : Launch) (g : GT) (a_ta : Nat → Nat) (ta : TaS) (p1 : Int32) (p2 : Int32) (o_ta : TaS) (hf : f_X8_addWhole ta p1 p2 = some (o_ta)) : CV l yX8_addWhole cX8_addWhole 5 none rm_X8_addWhole g [.ref (a_ta 0), .int p1, .int p2] (wTa g a_ta ta ++ []) (wTa g a_ta o_ta ++ []) := by
  refine start2 (y := yX8_addWhole) (cc := cX8_addWhole) (n := 5) (av := [.ref (a_ta 0), .int p1, .int p2]) (ws := (wTa g a_ta ta ++ [])) (Qc := fun sz => QV g (wTa g a_ta ta ++ []) (wTa g a_ta o_ta ++ []) sz) (by decide) rfl ?_
  intro p e s m args below meth c ls Q A ha hQ hA X hl hI hin
  have X : Cx p s m args meth c cX8_addWhole 5 RX8 none := X
  have hl : lv_has ls 5 [(0, .ref (a_ta 0)), (1, .int p1), (2, .int p2)] := hl
  obtain ⟨hx, hb, hml, hown, ht, hr, hlk⟩ := id X
  clear ha hin
  have L_5 : ∀ (n_ : Nat) (x1 : Int32) (x2 : Int32) (x3 : Int32) (x4 : Int32) (ta : TaS) (H : Heap) (locs : List Loc) (ls : Array Slot), lv_has ls 5 [(0, .ref (a_ta 0)), (1, .int x1), (2, .int x2), (3, .int x3), (4, .int x4)] → In g A s.heap s (wTa g a_ta ta ++ []) H locs → f_X8_addWhole_L5 n_ x1 x2 x3 x4 ta = some (o_ta) → W p l e rm_X8_addWhole s m args below meth c H locs 0 0 Q (F0 m 5 ls []) := by
    intro n_
    induction n_ with
    | zero =>
      intro x1 x2 x3 x4 ta H locs ls hl hI hf
      rw [f_X8_addWhole_L5] at hf
      cases hf
    | succ n_ ih =>
      intro x1 x2 x3 x4 ta H locs ls hl hI hf
      rw [f_X8_addWhole_L5] at hf
      refine lv_iload hx hb dX8_addWhole_5 (lv_at hl 4 rfl) ?_
      refine lv_iload_n hx hb dX8_addWhole_7 rfl (lv_at hl 2 rfl) ?_
      refine lv_icmp_ge (tgt := 33) hx hb dX8_addWhole_8 (by decide) (fun h_ => ?_) (fun h_ => ?_)
      · replace hf := if_t h_ hf
        refine lv_aload_n hx hb dX8_addWhole_33 rfl (lv_at hl 0 rfl) ?_
        refine lv_iconst (v := 2) hx hb dX8_addWhole_34 (by decide) ?_
        refine lv_iload_n hx hb dX8_addWhole_35 rfl (lv_at hl 1 rfl) ?_
        refine lv_iload_n hx hb dX8_addWhole_36 rfl (lv_at hl 3 rfl) ?_
        refine lv_lconst (v := 0) hx hb dX8_addWhole_37 (by decide) ?_
        obtain ⟨ta_1, hc_, hf⟩ := bd1_some hf
        refine call_Vv X hI (Cj.keep Cj.id) (c_X8_addToken l g a_ta ta (2 : Int32) x1 x3 (0 : Int64) ta_1 hc_) ⟨rfl, rfl⟩ ⟨ht _ w_755, w_758, ht _ w_141, lk_X8_addToken⟩ w_757 w_3 rfl rfl rfl hl rfl rfl dX8_addWhole_38 rfl rfl rfl rfl (fun H locs hI => ?_)
        cases hf
        exact end_v hQ hA X hI dX8_addWhole_41
      · replace hf := if_f h_ hf
        refine lv_bipush (v := 10) hx hb dX8_addWhole_11 (by decide) ?_
        refine lv_iload_n hx hb dX8_addWhole_13 rfl (lv_at hl 3 rfl) ?_
        refine lv_imul hx hb dX8_addWhole_14 ?_
        refine lv_aload_n hx hb dX8_addWhole_15 rfl (lv_at hl 0 rfl) ?_
        refine g_Ta_bytes X hI has_Ta.l (X.fl w_249) dX8_addWhole_16 ?_
        refine lv_iload hx hb dX8_addWhole_19 (lv_at hl 4 rfl) ?_
        obtain ⟨h_, hf⟩ := ck_someM hf
        refine ld_I X hI has_Ta_bytes.l h_ dX8_addWhole_21 ?_
        refine lv_iadd hx hb dX8_addWhole_22 ?_
        refine lv_bipush (v := 48) hx hb dX8_addWhole_23 (by decide) ?_
        refine lv_isub hx hb dX8_addWhole_25 ?_
        refine lv_topi (fun v_2 e_ => ?_)
        replace hf := lt_to e_ hf
        clear e_
        refine lv_istore_n (lv' := [(3, .int v_2), (0, .ref (a_ta 0)), (1, .int x1), (2, .int x2), (4, .int x4)]) hx hb dX8_addWhole_26 rfl hl (by decide) rfl (fun ls hl => ?_)
        obtain ⟨v_3, e_⟩ : ∃ y : Int32, y = (x4 + (1 : Int32)) := ⟨_, rfl⟩
        replace hf := lt_to e_ hf
        refine lv_iinc (v := v_3) (lv' := [(4, .int v_3), (3, .int v_2), (0, .ref (a_ta 0)), (1, .int x1), (2, .int x2)]) hx hb dX8_addWhole_27 hl (k := 4) rfl (by rw [e_]; rfl) (by decide) rfl (fun ls hl => ?_)
        clear e_
        refine lv_goto (tgt := 5) hx hb dX8_addWhole_30 (by decide) ?_
        exact ih x1 x2 v_2 v_3 ta _ _ _ (lv_sub hl [2, 3, 4, 1, 0] rfl) hI hf
  unfold f_X8_addWhole at hf
  refine lv_iconst (v := 0) hx hb dX8_addWhole_0 (by decide) ?_
  refine lv_istore_n (lv' := [(3, .int (0 : Int32)), (0, .ref (a_ta 0)), (1, .int p1), (2, .int p2)]) hx hb dX8_addWhole_1 rfl hl (by decide) rfl (fun ls hl => ?_)
  refine lv_iload_n hx hb dX8_addWhole_2 rfl (lv_at hl 2 rfl) ?_
  refine lv_istore (lv' := [(4, .int p1), (3, .int (0 : Int32)), (0, .ref (a_ta 0)), (1, .int p1), (2, .int p2)]) hx hb dX8_addWhole_3 hl (by decide) rfl (fun ls hl => ?_)
  exact L_5 FU p1 p2 (0 : Int32) p1 ta _ _ _ (lv_sub hl [2, 3, 4, 1, 0] rfl) hI hf
abbrev rm_X8_withLetter : Room := { frames := 0, cells := 0, slots := 0, locals := 0 }
set_option maxRecDepth 20000 in
theorem c_X8_withLetter (l : Launch) (g : GT) (p0 : Int64) (p2 : Int32) (r_ : Int64) (hf : f_X8_withLetter p0 p2 = some (r_)) : CL l yX8_withLetter cX8_withLetter 3 (some .long) rm_X8_withLetter g [.long p0, .int p2] ([]) ([]) r_ := by
  refine start2 (y := yX8_withLetter) (cc := cX8_withLetter) (n := 3) (av := [.long p0, .int p2]) (ws := ([])) (Qc := fun sz => QL g ([]) ([]) r_ sz) (by decide) rfl ?_
  intro p e s m args below meth c ls Q A ha hQ hA X hl hI hin
  have X : Cx p s m args meth c cX8_withLetter 3 RX8 (some .long) := X
  have hl : lv_has ls 3 [(0, .long p0), (2, .int p2)] := hl
  obtain ⟨hx, hb, hml, hown, ht, hr, hlk⟩ := id X
  clear ha hin
  unfold f_X8_withLetter at hf
  refine lv_lload_n hx hb dX8_withLetter_0 rfl (lv_at hl 0 rfl) ?_
  refine lv_iconst (v := 5) hx hb dX8_withLetter_1 (by decide) ?_
  refine lv_lshl hx hb dX8_withLetter_2 rfl ?_
  refine lv_iload_n hx hb dX8_withLetter_3 rfl (lv_at hl 1 rfl) ?_
  refine lv_bipush (v := 97) hx hb dX8_withLetter_4 (by decide) ?_
  refine lv_isub hx hb dX8_withLetter_6 ?_
  refine lv_iconst (v := 1) hx hb dX8_withLetter_7 (by decide) ?_
  refine lv_iadd hx hb dX8_withLetter_8 ?_
  refine lv_i2l hx hb dX8_withLetter_9 rfl ?_
  refine lv_lor hx hb dX8_withLetter_10 ?_
  cases hf
  exact end_l hQ hA X hI dX8_withLetter_11
abbrev rm_X8_addWord : Room := { frames := 1, cells := 0, slots := 0, locals := 25 }
set_option maxRecDepth 20000 in
theorem c_X8_addWord (l : Launch) (g : GT) (a_ta : Nat → Nat) (ta : TaS) (p1 : Int32) (p2 : Int32) (o_ta : TaS) (hf : f_X8_addWord ta p1 p2 = some (o_ta)) : CV l yX8_addWord cX8_addWord 6 none rm_X8_addWord g [.ref (a_ta 0), .int p1, .int p2] (wTa g a_ta ta ++ []) (wTa g a_ta o_ta ++ []) := by
  refine start2 (y := yX8_addWord) (cc := cX8_addWord) (n := 6) (av := [.ref (a_ta 0), .int p1, .int p2]) (ws := (wTa g a_ta ta ++ [])) (Qc := fun sz => QV g (wTa g a_ta ta ++ []) (wTa g a_ta o_ta ++ []) sz) (by decide) rfl ?_
  intro p e s m args below meth c ls Q A ha hQ hA X hl hI hin
  have X : Cx p s m args meth c cX8_addWord 6 RX8 none := X
  have hl : lv_has ls 6 [(0, .ref (a_ta 0)), (1, .int p1), (2, .int p2)] := hl
  obtain ⟨hx, hb, hml, hown, ht, hr, hlk⟩ := id X
  clear ha hin
  have L_57 : ∀ (x1 : Int32) (x3 : Int64) (x5 : Int32) (ta : TaS) (H : Heap) (locs : List Loc) (ls : Array Slot), lv_has ls 6 [(0, .ref (a_ta 0)), (1, .int x1), (3, .long x3), (5, .int x5)] → In g A s.heap s (wTa g a_ta ta ++ []) H locs → f_X8_addWord_L57 x1 x3 x5 ta = some (o_ta) → W p l e rm_X8_addWord s m args below meth c H locs 0 0 Q (F0 m 57 ls []) := by
    intro x1 x3 x5 ta H locs ls hl hI hf
    unfold f_X8_addWord_L57 at hf
    refine lv_aload_n hx hb dX8_addWord_57 rfl (lv_at hl 0 rfl) ?_
    refine lv_iconst (v := 1) hx hb dX8_addWord_58 (by decide) ?_
    refine lv_iload_n hx hb dX8_addWord_59 rfl (lv_at hl 1 rfl) ?_
    refine lv_iload hx hb dX8_addWord_60 (lv_at hl 3 rfl) ?_
    refine lv_lload_n hx hb dX8_addWord_62 rfl (lv_at hl 2 rfl) ?_
    obtain ⟨ta_4, hc_, hf⟩ := bd1_some hf
    refine call_Vv X hI (Cj.keep Cj.id) (c_X8_addToken l g a_ta ta (1 : Int32) x1 x5 x3 ta_4 hc_) ⟨rfl, rfl⟩ ⟨ht _ w_755, w_758, ht _ w_141, lk_X8_addToken⟩ w_757 w_3 rfl rfl rfl hl rfl rfl dX8_addWord_63 rfl rfl rfl rfl (fun H locs hI => ?_)
    cases hf
    exact end_v hQ hA X hI dX8_addWord_66
  have L_32 : ∀ (n_ : Nat) (x1 : Int32) (x3 : Int64) (x5 : Int32) (ta : TaS) (H : Heap) (locs : List Loc) (ls : Array Slot), lv_has ls 6 [(0, .ref (a_ta 0)), (1, .int x1), (3, .long x3), (5, .int x5)] → In g A s.heap s (wTa g a_ta ta ++ []) H locs → f_X8_addWord_L32 n_ x1 x3 x5 ta = some (o_ta) → W p l e rm_X8_addWord s m args below meth c H locs 0 0 Q (F0 m 32 ls []) := by
    intro n_
    induction n_ with
    | zero =>
      intro x1 x3 x5 ta H locs ls hl hI hf
      rw [f_X8_addWord_L32] at hf
      cases hf
    | succ n_ ih =>
      intro x1 x3 x5 ta H locs ls hl hI hf
      rw [f_X8_addWord_L32] at hf
      refine lv_iload hx hb dX8_addWord_32 (lv_at hl 3 rfl) ?_
      refine lv_bipush (v := 11) hx hb dX8_addWord_34 (by decide) ?_
      refine lv_icmp_ge (tgt := 57) hx hb dX8_addWord_36 (by decide) (fun h_ => ?_) (fun h_ => ?_)
      · replace hf := if_t h_ hf
        exact L_57 x1 x3 x5 ta _ _ _ hl hI hf
      · replace hf := if_f h_ hf
        refine lv_aload_n hx hb dX8_addWord_39 rfl (lv_at hl 0 rfl) ?_
        refine g_Ta_words X hI has_Ta.l (X.fl w_252) dX8_addWord_40 ?_
        refine lv_iload hx hb dX8_addWord_43 (lv_at hl 3 rfl) ?_
        obtain ⟨h_, hf⟩ := ck_someM hf
        refine ld_J X hI has_Ta_words.l h_ dX8_addWord_45 ?_
        refine lv_lload_n hx hb dX8_addWord_46 rfl (lv_at hl 2 rfl) ?_
        refine W.lcmp hx hb dX8_addWord_47 ?_
        refine lv_if_eq (tgt := 57) hx hb dX8_addWord_48 (by decide) (fun h_ => ?_) (fun h_ => ?_)
        · replace hf := if_t h_ hf
          exact L_57 x1 x3 x5 ta _ _ _ hl hI hf
        · replace hf := if_f h_ hf
          obtain ⟨v_3, e_⟩ : ∃ y : Int32, y = (x5 + (1 : Int32)) := ⟨_, rfl⟩
          replace hf := lt_to e_ hf
          refine lv_iinc (v := v_3) (lv' := [(5, .int v_3), (0, .ref (a_ta 0)), (1, .int x1), (3, .long x3)]) hx hb dX8_addWord_51 hl (k := 3) rfl (by rw [e_]; rfl) (by decide) rfl (fun ls hl => ?_)
          clear e_
          refine lv_goto (tgt := 32) hx hb dX8_addWord_54 (by decide) ?_
          exact ih x1 x3 v_3 ta _ _ _ (lv_sub hl [1, 2, 3, 0] rfl) hI hf
  have L_5 : ∀ (n_ : Nat) (x1 : Int32) (x2 : Int32) (x3 : Int64) (x5 : Int32) (ta : TaS) (H : Heap) (locs : List Loc) (ls : Array Slot), lv_has ls 6 [(0, .ref (a_ta 0)), (1, .int x1), (2, .int x2), (3, .long x3), (5, .int x5)] → In g A s.heap s (wTa g a_ta ta ++ []) H locs → f_X8_addWord_L5 n_ x1 x2 x3 x5 ta = some (o_ta) → W p l e rm_X8_addWord s m args below meth c H locs 0 0 Q (F0 m 5 ls []) := by
    intro n_
    induction n_ with
    | zero =>
      intro x1 x2 x3 x5 ta H locs ls hl hI hf
      rw [f_X8_addWord_L5] at hf
      cases hf
    | succ n_ ih =>
      intro x1 x2 x3 x5 ta H locs ls hl hI hf
      rw [f_X8_addWord_L5] at hf
      refine lv_iload hx hb dX8_addWord_5 (lv_at hl 4 rfl) ?_
      refine lv_iload_n hx hb dX8_addWord_7 rfl (lv_at hl 2 rfl) ?_
      refine lv_icmp_ge (tgt := 29) hx hb dX8_addWord_8 (by decide) (fun h_ => ?_) (fun h_ => ?_)
      · replace hf := if_t h_ hf
        refine lv_iconst (v := 0) hx hb dX8_addWord_29 (by decide) ?_
        refine lv_istore (lv' := [(5, .int (0 : Int32)), (0, .ref (a_ta 0)), (1, .int x1), (2, .int x2), (3, .long x3)]) hx hb dX8_addWord_30 hl (by decide) rfl (fun ls hl => ?_)
        exact L_32 FU x1 x3 (0 : Int32) ta _ _ _ (lv_sub hl [1, 2, 4, 0] rfl) hI hf
      · replace hf := if_f h_ hf
        refine lv_lload_n hx hb dX8_addWord_11 rfl (lv_at hl 3 rfl) ?_
        refine lv_aload_n hx hb dX8_addWord_12 rfl (lv_at hl 0 rfl) ?_
        refine g_Ta_bytes X hI has_Ta.l (X.fl w_249) dX8_addWord_13 ?_
        refine lv_iload hx hb dX8_addWord_16 (lv_at hl 4 rfl) ?_
        obtain ⟨h_, hf⟩ := ck_someM hf
        refine ld_I X hI has_Ta_bytes.l h_ dX8_addWord_18 ?_
        obtain ⟨r_1, hc_, hf⟩ := bd1_some hf
        refine call_Sl X hI Cj.nil (c_X8_withLetter l g x3 (Ta_bytes ta (Int32.toNatClampNeg x5)) r_1 hc_) ⟨rfl, rfl⟩ ⟨ht _ w_236, w_238, ht _ w_141, lk_X8_withLetter⟩ w_237 rfl hl rfl rfl dX8_addWord_19 rfl rfl rfl rfl (fun H locs hI => ?_)
        refine lv_lstore_n (lv' := [(3, .long r_1), (0, .ref (a_ta 0)), (1, .int x1), (2, .int x2), (5, .int x5)]) hx hb dX8_addWord_22 rfl hl (by decide) rfl (fun ls hl => ?_)
        obtain ⟨v_2, e_⟩ : ∃ y : Int32, y = (x5 + (1 : Int32)) := ⟨_, rfl⟩
        replace hf := lt_to e_ hf
        refine lv_iinc (v := v_2) (lv' := [(5, .int v_2), (3, .long r_1), (0, .ref (a_ta 0)), (1, .int x1), (2, .int x2)]) hx hb dX8_addWord_23 hl (k := 4) rfl (by rw [e_]; rfl) (by decide) rfl (fun ls hl => ?_)
        clear e_
        refine lv_goto (tgt := 5) hx hb dX8_addWord_26 (by decide) ?_
        exact ih x1 x2 r_1 v_2 ta _ _ _ (lv_sub hl [2, 3, 4, 1, 0] rfl) hI hf
  unfold f_X8_addWord at hf
  refine lv_lconst (v := 0) hx hb dX8_addWord_0 (by decide) ?_
  refine lv_lstore_n (lv' := [(3, .long (0 : Int64)), (0, .ref (a_ta 0)), (1, .int p1), (2, .int p2)]) hx hb dX8_addWord_1 rfl hl (by decide) rfl (fun ls hl => ?_)
  refine lv_iload_n hx hb dX8_addWord_2 rfl (lv_at hl 2 rfl) ?_
  refine lv_istore (lv' := [(5, .int p1), (3, .long (0 : Int64)), (0, .ref (a_ta 0)), (1, .int p1), (2, .int p2)]) hx hb dX8_addWord_3 hl (by decide) rfl (fun ls hl => ?_)
  exact L_5 FU p1 p2 (0 : Int64) p1 ta _ _ _ (lv_sub hl [2, 3, 4, 1, 0] rfl) hI hf
abbrev rm_X8_cutOne : Room := { frames := 2, cells := 0, slots := 0, locals := 50 }
set_option maxRecDepth 20000 in
theorem c_X8_cutOne (l : Launch) (g : GT) (a_ta : Nat → Nat) (ta : TaS) (p1 : Int32) (p2 : Int32) (r_ : Int32) (o_ta : TaS) (hf : f_X8_cutOne ta p1 p2 = some (r_, o_ta)) : CI l yX8_cutOne cX8_cutOne 5 (some .int) rm_X8_cutOne g [.ref (a_ta 0), .int p1, .int p2] (wTa g a_ta ta ++ []) (wTa g a_ta o_ta ++ []) r_ := by
  refine start2 (y := yX8_cutOne) (cc := cX8_cutOne) (n := 5) (av := [.ref (a_ta 0), .int p1, .int p2]) (ws := (wTa g a_ta ta ++ [])) (Qc := fun sz => QI g (wTa g a_ta ta ++ []) (wTa g a_ta o_ta ++ []) r_ sz) (by decide) rfl ?_
  intro p e s m args below meth c ls Q A ha hQ hA X hl hI hin
  have X : Cx p s m args meth c cX8_cutOne 5 RX8 (some .int) := X
  have hl : lv_has ls 5 [(0, .ref (a_ta 0)), (1, .int p1), (2, .int p2)] := hl
  obtain ⟨hx, hb, hml, hown, ht, hr, hlk⟩ := id X
  clear ha hin
  have L_130 : ∀ (x1 : Int32) (x2 : Int32) (ta : TaS) (H : Heap) (locs : List Loc) (ls : Array Slot), lv_has ls 5 [(0, .ref (a_ta 0)), (1, .int x1), (2, .int x2)] → In g A s.heap s (wTa g a_ta ta ++ []) H locs → f_X8_cutOne_L130 x1 x2 ta = some (r_, o_ta) → W p l e rm_X8_cutOne s m args below meth c H locs 0 0 Q (F0 m 130 ls []) := by
    intro x1 x2 ta H locs ls hl hI hf
    unfold f_X8_cutOne_L130 at hf
    refine lv_aload_n hx hb dX8_cutOne_130 rfl (lv_at hl 0 rfl) ?_
    refine lv_iconst (v := 4) hx hb dX8_cutOne_131 (by decide) ?_
    refine lv_iload_n hx hb dX8_cutOne_132 rfl (lv_at hl 1 rfl) ?_
    refine lv_iconst (v := 0) hx hb dX8_cutOne_133 (by decide) ?_
    refine lv_lconst (v := 0) hx hb dX8_cutOne_134 (by decide) ?_
    obtain ⟨ta_6, hc_, hf⟩ := bd1_some hf
    refine call_Vv X hI (Cj.keep Cj.id) (c_X8_addToken l g a_ta ta (4 : Int32) x1 (0 : Int32) (0 : Int64) ta_6 hc_) ⟨rfl, rfl⟩ ⟨ht _ w_755, w_758, ht _ w_141, lk_X8_addToken⟩ w_757 w_3 rfl rfl rfl hl rfl rfl dX8_cutOne_135 rfl rfl rfl rfl (fun H locs hI => ?_)
    refine lv_iload_n hx hb dX8_cutOne_138 rfl (lv_at hl 2 rfl) ?_
    refine lv_iconst (v := 1) hx hb dX8_cutOne_139 (by decide) ?_
    refine lv_iadd hx hb dX8_cutOne_140 ?_
    cases hf
    exact end_i hQ hA X hI dX8_cutOne_141
  have L_44 : ∀ (x1 : Int32) (x2 : Int32) (x4 : Int32) (ta : TaS) (H : Heap) (locs : List Loc) (ls : Array Slot), lv_has ls 5 [(0, .ref (a_ta 0)), (1, .int x1), (2, .int x2), (4, .int x4)] → In g A s.heap s (wTa g a_ta ta ++ []) H locs → f_X8_cutOne_L44 x1 x2 x4 ta = some (r_, o_ta) → W p l e rm_X8_cutOne s m args below meth c H locs 0 0 Q (F0 m 44 ls []) := by
    intro x1 x2 x4 ta H locs ls hl hI hf
    unfold f_X8_cutOne_L44 at hf
    refine lv_iload hx hb dX8_cutOne_44 (lv_at hl 3 rfl) ?_
    refine lv_iload_n hx hb dX8_cutOne_46 rfl (lv_at hl 1 rfl) ?_
    refine lv_isub hx hb dX8_cutOne_47 ?_
    refine lv_bipush (v := 8) hx hb dX8_cutOne_48 (by decide) ?_
    refine lv_icmp_gt (tgt := 130) hx hb dX8_cutOne_50 (by decide) (fun h_ => ?_) (fun h_ => ?_)
    · replace hf := if_t h_ hf
      exact L_130 x1 x2 ta _ _ _ (lv_sub hl [0, 1, 2] rfl) hI hf
    · replace hf := if_f h_ hf
      refine lv_aload_n hx hb dX8_cutOne_53 rfl (lv_at hl 0 rfl) ?_
      refine lv_iload_n hx hb dX8_cutOne_54 rfl (lv_at hl 1 rfl) ?_
      refine lv_iload hx hb dX8_cutOne_55 (lv_at hl 3 rfl) ?_
      obtain ⟨ta_12, hc_, hf⟩ := bd1_some hf
      refine call_Vv X hI (Cj.keep Cj.id) (c_X8_addWord l g a_ta ta x1 x4 ta_12 hc_) ⟨rfl, rfl⟩ ⟨ht _ w_751, w_754, ht _ w_141, lk_X8_addWord⟩ w_753 w_2 rfl rfl rfl hl rfl rfl dX8_cutOne_57 rfl rfl rfl rfl (fun H locs hI => ?_)
      refine lv_iload hx hb dX8_cutOne_60 (lv_at hl 3 rfl) ?_
      cases hf
      exact end_i hQ hA X hI dX8_cutOne_62
  have L_19 : ∀ (n_ : Nat) (x1 : Int32) (x2 : Int32) (x4 : Int32) (ta : TaS) (H : Heap) (locs : List Loc) (ls : Array Slot), lv_has ls 5 [(0, .ref (a_ta 0)), (1, .int x1), (2, .int x2), (4, .int x4)] → In g A s.heap s (wTa g a_ta ta ++ []) H locs → f_X8_cutOne_L19 n_ x1 x2 x4 ta = some (r_, o_ta) → W p l e rm_X8_cutOne s m args below meth c H locs 0 0 Q (F0 m 19 ls []) := by
    intro n_
    induction n_ with
    | zero =>
      intro x1 x2 x4 ta H locs ls hl hI hf
      rw [f_X8_cutOne_L19] at hf
      cases hf
    | succ n_ ih =>
      intro x1 x2 x4 ta H locs ls hl hI hf
      rw [f_X8_cutOne_L19] at hf
      refine lv_iload hx hb dX8_cutOne_19 (lv_at hl 3 rfl) ?_
      refine lv_iload_n hx hb dX8_cutOne_21 rfl (lv_at hl 2 rfl) ?_
      refine lv_icmp_ge (tgt := 44) hx hb dX8_cutOne_22 (by decide) (fun h_ => ?_) (fun h_ => ?_)
      · replace hf := if_t h_ hf
        exact L_44 x1 x2 x4 ta _ _ _ hl hI hf
      · replace hf := if_f h_ hf
        refine lv_aload_n hx hb dX8_cutOne_25 rfl (lv_at hl 0 rfl) ?_
        refine g_Ta_bytes X hI has_Ta.l (X.fl w_249) dX8_cutOne_26 ?_
        refine lv_iload hx hb dX8_cutOne_29 (lv_at hl 3 rfl) ?_
        obtain ⟨h_, hf⟩ := ck_someM hf
        refine ld_I X hI has_Ta_bytes.l h_ dX8_cutOne_31 ?_
        obtain ⟨r_9, hc_, hf⟩ := bd1_some hf
        refine call_Si X hI Cj.nil (c_X8_isLetter l g (Ta_bytes ta (Int32.toNatClampNeg x4)) r_9 hc_) ⟨rfl, rfl⟩ ⟨ht _ w_748, w_750, ht _ w_141, lk_X8_isLetter⟩ w_749 rfl hl rfl rfl dX8_cutOne_32 rfl rfl rfl rfl (fun H locs hI => ?_)
        refine lv_if_eq (tgt := 44) hx hb dX8_cutOne_35 (by decide) (fun h_ => ?_) (fun h_ => ?_)
        · replace hf := if_t h_ hf
          exact L_44 x1 x2 x4 ta _ _ _ hl hI hf
        · replace hf := if_f h_ hf
          obtain ⟨v_10, e_⟩ : ∃ y : Int32, y = (x4 + (1 : Int32)) := ⟨_, rfl⟩
          replace hf := lt_to e_ hf
          refine lv_iinc (v := v_10) (lv' := [(4, .int v_10), (0, .ref (a_ta 0)), (1, .int x1), (2, .int x2)]) hx hb dX8_cutOne_38 hl (k := 3) rfl (by rw [e_]; rfl) (by decide) rfl (fun ls hl => ?_)
          clear e_
          refine lv_goto (tgt := 19) hx hb dX8_cutOne_41 (by decide) ?_
          exact ih x1 x2 v_10 ta _ _ _ (lv_sub hl [1, 2, 3, 0] rfl) hI hf
  have L_95 : ∀ (x1 : Int32) (x2 : Int32) (x4 : Int32) (ta : TaS) (H : Heap) (locs : List Loc) (ls : Array Slot), lv_has ls 5 [(0, .ref (a_ta 0)), (1, .int x1), (2, .int x2), (4, .int x4)] → In g A s.heap s (wTa g a_ta ta ++ []) H locs → f_X8_cutOne_L95 x1 x2 x4 ta = some (r_, o_ta) → W p l e rm_X8_cutOne s m args below meth c H locs 0 0 Q (F0 m 95 ls []) := by
    intro x1 x2 x4 ta H locs ls hl hI hf
    unfold f_X8_cutOne_L95 at hf
    refine lv_iload hx hb dX8_cutOne_95 (lv_at hl 3 rfl) ?_
    refine lv_iload_n hx hb dX8_cutOne_97 rfl (lv_at hl 1 rfl) ?_
    refine lv_isub hx hb dX8_cutOne_98 ?_
    refine lv_iconst (v := 3) hx hb dX8_cutOne_99 (by decide) ?_
    refine lv_icmp_gt (tgt := 130) hx hb dX8_cutOne_100 (by decide) (fun h_ => ?_) (fun h_ => ?_)
    · replace hf := if_t h_ hf
      exact L_130 x1 x2 ta _ _ _ (lv_sub hl [0, 1, 2] rfl) hI hf
    · replace hf := if_f h_ hf
      refine lv_aload_n hx hb dX8_cutOne_103 rfl (lv_at hl 0 rfl) ?_
      refine lv_iload_n hx hb dX8_cutOne_104 rfl (lv_at hl 1 rfl) ?_
      refine lv_iload hx hb dX8_cutOne_105 (lv_at hl 3 rfl) ?_
      obtain ⟨ta_11, hc_, hf⟩ := bd1_some hf
      refine call_Vv X hI (Cj.keep Cj.id) (c_X8_addWhole l g a_ta ta x1 x4 ta_11 hc_) ⟨rfl, rfl⟩ ⟨ht _ w_762, w_765, ht _ w_141, lk_X8_addWhole⟩ w_764 w_4 rfl rfl rfl hl rfl rfl dX8_cutOne_107 rfl rfl rfl rfl (fun H locs hI => ?_)
      refine lv_iload hx hb dX8_cutOne_110 (lv_at hl 3 rfl) ?_
      cases hf
      exact end_i hQ hA X hI dX8_cutOne_112
  have L_70 : ∀ (n_ : Nat) (x1 : Int32) (x2 : Int32) (x4 : Int32) (ta : TaS) (H : Heap) (locs : List Loc) (ls : Array Slot), lv_has ls 5 [(0, .ref (a_ta 0)), (1, .int x1), (2, .int x2), (4, .int x4)] → In g A s.heap s (wTa g a_ta ta ++ []) H locs → f_X8_cutOne_L70 n_ x1 x2 x4 ta = some (r_, o_ta) → W p l e rm_X8_cutOne s m args below meth c H locs 0 0 Q (F0 m 70 ls []) := by
    intro n_
    induction n_ with
    | zero =>
      intro x1 x2 x4 ta H locs ls hl hI hf
      rw [f_X8_cutOne_L70] at hf
      cases hf
    | succ n_ ih =>
      intro x1 x2 x4 ta H locs ls hl hI hf
      rw [f_X8_cutOne_L70] at hf
      refine lv_iload hx hb dX8_cutOne_70 (lv_at hl 3 rfl) ?_
      refine lv_iload_n hx hb dX8_cutOne_72 rfl (lv_at hl 2 rfl) ?_
      refine lv_icmp_ge (tgt := 95) hx hb dX8_cutOne_73 (by decide) (fun h_ => ?_) (fun h_ => ?_)
      · replace hf := if_t h_ hf
        exact L_95 x1 x2 x4 ta _ _ _ hl hI hf
      · replace hf := if_f h_ hf
        refine lv_aload_n hx hb dX8_cutOne_76 rfl (lv_at hl 0 rfl) ?_
        refine g_Ta_bytes X hI has_Ta.l (X.fl w_249) dX8_cutOne_77 ?_
        refine lv_iload hx hb dX8_cutOne_80 (lv_at hl 3 rfl) ?_
        obtain ⟨h_, hf⟩ := ck_someM hf
        refine ld_I X hI has_Ta_bytes.l h_ dX8_cutOne_82 ?_
        obtain ⟨r_7, hc_, hf⟩ := bd1_some hf
        refine call_Si X hI Cj.nil (c_X8_isFigure l g (Ta_bytes ta (Int32.toNatClampNeg x4)) r_7 hc_) ⟨rfl, rfl⟩ ⟨ht _ w_759, w_761, ht _ w_141, lk_X8_isFigure⟩ w_760 rfl hl rfl rfl dX8_cutOne_83 rfl rfl rfl rfl (fun H locs hI => ?_)
        refine lv_if_eq (tgt := 95) hx hb dX8_cutOne_86 (by decide) (fun h_ => ?_) (fun h_ => ?_)
        · replace hf := if_t h_ hf
          exact L_95 x1 x2 x4 ta _ _ _ hl hI hf
        · replace hf := if_f h_ hf
          obtain ⟨v_8, e_⟩ : ∃ y : Int32, y = (x4 + (1 : Int32)) := ⟨_, rfl⟩
          replace hf := lt_to e_ hf
          refine lv_iinc (v := v_8) (lv' := [(4, .int v_8), (0, .ref (a_ta 0)), (1, .int x1), (2, .int x2)]) hx hb dX8_cutOne_89 hl (k := 3) rfl (by rw [e_]; rfl) (by decide) rfl (fun ls hl => ?_)
          clear e_
          refine lv_goto (tgt := 70) hx hb dX8_cutOne_92 (by decide) ?_
          exact ih x1 x2 v_8 ta _ _ _ (lv_sub hl [1, 2, 3, 0] rfl) hI hf
  unfold f_X8_cutOne at hf
  refine lv_aload_n hx hb dX8_cutOne_0 rfl (lv_at hl 0 rfl) ?_
  refine g_Ta_bytes X hI has_Ta.l (X.fl w_249) dX8_cutOne_1 ?_
  refine lv_iload_n hx hb dX8_cutOne_4 rfl (lv_at hl 1 rfl) ?_
  obtain ⟨h_, hf⟩ := ck_someM hf
  refine ld_I X hI has_Ta_bytes.l h_ dX8_cutOne_5 ?_
  refine lv_topi (fun v_1 e_ => ?_)
  replace hf := lt_to e_ hf
  clear e_
  refine lv_istore_n (lv' := [(3, .int v_1), (0, .ref (a_ta 0)), (1, .int p1), (2, .int p2)]) hx hb dX8_cutOne_6 rfl hl (by decide) rfl (fun ls hl => ?_)
  refine lv_iload_n hx hb dX8_cutOne_7 rfl (lv_at hl 2 rfl) ?_
  refine lv_iconst (v := 1) hx hb dX8_cutOne_8 (by decide) ?_
  refine lv_iadd hx hb dX8_cutOne_9 ?_
  refine lv_topi (fun v_2 e_ => ?_)
  replace hf := lt_to e_ hf
  clear e_
  refine lv_istore (lv' := [(4, .int v_2), (3, .int v_1), (0, .ref (a_ta 0)), (1, .int p1), (2, .int p2)]) hx hb dX8_cutOne_10 hl (by decide) rfl (fun ls hl => ?_)
  refine lv_iload_n hx hb dX8_cutOne_12 rfl (lv_at hl 1 rfl) ?_
  obtain ⟨r_3, hc_, hf⟩ := bd1_some hf
  refine call_Si X hI Cj.nil (c_X8_isLetter l g v_1 r_3 hc_) ⟨rfl, rfl⟩ ⟨ht _ w_748, w_750, ht _ w_141, lk_X8_isLetter⟩ w_749 rfl hl rfl rfl dX8_cutOne_13 rfl rfl rfl rfl (fun H locs hI => ?_)
  refine lv_if_eq (tgt := 63) hx hb dX8_cutOne_16 (by decide) (fun h_ => ?_) (fun h_ => ?_)
  · replace hf := if_t h_ hf
    refine lv_iload_n hx hb dX8_cutOne_63 rfl (lv_at hl 1 rfl) ?_
    obtain ⟨r_4, hc_, hf⟩ := bd1_some hf
    refine call_Si X hI Cj.nil (c_X8_isFigure l g v_1 r_4 hc_) ⟨rfl, rfl⟩ ⟨ht _ w_759, w_761, ht _ w_141, lk_X8_isFigure⟩ w_760 rfl hl rfl rfl dX8_cutOne_64 rfl rfl rfl rfl (fun H locs hI => ?_)
    refine lv_if_eq (tgt := 113) hx hb dX8_cutOne_67 (by decide) (fun h_ => ?_) (fun h_ => ?_)
    · replace hf := if_t h_ hf
      refine lv_iload_n hx hb dX8_cutOne_113 rfl (lv_at hl 1 rfl) ?_
      refine lv_bipush (v := 59) hx hb dX8_cutOne_114 (by decide) ?_
      refine lv_icmp_ne (tgt := 130) hx hb dX8_cutOne_116 (by decide) (fun h_ => ?_) (fun h_ => ?_)
      · replace hf := if_f h_ hf
        exact L_130 p1 p2 ta _ _ _ (lv_sub hl [2, 3, 4] rfl) hI hf
      · replace hf := if_t h_ hf
        refine lv_aload_n hx hb dX8_cutOne_119 rfl (lv_at hl 2 rfl) ?_
        refine lv_iconst (v := 3) hx hb dX8_cutOne_120 (by decide) ?_
        refine lv_iload_n hx hb dX8_cutOne_121 rfl (lv_at hl 3 rfl) ?_
        refine lv_iconst (v := 0) hx hb dX8_cutOne_122 (by decide) ?_
        refine lv_lconst (v := 0) hx hb dX8_cutOne_123 (by decide) ?_
        obtain ⟨ta_5, hc_, hf⟩ := bd1_some hf
        refine call_Vv X hI (Cj.keep Cj.id) (c_X8_addToken l g a_ta ta (3 : Int32) p1 (0 : Int32) (0 : Int64) ta_5 hc_) ⟨rfl, rfl⟩ ⟨ht _ w_755, w_758, ht _ w_141, lk_X8_addToken⟩ w_757 w_3 rfl rfl rfl hl rfl rfl dX8_cutOne_124 rfl rfl rfl rfl (fun H locs hI => ?_)
        refine lv_iload hx hb dX8_cutOne_127 (lv_at hl 0 rfl) ?_
        cases hf
        exact end_i hQ hA X hI dX8_cutOne_129
    · replace hf := if_f h_ hf
      exact L_70 FU p1 p2 v_2 ta _ _ _ (lv_sub hl [2, 3, 4, 0] rfl) hI hf
  · replace hf := if_f h_ hf
    exact L_19 FU p1 p2 v_2 ta _ _ _ (lv_sub hl [2, 3, 4, 0] rfl) hI hf
abbrev rm_X8_cut : Room := { frames := 3, cells := 0, slots := 0, locals := 74 }
set_option maxRecDepth 20000 in
theorem c_X8_cut (l : Launch) (g : GT) (a_ta : Nat → Nat) (ta : TaS) (p1 : Int32) (o_ta : TaS) (hf : f_X8_cut ta p1 = some (o_ta)) : CV l yX8_cut cX8_cut 5 none rm_X8_cut g [.ref (a_ta 0), .int p1] (wTa g a_ta ta ++ []) (wTa g a_ta o_ta ++ []) := by
  refine start2 (y := yX8_cut) (cc := cX8_cut) (n := 5) (av := [.ref (a_ta 0), .int p1]) (ws := (wTa g a_ta ta ++ [])) (Qc := fun sz => QV g (wTa g a_ta ta ++ []) (wTa g a_ta o_ta ++ []) sz) (by decide) rfl ?_
  intro p e s m args below meth c ls Q A ha hQ hA X hl hI hin
  have X : Cx p s m args meth c cX8_cut 5 RX8 none := X
  have hl : lv_has ls 5 [(0, .ref (a_ta 0)), (1, .int p1)] := hl
  obtain ⟨hx, hb, hml, hown, ht, hr, hlk⟩ := id X
  clear ha hin
  have L_70 : ∀ (x2 : Int32) (x4 : Int32) (t0i : Int32) (ta : TaS) (k18 : (Int32) → (Int32) → (Int32) → (TaS) → Option ((TaS))) (H : Heap) (locs : List Loc) (ls : Array Slot), lv_has ls 5 [(0, .ref (a_ta 0)), (2, .int x2), (4, .int x4)] → In g A s.heap s (wTa g a_ta ta ++ []) H locs → f_X8_cut_L70 x2 x4 t0i ta k18 = some (o_ta) → (∀ (x2 : Int32) (x3 : Int32) (x4 : Int32) (ta : TaS) (H : Heap) (locs : List Loc) (ls : Array Slot), lv_has ls 5 [(0, .ref (a_ta 0)), (2, .int x2), (3, .int x3), (4, .int x4)] → In g A s.heap s (wTa g a_ta ta ++ []) H locs → k18 x2 x3 x4 ta = some (o_ta) → W p l e rm_X8_cut s m args below meth c H locs 0 0 Q (F0 m 18 ls [])) → W p l e rm_X8_cut s m args below meth c H locs 0 0 Q (F0 m 70 ls [.int t0i]) := by
    intro x2 x4 t0i ta k18 H locs ls hl hI hf hk18
    unfold f_X8_cut_L70 at hf
    refine lv_istore_n (lv' := [(3, .int t0i), (0, .ref (a_ta 0)), (2, .int x2), (4, .int x4)]) hx hb dX8_cut_70 rfl hl (by decide) rfl (fun ls hl => ?_)
    obtain ⟨v_9, e_⟩ : ∃ y : Int32, y = (x4 + (1 : Int32)) := ⟨_, rfl⟩
    replace hf := lt_to e_ hf
    refine lv_iinc (v := v_9) (lv' := [(4, .int v_9), (3, .int t0i), (0, .ref (a_ta 0)), (2, .int x2)]) hx hb dX8_cut_71 hl (k := 3) rfl (by rw [e_]; rfl) (by decide) rfl (fun ls hl => ?_)
    clear e_
    refine lv_goto (tgt := 18) hx hb dX8_cut_74 (by decide) ?_
    exact hk18 x2 t0i v_9 ta _ _ _ (lv_sub hl [2, 3, 1, 0] rfl) hI hf
  have L_51 : ∀ (x2 : Int32) (x3 : Int32) (x4 : Int32) (ta : TaS) (k18 : (Int32) → (Int32) → (Int32) → (TaS) → Option ((TaS))) (H : Heap) (locs : List Loc) (ls : Array Slot), lv_has ls 5 [(0, .ref (a_ta 0)), (2, .int x2), (3, .int x3), (4, .int x4)] → In g A s.heap s (wTa g a_ta ta ++ []) H locs → f_X8_cut_L51 x2 x3 x4 ta k18 = some (o_ta) → (∀ (x2 : Int32) (x3 : Int32) (x4 : Int32) (ta : TaS) (H : Heap) (locs : List Loc) (ls : Array Slot), lv_has ls 5 [(0, .ref (a_ta 0)), (2, .int x2), (3, .int x3), (4, .int x4)] → In g A s.heap s (wTa g a_ta ta ++ []) H locs → k18 x2 x3 x4 ta = some (o_ta) → W p l e rm_X8_cut s m args below meth c H locs 0 0 Q (F0 m 18 ls [])) → W p l e rm_X8_cut s m args below meth c H locs 0 0 Q (F0 m 51 ls []) := by
    intro x2 x3 x4 ta k18 H locs ls hl hI hf hk18
    unfold f_X8_cut_L51 at hf
    refine lv_iload_n hx hb dX8_cut_51 rfl (lv_at hl 2 rfl) ?_
    refine lv_iload_n hx hb dX8_cut_52 rfl (lv_at hl 1 rfl) ?_
    refine lv_icmp_ge (tgt := 65) hx hb dX8_cut_53 (by decide) (fun h_ => ?_) (fun h_ => ?_)
    · replace hf := if_t h_ hf
      refine lv_aload_n hx hb dX8_cut_65 rfl (lv_at hl 0 rfl) ?_
      refine lv_iload_n hx hb dX8_cut_66 rfl (lv_at hl 1 rfl) ?_
      obtain ⟨r_5, ta_6, hc_, hf⟩ := bd2_some hf
      refine call_Vi X hI (Cj.keep Cj.id) (c_X8_ends l g a_ta ta x2 r_5 ta_6 hc_) ⟨rfl, rfl⟩ ⟨ht _ w_766, w_769, ht _ w_141, lk_X8_ends⟩ w_768 w_5 rfl rfl rfl hl rfl rfl dX8_cut_67 rfl rfl rfl rfl (fun H locs hI => ?_)
      exact L_70 x2 x4 r_5 ta_6 _ _ _ _ (lv_sub hl [0, 1, 3] rfl) hI hf hk18
    · replace hf := if_f h_ hf
      refine lv_aload_n hx hb dX8_cut_56 rfl (lv_at hl 0 rfl) ?_
      refine lv_iload_n hx hb dX8_cut_57 rfl (lv_at hl 2 rfl) ?_
      refine lv_iload_n hx hb dX8_cut_58 rfl (lv_at hl 1 rfl) ?_
      obtain ⟨r_7, ta_8, hc_, hf⟩ := bd2_some hf
      refine call_Vi X hI (Cj.keep Cj.id) (c_X8_cutOne l g a_ta ta x3 x2 r_7 ta_8 hc_) ⟨rfl, rfl⟩ ⟨ht _ w_744, w_747, ht _ w_141, lk_X8_cutOne⟩ w_746 w_1 rfl rfl rfl hl rfl rfl dX8_cut_59 rfl rfl rfl rfl (fun H locs hI => ?_)
      refine lv_goto (tgt := 70) hx hb dX8_cut_62 (by decide) ?_
      exact L_70 x2 x4 r_7 ta_8 _ _ _ _ (lv_sub hl [0, 1, 3] rfl) hI hf hk18
  have L_29 : ∀ (n_ : Nat) (x2 : Int32) (x3 : Int32) (x4 : Int32) (ta : TaS) (k18 : (Int32) → (Int32) → (Int32) → (TaS) → Option ((TaS))) (H : Heap) (locs : List Loc) (ls : Array Slot), lv_has ls 5 [(0, .ref (a_ta 0)), (2, .int x2), (3, .int x3), (4, .int x4)] → In g A s.heap s (wTa g a_ta ta ++ []) H locs → f_X8_cut_L29 n_ x2 x3 x4 ta k18 = some (o_ta) → (∀ (x2 : Int32) (x3 : Int32) (x4 : Int32) (ta : TaS) (H : Heap) (locs : List Loc) (ls : Array Slot), lv_has ls 5 [(0, .ref (a_ta 0)), (2, .int x2), (3, .int x3), (4, .int x4)] → In g A s.heap s (wTa g a_ta ta ++ []) H locs → k18 x2 x3 x4 ta = some (o_ta) → W p l e rm_X8_cut s m args below meth c H locs 0 0 Q (F0 m 18 ls [])) → W p l e rm_X8_cut s m args below meth c H locs 0 0 Q (F0 m 29 ls []) := by
    intro n_
    induction n_ with
    | zero =>
      intro x2 x3 x4 ta k18 H locs ls hl hI hf hk18
      rw [f_X8_cut_L29] at hf
      cases hf
    | succ n_ ih =>
      intro x2 x3 x4 ta k18 H locs ls hl hI hf hk18
      rw [f_X8_cut_L29] at hf
      refine lv_iload_n hx hb dX8_cut_29 rfl (lv_at hl 2 rfl) ?_
      refine lv_iload_n hx hb dX8_cut_30 rfl (lv_at hl 1 rfl) ?_
      refine lv_icmp_ge (tgt := 51) hx hb dX8_cut_31 (by decide) (fun h_ => ?_) (fun h_ => ?_)
      · replace hf := if_t h_ hf
        exact L_51 x2 x3 x4 ta _ _ _ _ hl hI hf hk18
      · replace hf := if_f h_ hf
        refine lv_aload_n hx hb dX8_cut_34 rfl (lv_at hl 0 rfl) ?_
        refine g_Ta_bytes X hI has_Ta.l (X.fl w_249) dX8_cut_35 ?_
        refine lv_iload_n hx hb dX8_cut_38 rfl (lv_at hl 2 rfl) ?_
        obtain ⟨h_, hf⟩ := ck_someM hf
        refine ld_I X hI has_Ta_bytes.l h_ dX8_cut_39 ?_
        refine lv_bipush (v := 32) hx hb dX8_cut_40 (by decide) ?_
        refine lv_icmp_ne (tgt := 51) hx hb dX8_cut_42 (by decide) (fun h_ => ?_) (fun h_ => ?_)
        · replace hf := if_f h_ hf
          exact L_51 x2 x3 x4 ta _ _ _ _ hl hI hf hk18
        · replace hf := if_t h_ hf
          obtain ⟨v_4, e_⟩ : ∃ y : Int32, y = (x3 + (1 : Int32)) := ⟨_, rfl⟩
          replace hf := lt_to e_ hf
          refine lv_iinc (v := v_4) (lv' := [(3, .int v_4), (0, .ref (a_ta 0)), (2, .int x2), (4, .int x4)]) hx hb dX8_cut_45 hl (k := 2) rfl (by rw [e_]; rfl) (by decide) rfl (fun ls hl => ?_)
          clear e_
          refine lv_goto (tgt := 29) hx hb dX8_cut_48 (by decide) ?_
          exact ih x2 v_4 x4 ta k18 _ _ _ (lv_sub hl [1, 2, 0, 3] rfl) hI hf hk18
  have L_77 : ∀ (ta : TaS) (H : Heap) (locs : List Loc) (ls : Array Slot), lv_has ls 5 [(0, .ref (a_ta 0))] → In g A s.heap s (wTa g a_ta ta ++ []) H locs → f_X8_cut_L77 ta = some (o_ta) → W p l e rm_X8_cut s m args below meth c H locs 0 0 Q (F0 m 77 ls []) := by
    intro ta H locs ls hl hI hf
    unfold f_X8_cut_L77 at hf
    refine lv_aload_n hx hb dX8_cut_77 rfl (lv_at hl 0 rfl) ?_
    refine lv_iconst (v := 0) hx hb dX8_cut_78 (by decide) ?_
    refine p_Ta_filled X hI up_Ta_filled.l (X.fl w_250) dX8_cut_79 (fun H locs hI => ?_)
    generalize hz_ : (Ta_filled' ta (0 : Int32)) = ta_3 at hI hf
    clear hz_
    replace hf := lt_e hf
    cases hf
    exact end_v hQ hA X hI dX8_cut_82
  have L_18 : ∀ (n_ : Nat) (x2 : Int32) (x3 : Int32) (x4 : Int32) (ta : TaS) (H : Heap) (locs : List Loc) (ls : Array Slot), lv_has ls 5 [(0, .ref (a_ta 0)), (2, .int x2), (3, .int x3), (4, .int x4)] → In g A s.heap s (wTa g a_ta ta ++ []) H locs → f_X8_cut_L18 n_ x2 x3 x4 ta = some (o_ta) → W p l e rm_X8_cut s m args below meth c H locs 0 0 Q (F0 m 18 ls []) := by
    intro n_
    induction n_ with
    | zero =>
      intro x2 x3 x4 ta H locs ls hl hI hf
      rw [f_X8_cut_L18] at hf
      cases hf
    | succ n_ ih =>
      intro x2 x3 x4 ta H locs ls hl hI hf
      rw [f_X8_cut_L18] at hf
      refine lv_iload hx hb dX8_cut_18 (lv_at hl 3 rfl) ?_
      refine lv_iload_n hx hb dX8_cut_20 rfl (lv_at hl 1 rfl) ?_
      refine lv_icmp_gt (tgt := 77) hx hb dX8_cut_21 (by decide) (fun h_ => ?_) (fun h_ => ?_)
      · replace hf := if_t h_ hf
        exact L_77 ta _ _ _ (lv_sub hl [0] rfl) hI hf
      · replace hf := if_f h_ hf
        refine lv_iload_n hx hb dX8_cut_24 rfl (lv_at hl 2 rfl) ?_
        refine lv_iload_n hx hb dX8_cut_25 rfl (lv_at hl 1 rfl) ?_
        refine lv_icmp_gt (tgt := 77) hx hb dX8_cut_26 (by decide) (fun h_ => ?_) (fun h_ => ?_)
        · replace hf := if_t h_ hf
          exact L_77 ta _ _ _ (lv_sub hl [0] rfl) hI hf
        · replace hf := if_f h_ hf
          exact L_29 FU x2 x3 x4 ta _ _ _ _ hl hI hf (fun z_0 z_1 z_2 z_3 _ _ _ hl hI hf => ih z_0 z_1 z_2 z_3 _ _ _ hl hI hf)
  unfold f_X8_cut at hf
  refine lv_iload_n hx hb dX8_cut_0 rfl (lv_at hl 1 rfl) ?_
  refine lv_sipush (v := 900) hx hb dX8_cut_1 (by decide) ?_
  refine va_mmin hx hb (by rw [hml]; exact hl.1.symm) hown (ht _ w_741) (ht _ w_742) (ht _ w_156) (ht _ w_743) (Nat.le_of_ble_eq_true rfl) (Nat.le_of_ble_eq_true rfl) (Nat.le_of_ble_eq_true rfl) (Nat.le_of_ble_eq_true rfl) dX8_cut_4 ?_
  refine lv_topi (fun v_1 e_ => ?_)
  replace hf := lt_to e_ hf
  clear e_
  refine lv_istore_n (lv' := [(2, .int v_1), (0, .ref (a_ta 0)), (1, .int p1)]) hx hb dX8_cut_7 rfl hl (by decide) rfl (fun ls hl => ?_)
  refine lv_aload_n hx hb dX8_cut_8 rfl (lv_at hl 1 rfl) ?_
  refine lv_iconst (v := 0) hx hb dX8_cut_9 (by decide) ?_
  refine p_Ta_count X hI up_Ta_count.l (X.fl w_262) dX8_cut_10 (fun H locs hI => ?_)
  generalize hz_ : (Ta_count' ta (0 : Int32)) = ta_2 at hI hf
  clear hz_
  replace hf := lt_e hf
  refine lv_iconst (v := 0) hx hb dX8_cut_13 (by decide) ?_
  refine lv_istore_n (lv' := [(3, .int (0 : Int32)), (2, .int v_1), (0, .ref (a_ta 0)), (1, .int p1)]) hx hb dX8_cut_14 rfl hl (by decide) rfl (fun ls hl => ?_)
  refine lv_iconst (v := 0) hx hb dX8_cut_15 (by decide) ?_
  refine lv_istore (lv' := [(4, .int (0 : Int32)), (3, .int (0 : Int32)), (2, .int v_1), (0, .ref (a_ta 0)), (1, .int p1)]) hx hb dX8_cut_16 hl (by decide) rfl (fun ls hl => ?_)
  exact L_18 FU v_1 (0 : Int32) (0 : Int32) ta_2 _ _ _ (lv_sub hl [3, 2, 1, 0] rfl) hI hf
abbrev rm_X9_clear : Room := { frames := 1, cells := 0, slots := 0, locals := 23 }
set_option maxRecDepth 20000 in
theorem c_X9_clear (l : Launch) (g : GT) (a_to : Nat → Nat) (to : ToS) (o_to : ToS) (hf : f_X9_clear to = some (o_to)) : CV l yX9_clear cX9_clear 1 none rm_X9_clear g [.ref (a_to 0)] (wTo g a_to to ++ []) (wTo g a_to o_to ++ []) := by
  refine start2 (y := yX9_clear) (cc := cX9_clear) (n := 1) (av := [.ref (a_to 0)]) (ws := (wTo g a_to to ++ [])) (Qc := fun sz => QV g (wTo g a_to to ++ []) (wTo g a_to o_to ++ []) sz) (by decide) rfl ?_
  intro p e s m args below meth c ls Q A ha hQ hA X hl hI hin
  have X : Cx p s m args meth c cX9_clear 1 RX9 none := X
  have hl : lv_has ls 1 [(0, .ref (a_to 0))] := hl
  obtain ⟨hx, hb, hml, hown, ht, hr, hlk⟩ := id X
  clear ha hin
  unfold f_X9_clear at hf
  refine lv_aload_n hx hb dX9_clear_0 rfl (lv_at hl 0 rfl) ?_
  refine lv_iconst (v := 0) hx hb dX9_clear_1 (by decide) ?_
  refine p_To_begun X hI up_To_begun.l (X.fl w_289) (by decide) dX9_clear_2 (fun H locs hI => ?_)
  generalize hz_ : (To_begun' to (0 : Int32)) = to_1 at hI hf
  clear hz_
  replace hf := lt_e hf
  refine lv_aload_n hx hb dX9_clear_5 rfl (lv_at hl 0 rfl) ?_
  refine lv_iconst (v := 0) hx hb dX9_clear_6 (by decide) ?_
  refine p_To_once X hI up_To_once.l (X.fl w_291) (by decide) dX9_clear_7 (fun H locs hI => ?_)
  generalize hz_ : (To_once' to_1 (0 : Int32)) = to_2 at hI hf
  clear hz_
  replace hf := lt_e hf
  refine lv_aload_n hx hb dX9_clear_10 rfl (lv_at hl 0 rfl) ?_
  refine lv_iconst (v := 0) hx hb dX9_clear_11 (by decide) ?_
  refine p_To_tall X hI up_To_tall.l (X.fl w_294) dX9_clear_12 (fun H locs hI => ?_)
  generalize hz_ : (To_tall' to_2 (0 : Int32)) = to_3 at hI hf
  clear hz_
  replace hf := lt_e hf
  refine lv_aload_n hx hb dX9_clear_15 rfl (lv_at hl 0 rfl) ?_
  refine lv_iconst (v := 0) hx hb dX9_clear_16 (by decide) ?_
  refine p_To_people X hI up_To_people.l (X.fl w_297) dX9_clear_17 (fun H locs hI => ?_)
  generalize hz_ : (To_people' to_3 (0 : Int32)) = to_4 at hI hf
  clear hz_
  replace hf := lt_e hf
  refine lv_aload_n hx hb dX9_clear_20 rfl (lv_at hl 0 rfl) ?_
  refine lv_iconst (v := 0) hx hb dX9_clear_21 (by decide) ?_
  refine p_To_links X hI up_To_links.l (X.fl w_300) dX9_clear_22 (fun H locs hI => ?_)
  generalize hz_ : (To_links' to_4 (0 : Int32)) = to_5 at hI hf
  clear hz_
  replace hf := lt_e hf
  refine lv_aload_n hx hb dX9_clear_25 rfl (lv_at hl 0 rfl) ?_
  refine lv_iconst (v := 0) hx hb dX9_clear_26 (by decide) ?_
  refine p_To_crossings X hI up_To_crossings.l (X.fl w_303) dX9_clear_27 (fun H locs hI => ?_)
  generalize hz_ : (To_crossings' to_5 (0 : Int32)) = to_6 at hI hf
  clear hz_
  replace hf := lt_e hf
  refine lv_aload_n hx hb dX9_clear_30 rfl (lv_at hl 0 rfl) ?_
  refine lv_iconst (v := 0) hx hb dX9_clear_31 (by decide) ?_
  refine p_To_plus X hI up_To_plus.l (X.fl w_306) dX9_clear_32 (fun H locs hI => ?_)
  generalize hz_ : (To_plus' to_6 (0 : Int32)) = to_7 at hI hf
  clear hz_
  replace hf := lt_e hf
  refine lv_aload_n hx hb dX9_clear_35 rfl (lv_at hl 0 rfl) ?_
  refine g_To_linkIn X hI has_To.l (X.fl w_314) dX9_clear_36 ?_
  refine lv_iconst (v := (-1)) hx hb dX9_clear_39 (by decide) ?_
  obtain ⟨ra_8, hc_, hf⟩ := bd1_some hf
  refine call_Sv X hI (Cj.up up_To_linkIn.l) (c_J7_fill_53178 l g (fun _ => (a_to 5)) (To_linkIn to_7) 16 (-1 : Int32) ra_8 hc_) ⟨rfl, rfl⟩ ⟨ht _ w_774, w_776, ht _ w_157, lk_J7_fill_53178⟩ w_775 rfl hl rfl rfl dX9_clear_40 rfl rfl rfl rfl (fun H locs hI => ?_)
  generalize hz_ : (To_linkIn' to_7 ra_8) = to_9 at hI hf
  clear hz_
  replace hf := lt_e hf
  refine lv_aload_n hx hb dX9_clear_43 rfl (lv_at hl 0 rfl) ?_
  refine g_To_passes X hI has_To.l (X.fl w_316) dX9_clear_44 ?_
  refine lv_iconst (v := 0) hx hb dX9_clear_47 (by decide) ?_
  obtain ⟨ra_10, hc_, hf⟩ := bd1_some hf
  refine call_Sv X hI (Cj.up up_To_passes.l) (c_J7_fill_53178 l g (fun _ => (a_to 6)) (To_passes to_9) 80 (0 : Int32) ra_10 hc_) ⟨rfl, rfl⟩ ⟨ht _ w_774, w_776, ht _ w_157, lk_J7_fill_53178⟩ w_775 rfl hl rfl rfl dX9_clear_48 rfl rfl rfl rfl (fun H locs hI => ?_)
  generalize hz_ : (To_passes' to_9 ra_10) = to_11 at hI hf
  clear hz_
  replace hf := lt_e hf
  cases hf
  exact end_v hQ hA X hI dX9_clear_51
abbrev rm_X9_indexOf : Room := { frames := 0, cells := 0, slots := 0, locals := 0 }
set_option maxRecDepth 20000 in
theorem c_X9_indexOf (l : Launch) (g : GT) (a_ra : Nat → Nat) (ra : Nat → Int64) (p1 : Int32) (p2 : Int64) (r_ : Int32) (hf : f_X9_indexOf ra p1 p2 = some (r_)) : CI l yX9_indexOf cX9_indexOf 5 (some .int) rm_X9_indexOf g [.ref (a_ra 0), .int p1, .long p2] ([(a_ra 0, .inl (g.2 1, 8, .inr (.inl ra)))] ++ []) ([(a_ra 0, .inl (g.2 1, 8, .inr (.inl ra)))] ++ []) r_ := by
  refine start2 (y := yX9_indexOf) (cc := cX9_indexOf) (n := 5) (av := [.ref (a_ra 0), .int p1, .long p2]) (ws := ([(a_ra 0, .inl (g.2 1, 8, .inr (.inl ra)))] ++ [])) (Qc := fun sz => QI g ([(a_ra 0, .inl (g.2 1, 8, .inr (.inl ra)))] ++ []) ([(a_ra 0, .inl (g.2 1, 8, .inr (.inl ra)))] ++ []) r_ sz) (by decide) rfl ?_
  intro p e s m args below meth c ls Q A ha hQ hA X hl hI hin
  have X : Cx p s m args meth c cX9_indexOf 5 RX9 (some .int) := X
  have hl : lv_has ls 5 [(0, .ref (a_ra 0)), (1, .int p1), (2, .long p2)] := hl
  obtain ⟨hx, hb, hml, hown, ht, hr, hlk⟩ := id X
  clear ha hin
  have L_3 : ∀ (n_ : Nat) (x1 : Int32) (x2 : Int64) (x4 : Int32) (H : Heap) (locs : List Loc) (ls : Array Slot), lv_has ls 5 [(0, .ref (a_ra 0)), (1, .int x1), (2, .long x2), (4, .int x4)] → In g A s.heap s ([(a_ra 0, .inl (g.2 1, 8, .inr (.inl ra)))] ++ []) H locs → f_X9_indexOf_L3 n_ x1 x2 x4 ra = some (r_) → W p l e rm_X9_indexOf s m args below meth c H locs 0 0 Q (F0 m 3 ls []) := by
    intro n_
    induction n_ with
    | zero =>
      intro x1 x2 x4 H locs ls hl hI hf
      rw [f_X9_indexOf_L3] at hf
      cases hf
    | succ n_ ih =>
      intro x1 x2 x4 H locs ls hl hI hf
      rw [f_X9_indexOf_L3] at hf
      refine lv_iload hx hb dX9_indexOf_3 (lv_at hl 3 rfl) ?_
      refine lv_iload_n hx hb dX9_indexOf_5 rfl (lv_at hl 1 rfl) ?_
      refine lv_icmp_ge (tgt := 34) hx hb dX9_indexOf_6 (by decide) (fun h_ => ?_) (fun h_ => ?_)
      · replace hf := if_t h_ hf
        refine lv_iconst (v := (-1)) hx hb dX9_indexOf_34 (by decide) ?_
        cases hf
        exact end_i hQ hA X hI dX9_indexOf_35
      · replace hf := if_f h_ hf
        refine lv_iload hx hb dX9_indexOf_9 (lv_at hl 3 rfl) ?_
        refine lv_aload_n hx hb dX9_indexOf_11 rfl (lv_at hl 0 rfl) ?_
        refine al_n (t0 := 0) (v := 8) 1 X hI (show Has _ _ from ⟨0, rfl⟩).l rfl (by decide) dX9_indexOf_12 ?_
        refine lv_icmp_ge (tgt := 34) hx hb dX9_indexOf_13 (by decide) (fun h_ => ?_) (fun h_ => ?_)
        · replace hf := if_t h_ hf
          refine lv_iconst (v := (-1)) hx hb dX9_indexOf_34 (by decide) ?_
          cases hf
          exact end_i hQ hA X hI dX9_indexOf_35
        · replace hf := if_f h_ hf
          refine lv_aload_n hx hb dX9_indexOf_16 rfl (lv_at hl 0 rfl) ?_
          refine lv_iload hx hb dX9_indexOf_17 (lv_at hl 3 rfl) ?_
          obtain ⟨h_, hf⟩ := ck_someM hf
          refine ld_J X hI (show Has _ _ from ⟨0, rfl⟩).l h_ dX9_indexOf_19 ?_
          refine lv_lload_n hx hb dX9_indexOf_20 rfl (lv_at hl 2 rfl) ?_
          refine W.lcmp hx hb dX9_indexOf_21 ?_
          refine lv_if_ne (tgt := 28) hx hb dX9_indexOf_22 (by decide) (fun h_ => ?_) (fun h_ => ?_)
          · replace hf := if_f h_ hf
            obtain ⟨v_1, e_⟩ : ∃ y : Int32, y = (x4 + (1 : Int32)) := ⟨_, rfl⟩
            replace hf := lt_to e_ hf
            refine lv_iinc (v := v_1) (lv' := [(4, .int v_1), (0, .ref (a_ra 0)), (1, .int x1), (2, .long x2)]) hx hb dX9_indexOf_28 hl (k := 3) rfl (by rw [e_]; rfl) (by decide) rfl (fun ls hl => ?_)
            clear e_
            refine lv_goto (tgt := 3) hx hb dX9_indexOf_31 (by decide) ?_
            exact ih x1 x2 v_1 _ _ _ (lv_sub hl [1, 2, 3, 0] rfl) hI hf
          · replace hf := if_t h_ hf
            refine lv_iload hx hb dX9_indexOf_25 (lv_at hl 3 rfl) ?_
            cases hf
            exact end_i hQ hA X hI dX9_indexOf_27
  unfold f_X9_indexOf at hf
  refine lv_iconst (v := 0) hx hb dX9_indexOf_0 (by decide) ?_
  refine lv_istore (lv' := [(4, .int (0 : Int32)), (0, .ref (a_ra 0)), (1, .int p1), (2, .long p2)]) hx hb dX9_indexOf_1 hl (by decide) rfl (fun ls hl => ?_)
  exact L_3 FU p1 p2 (0 : Int32) _ _ _ (lv_sub hl [1, 2, 3, 0] rfl) hI hf
abbrev rm_X9_linkNamed : Room := { frames := 1, cells := 0, slots := 0, locals := 24 }
set_option maxRecDepth 20000 in
theorem c_X9_linkNamed (l : Launch) (g : GT) (a_to : Nat → Nat) (to : ToS) (p1 : Int64) (r_ : Int32) (hf : f_X9_linkNamed to p1 = some (r_)) : CI l yX9_linkNamed cX9_linkNamed 3 (some .int) rm_X9_linkNamed g [.ref (a_to 0), .long p1] (wTo g a_to to ++ []) (wTo g a_to to ++ []) r_ := by
  refine start2 (y := yX9_linkNamed) (cc := cX9_linkNamed) (n := 3) (av := [.ref (a_to 0), .long p1]) (ws := (wTo g a_to to ++ [])) (Qc := fun sz => QI g (wTo g a_to to ++ []) (wTo g a_to to ++ []) r_ sz) (by decide) rfl ?_
  intro p e s m args below meth c ls Q A ha hQ hA X hl hI hin
  have X : Cx p s m args meth c cX9_linkNamed 3 RX9 (some .int) := X
  have hl : lv_has ls 3 [(0, .ref (a_to 0)), (1, .long p1)] := hl
  obtain ⟨hx, hb, hml, hown, ht, hr, hlk⟩ := id X
  clear ha hin
  unfold f_X9_linkNamed at hf
  refine lv_aload_n hx hb dX9_linkNamed_0 rfl (lv_at hl 0 rfl) ?_
  refine g_To_linkNames X hI has_To.l (X.fl w_311) dX9_linkNamed_1 ?_
  refine lv_aload_n hx hb dX9_linkNamed_4 rfl (lv_at hl 0 rfl) ?_
  refine g_To_links X hI has_To.l (X.fl w_300) dX9_linkNamed_5 ?_
  refine lv_lload_n hx hb dX9_linkNamed_8 rfl (lv_at hl 1 rfl) ?_
  obtain ⟨r_1, hc_, hf⟩ := bd1_some hf
  refine call_Si X hI (Cj.has has_To_linkNames.l) (c_X9_indexOf l g (fun _ => (a_to 3)) (To_linkNames to) (To_links to) p1 r_1 hc_) ⟨rfl, rfl⟩ ⟨ht _ w_825, w_827, ht _ w_146, lk_X9_indexOf⟩ w_826 rfl hl rfl rfl dX9_linkNamed_9 rfl rfl rfl rfl (fun H locs hI => ?_)
  cases hf
  exact end_i hQ hA X hI dX9_linkNamed_12
abbrev rm_X9_isPlace : Room := { frames := 0, cells := 0, slots := 0, locals := 0 }
set_option maxRecDepth 20000 in
theorem c_X9_isPlace (l : Launch) (g : GT) (p0 : Int32) (p1 : Int32) (r_ : Int32) (hf : f_X9_isPlace p0 p1 = some (r_)) : CI l yX9_isPlace cX9_isPlace 2 (some .boolean) rm_X9_isPlace g [.int p0, .int p1] ([]) ([]) r_ := by
  refine start2 (y := yX9_isPlace) (cc := cX9_isPlace) (n := 2) (av := [.int p0, .int p1]) (ws := ([])) (Qc := fun sz => QI g ([]) ([]) r_ sz) (by decide) rfl ?_
  intro p e s m args below meth c ls Q A ha hQ hA X hl hI hin
  have X : Cx p s m args meth c cX9_isPlace 2 RX9 (some .boolean) := X
  have hl : lv_has ls 2 [(0, .int p0), (1, .int p1)] := hl
  obtain ⟨hx, hb, hml, hown, ht, hr, hlk⟩ := id X
  clear ha hin
  unfold f_X9_isPlace at hf
  refine lv_iload_n hx hb dX9_isPlace_0 rfl (lv_at hl 0 rfl) ?_
  refine lv_if_lt (tgt := 24) hx hb dX9_isPlace_1 (by decide) (fun h_ => ?_) (fun h_ => ?_)
  · replace hf := if_t h_ hf
    refine lv_iconst (v := 0) hx hb dX9_isPlace_24 (by decide) ?_
    cases hf
    exact end_z hQ hA X hI rfl dX9_isPlace_25
  · replace hf := if_f h_ hf
    refine lv_iload_n hx hb dX9_isPlace_4 rfl (lv_at hl 0 rfl) ?_
    refine lv_bipush (v := 8) hx hb dX9_isPlace_5 (by decide) ?_
    refine lv_icmp_ge (tgt := 24) hx hb dX9_isPlace_7 (by decide) (fun h_ => ?_) (fun h_ => ?_)
    · replace hf := if_t h_ hf
      refine lv_iconst (v := 0) hx hb dX9_isPlace_24 (by decide) ?_
      cases hf
      exact end_z hQ hA X hI rfl dX9_isPlace_25
    · replace hf := if_f h_ hf
      refine lv_iload_n hx hb dX9_isPlace_10 rfl (lv_at hl 1 rfl) ?_
      refine lv_if_lt (tgt := 24) hx hb dX9_isPlace_11 (by decide) (fun h_ => ?_) (fun h_ => ?_)
      · replace hf := if_t h_ hf
        refine lv_iconst (v := 0) hx hb dX9_isPlace_24 (by decide) ?_
        cases hf
        exact end_z hQ hA X hI rfl dX9_isPlace_25
      · replace hf := if_f h_ hf
        refine lv_iload_n hx hb dX9_isPlace_14 rfl (lv_at hl 1 rfl) ?_
        refine lv_bipush (v := 10) hx hb dX9_isPlace_15 (by decide) ?_
        refine lv_icmp_ge (tgt := 24) hx hb dX9_isPlace_17 (by decide) (fun h_ => ?_) (fun h_ => ?_)
        · replace hf := if_t h_ hf
          refine lv_iconst (v := 0) hx hb dX9_isPlace_24 (by decide) ?_
          cases hf
          exact end_z hQ hA X hI rfl dX9_isPlace_25
        · replace hf := if_f h_ hf
          refine lv_iconst (v := 1) hx hb dX9_isPlace_20 (by decide) ?_
          refine lv_goto (tgt := 25) hx hb dX9_isPlace_21 (by decide) ?_
          cases hf
          exact end_z hQ hA X hI rfl dX9_isPlace_25
abbrev rm_X9_passOn : Room := { frames := 1, cells := 0, slots := 0, locals := 21 }
set_option maxRecDepth 20000 in
theorem c_X9_passOn (l : Launch) (g : GT) (a_to : Nat → Nat) (to : ToS) (p1 : Int32) (p2 : Int32) (r_ : Int32) (hf : f_X9_passOn to p1 p2 = some (r_)) : CI l yX9_passOn cX9_passOn 3 (some .int) rm_X9_passOn g [.ref (a_to 0), .int p1, .int p2] (wTo g a_to to ++ []) (wTo g a_to to ++ []) r_ := by
  refine start2 (y := yX9_passOn) (cc := cX9_passOn) (n := 3) (av := [.ref (a_to 0), .int p1, .int p2]) (ws := (wTo g a_to to ++ [])) (Qc := fun sz => QI g (wTo g a_to to ++ []) (wTo g a_to to ++ []) r_ sz) (by decide) rfl ?_
  intro p e s m args below meth c ls Q A ha hQ hA X hl hI hin
  have X : Cx p s m args meth c cX9_passOn 3 RX9 (some .int) := X
  have hl : lv_has ls 3 [(0, .ref (a_to 0)), (1, .int p1), (2, .int p2)] := hl
  obtain ⟨hx, hb, hml, hown, ht, hr, hlk⟩ := id X
  clear ha hin
  unfold f_X9_passOn at hf
  refine lv_iload_n hx hb dX9_passOn_0 rfl (lv_at hl 1 rfl) ?_
  refine lv_iload_n hx hb dX9_passOn_1 rfl (lv_at hl 2 rfl) ?_
  obtain ⟨r_1, hc_, hf⟩ := bd1_some hf
  refine call_Si X hI Cj.nil (c_X9_isPlace l g p1 p2 r_1 hc_) ⟨rfl, rfl⟩ ⟨ht _ w_879, w_881, ht _ w_146, lk_X9_isPlace⟩ w_880 rfl hl rfl rfl dX9_passOn_2 rfl rfl rfl rfl (fun H locs hI => ?_)
  refine lv_if_eq (tgt := 22) hx hb dX9_passOn_5 (by decide) (fun h_ => ?_) (fun h_ => ?_)
  · replace hf := if_t h_ hf
    refine lv_iconst (v := 0) hx hb dX9_passOn_22 (by decide) ?_
    cases hf
    exact end_i hQ hA X hI dX9_passOn_23
  · replace hf := if_f h_ hf
    refine lv_aload_n hx hb dX9_passOn_8 rfl (lv_at hl 0 rfl) ?_
    refine g_To_passes X hI has_To.l (X.fl w_316) dX9_passOn_9 ?_
    refine lv_bipush (v := 10) hx hb dX9_passOn_12 (by decide) ?_
    refine lv_iload_n hx hb dX9_passOn_14 rfl (lv_at hl 1 rfl) ?_
    refine lv_imul hx hb dX9_passOn_15 ?_
    refine lv_iload_n hx hb dX9_passOn_16 rfl (lv_at hl 2 rfl) ?_
    refine lv_iadd hx hb dX9_passOn_17 ?_
    obtain ⟨h_, hf⟩ := ck_someM hf
    refine ld_I X hI has_To_passes.l h_ dX9_passOn_18 ?_
    refine lv_goto (tgt := 23) hx hb dX9_passOn_19 (by decide) ?_
    cases hf
    exact end_i hQ hA X hI dX9_passOn_23
abbrev rm_X9_addPass : Room := { frames := 1, cells := 0, slots := 0, locals := 21 }
set_option maxRecDepth 20000 in
theorem c_X9_addPass (l : Launch) (g : GT) (a_to : Nat → Nat) (to : ToS) (p1 : Int32) (p2 : Int32) (p3 : Int32) (o_to : ToS) (hf : f_X9_addPass to p1 p2 p3 = some (o_to)) : CV l yX9_addPass cX9_addPass 4 none rm_X9_addPass g [.ref (a_to 0), .int p1, .int p2, .int p3] (wTo g a_to to ++ []) (wTo g a_to o_to ++ []) := by
  refine start2 (y := yX9_addPass) (cc := cX9_addPass) (n := 4) (av := [.ref (a_to 0), .int p1, .int p2, .int p3]) (ws := (wTo g a_to to ++ [])) (Qc := fun sz => QV g (wTo g a_to to ++ []) (wTo g a_to o_to ++ []) sz) (by decide) rfl ?_
  intro p e s m args below meth c ls Q A ha hQ hA X hl hI hin
  have X : Cx p s m args meth c cX9_addPass 4 RX9 none := X
  have hl : lv_has ls 4 [(0, .ref (a_to 0)), (1, .int p1), (2, .int p2), (3, .int p3)] := hl
  obtain ⟨hx, hb, hml, hown, ht, hr, hlk⟩ := id X
  clear ha hin
  have L_42 : ∀ (x1 : Int32) (x3 : Int32) (t1i : Int32) (t2i : Int32) (t3i : Int32) (to : ToS) (H : Heap) (locs : List Loc) (ls : Array Slot), lv_has ls 4 [(0, .ref (a_to 0)), (1, .int x1), (3, .int x3)] → In g A s.heap s (wTo g a_to to ++ []) H locs → f_X9_addPass_L42 x1 x3 t1i t2i t3i to = some (o_to) → W p l e rm_X9_addPass s m args below meth c H locs 0 0 Q (F0 m 42 ls [.int t3i, .int t2i, .int t1i, .ref (a_to 6)]) := by
    intro x1 x3 t1i t2i t3i to H locs ls hl hI hf
    unfold f_X9_addPass_L42 at hf
    refine lv_iadd hx hb dX9_addPass_42 ?_
    obtain ⟨h_, hf⟩ := ck_someM hf
    refine st_I X hI up_To_passes.l h_ dX9_addPass_43 (fun H locs hI => ?_)
    generalize hz_ : (To_passes' to (upd (To_passes to) (Int32.toNatClampNeg t1i) (t2i + t3i))) = to_2 at hI hf
    clear hz_
    replace hf := lt_e hf
    refine lv_iload_n hx hb dX9_addPass_44 rfl (lv_at hl 2 rfl) ?_
    refine lv_if_eq (tgt := 61) hx hb dX9_addPass_45 (by decide) (fun h_ => ?_) (fun h_ => ?_)
    · replace hf := if_t h_ hf
      refine lv_aload_n hx hb dX9_addPass_61 rfl (lv_at hl 0 rfl) ?_
      refine g_To_linkUnder X hI has_To.l (X.fl w_317) dX9_addPass_62 ?_
      refine lv_aload_n hx hb dX9_addPass_65 rfl (lv_at hl 0 rfl) ?_
      refine g_To_crossings X hI has_To.l (X.fl w_303) dX9_addPass_66 ?_
      refine lv_iload_n hx hb dX9_addPass_69 rfl (lv_at hl 1 rfl) ?_
      obtain ⟨h_, hf⟩ := ck_someM hf
      refine st_I X hI up_To_linkUnder.l h_ dX9_addPass_70 (fun H locs hI => ?_)
      generalize hz_ : (To_linkUnder' to_2 (upd (To_linkUnder to_2) (Int32.toNatClampNeg (To_crossings to_2)) x1)) = to_3 at hI hf
      clear hz_
      replace hf := lt_e hf
      cases hf
      exact end_v hQ hA X hI dX9_addPass_71
    · replace hf := if_f h_ hf
      refine lv_aload_n hx hb dX9_addPass_48 rfl (lv_at hl 0 rfl) ?_
      refine g_To_linkOver X hI has_To.l (X.fl w_319) dX9_addPass_49 ?_
      refine lv_aload_n hx hb dX9_addPass_52 rfl (lv_at hl 0 rfl) ?_
      refine g_To_crossings X hI has_To.l (X.fl w_303) dX9_addPass_53 ?_
      refine lv_iload_n hx hb dX9_addPass_56 rfl (lv_at hl 1 rfl) ?_
      obtain ⟨h_, hf⟩ := ck_someM hf
      refine st_I X hI up_To_linkOver.l h_ dX9_addPass_57 (fun H locs hI => ?_)
      generalize hz_ : (To_linkOver' to_2 (upd (To_linkOver to_2) (Int32.toNatClampNeg (To_crossings to_2)) x1)) = to_4 at hI hf
      clear hz_
      replace hf := lt_e hf
      refine lv_goto (tgt := 71) hx hb dX9_addPass_58 (by decide) ?_
      cases hf
      exact end_v hQ hA X hI dX9_addPass_71
  unfold f_X9_addPass at hf
  refine lv_iload_n hx hb dX9_addPass_0 rfl (lv_at hl 1 rfl) ?_
  refine lv_iload_n hx hb dX9_addPass_1 rfl (lv_at hl 2 rfl) ?_
  obtain ⟨r_1, hc_, hf⟩ := bd1_some hf
  refine call_Si X hI Cj.nil (c_X9_isPlace l g p1 p2 r_1 hc_) ⟨rfl, rfl⟩ ⟨ht _ w_879, w_881, ht _ w_146, lk_X9_isPlace⟩ w_880 rfl hl rfl rfl dX9_addPass_2 rfl rfl rfl rfl (fun H locs hI => ?_)
  refine lv_if_eq (tgt := 71) hx hb dX9_addPass_5 (by decide) (fun h_ => ?_) (fun h_ => ?_)
  · replace hf := if_t h_ hf
    cases hf
    exact end_v hQ hA X hI dX9_addPass_71
  · replace hf := if_f h_ hf
    refine lv_aload_n hx hb dX9_addPass_8 rfl (lv_at hl 0 rfl) ?_
    refine g_To_crossings X hI has_To.l (X.fl w_303) dX9_addPass_9 ?_
    refine lv_bipush (v := 7) hx hb dX9_addPass_12 (by decide) ?_
    refine lv_icmp_ge (tgt := 71) hx hb dX9_addPass_14 (by decide) (fun h_ => ?_) (fun h_ => ?_)
    · replace hf := if_t h_ hf
      cases hf
      exact end_v hQ hA X hI dX9_addPass_71
    · replace hf := if_f h_ hf
      refine lv_aload_n hx hb dX9_addPass_17 rfl (lv_at hl 0 rfl) ?_
      refine g_To_passes X hI has_To.l (X.fl w_316) dX9_addPass_18 ?_
      refine lv_bipush (v := 10) hx hb dX9_addPass_21 (by decide) ?_
      refine lv_iload_n hx hb dX9_addPass_23 rfl (lv_at hl 1 rfl) ?_
      refine lv_imul hx hb dX9_addPass_24 ?_
      refine lv_iload_n hx hb dX9_addPass_25 rfl (lv_at hl 2 rfl) ?_
      refine lv_iadd hx hb dX9_addPass_26 ?_
      refine lv_iconst (v := 2) hx hb dX9_addPass_27 (by decide) ?_
      refine lv_aload_n hx hb dX9_addPass_28 rfl (lv_at hl 0 rfl) ?_
      refine g_To_crossings X hI has_To.l (X.fl w_303) dX9_addPass_29 ?_
      refine lv_imul hx hb dX9_addPass_32 ?_
      refine lv_iload_n hx hb dX9_addPass_33 rfl (lv_at hl 3 rfl) ?_
      refine lv_if_eq (tgt := 41) hx hb dX9_addPass_34 (by decide) (fun h_ => ?_) (fun h_ => ?_)
      · replace hf := if_t h_ hf
        refine lv_iconst (v := 1) hx hb dX9_addPass_41 (by decide) ?_
        exact L_42 p1 p3 (((10 : Int32) * p1) + p2) ((2 : Int32) * (To_crossings to)) (1 : Int32) to _ _ _ (lv_sub hl [0, 1, 3] rfl) hI hf
      · replace hf := if_f h_ hf
        refine lv_iconst (v := 2) hx hb dX9_addPass_37 (by decide) ?_
        refine lv_goto (tgt := 42) hx hb dX9_addPass_38 (by decide) ?_
        exact L_42 p1 p3 (((10 : Int32) * p1) + p2) ((2 : Int32) * (To_crossings to)) (2 : Int32) to _ _ _ (lv_sub hl [0, 1, 3] rfl) hI hf
abbrev rm_X9_addCrossing : Room := { frames := 0, cells := 0, slots := 0, locals := 0 }
set_option maxRecDepth 20000 in
theorem c_X9_addCrossing (l : Launch) (g : GT) (a_to : Nat → Nat) (to : ToS) (p1 : Int32) (o_to : ToS) (hf : f_X9_addCrossing to p1 = some (o_to)) : CV l yX9_addCrossing cX9_addCrossing 2 none rm_X9_addCrossing g [.ref (a_to 0), .int p1] (wTo g a_to to ++ []) (wTo g a_to o_to ++ []) := by
  refine start2 (y := yX9_addCrossing) (cc := cX9_addCrossing) (n := 2) (av := [.ref (a_to 0), .int p1]) (ws := (wTo g a_to to ++ [])) (Qc := fun sz => QV g (wTo g a_to to ++ []) (wTo g a_to o_to ++ []) sz) (by decide) rfl ?_
  intro p e s m args below meth c ls Q A ha hQ hA X hl hI hin
  have X : Cx p s m args meth c cX9_addCrossing 2 RX9 none := X
  have hl : lv_has ls 2 [(0, .ref (a_to 0)), (1, .int p1)] := hl
  obtain ⟨hx, hb, hml, hown, ht, hr, hlk⟩ := id X
  clear ha hin
  have L_28 : ∀ (to : ToS) (H : Heap) (locs : List Loc) (ls : Array Slot), lv_has ls 2 [(0, .ref (a_to 0))] → In g A s.heap s (wTo g a_to to ++ []) H locs → f_X9_addCrossing_L28 to = some (o_to) → W p l e rm_X9_addCrossing s m args below meth c H locs 0 0 Q (F0 m 28 ls []) := by
    intro to H locs ls hl hI hf
    unfold f_X9_addCrossing_L28 at hf
    refine lv_aload_n hx hb dX9_addCrossing_28 rfl (lv_at hl 0 rfl) ?_
    refine lv_dup hx hb dX9_addCrossing_29 rfl ?_
    refine g_To_crossings X hI has_To.l (X.fl w_303) dX9_addCrossing_30 ?_
    refine lv_iconst (v := 1) hx hb dX9_addCrossing_33 (by decide) ?_
    refine lv_iadd hx hb dX9_addCrossing_34 ?_
    refine p_To_crossings X hI up_To_crossings.l (X.fl w_303) dX9_addCrossing_35 (fun H locs hI => ?_)
    generalize hz_ : (To_crossings' to ((To_crossings to) + (1 : Int32))) = to_2 at hI hf
    clear hz_
    replace hf := lt_e hf
    cases hf
    exact end_v hQ hA X hI dX9_addCrossing_38
  unfold f_X9_addCrossing at hf
  refine lv_aload_n hx hb dX9_addCrossing_0 rfl (lv_at hl 0 rfl) ?_
  refine g_To_crossings X hI has_To.l (X.fl w_303) dX9_addCrossing_1 ?_
  refine lv_bipush (v := 7) hx hb dX9_addCrossing_4 (by decide) ?_
  refine lv_icmp_ge (tgt := 38) hx hb dX9_addCrossing_6 (by decide) (fun h_ => ?_) (fun h_ => ?_)
  · replace hf := if_t h_ hf
    cases hf
    exact end_v hQ hA X hI dX9_addCrossing_38
  · replace hf := if_f h_ hf
    refine lv_iload_n hx hb dX9_addCrossing_9 rfl (lv_at hl 1 rfl) ?_
    refine lv_if_eq (tgt := 28) hx hb dX9_addCrossing_10 (by decide) (fun h_ => ?_) (fun h_ => ?_)
    · replace hf := if_t h_ hf
      exact L_28 to _ _ _ (lv_sub hl [0] rfl) hI hf
    · replace hf := if_f h_ hf
      refine lv_aload_n hx hb dX9_addCrossing_13 rfl (lv_at hl 0 rfl) ?_
      refine lv_dup hx hb dX9_addCrossing_14 rfl ?_
      refine g_To_plus X hI has_To.l (X.fl w_306) dX9_addCrossing_15 ?_
      refine lv_iconst (v := 1) hx hb dX9_addCrossing_18 (by decide) ?_
      refine lv_aload_n hx hb dX9_addCrossing_19 rfl (lv_at hl 0 rfl) ?_
      refine g_To_crossings X hI has_To.l (X.fl w_303) dX9_addCrossing_20 ?_
      refine lv_ishl hx hb dX9_addCrossing_23 ?_
      refine lv_ior hx hb dX9_addCrossing_24 ?_
      refine p_To_plus X hI up_To_plus.l (X.fl w_306) dX9_addCrossing_25 (fun H locs hI => ?_)
      generalize hz_ : (To_plus' to ((To_plus to) ||| ((1 : Int32) <<< ((To_crossings to) &&& 31)))) = to_1 at hI hf
      clear hz_
      replace hf := lt_e hf
      exact L_28 to_1 _ _ _ (lv_sub hl [0] rfl) hI hf
abbrev rm_X9_personNamed : Room := { frames := 1, cells := 0, slots := 0, locals := 24 }
set_option maxRecDepth 20000 in
theorem c_X9_personNamed (l : Launch) (g : GT) (a_to : Nat → Nat) (to : ToS) (p1 : Int64) (r_ : Int32) (hf : f_X9_personNamed to p1 = some (r_)) : CI l yX9_personNamed cX9_personNamed 3 (some .int) rm_X9_personNamed g [.ref (a_to 0), .long p1] (wTo g a_to to ++ []) (wTo g a_to to ++ []) r_ := by
  refine start2 (y := yX9_personNamed) (cc := cX9_personNamed) (n := 3) (av := [.ref (a_to 0), .long p1]) (ws := (wTo g a_to to ++ [])) (Qc := fun sz => QI g (wTo g a_to to ++ []) (wTo g a_to to ++ []) r_ sz) (by decide) rfl ?_
  intro p e s m args below meth c ls Q A ha hQ hA X hl hI hin
  have X : Cx p s m args meth c cX9_personNamed 3 RX9 (some .int) := X
  have hl : lv_has ls 3 [(0, .ref (a_to 0)), (1, .long p1)] := hl
  obtain ⟨hx, hb, hml, hown, ht, hr, hlk⟩ := id X
  clear ha hin
  unfold f_X9_personNamed at hf
  refine lv_aload_n hx hb dX9_personNamed_0 rfl (lv_at hl 0 rfl) ?_
  refine g_To_personNames X hI has_To.l (X.fl w_308) dX9_personNamed_1 ?_
  refine lv_aload_n hx hb dX9_personNamed_4 rfl (lv_at hl 0 rfl) ?_
  refine g_To_people X hI has_To.l (X.fl w_297) dX9_personNamed_5 ?_
  refine lv_lload_n hx hb dX9_personNamed_8 rfl (lv_at hl 1 rfl) ?_
  obtain ⟨r_1, hc_, hf⟩ := bd1_some hf
  refine call_Si X hI (Cj.has has_To_personNames.l) (c_X9_indexOf l g (fun _ => (a_to 1)) (To_personNames to) (To_people to) p1 r_1 hc_) ⟨rfl, rfl⟩ ⟨ht _ w_825, w_827, ht _ w_146, lk_X9_indexOf⟩ w_826 rfl hl rfl rfl dX9_personNamed_9 rfl rfl rfl rfl (fun H locs hI => ?_)
  cases hf
  exact end_i hQ hA X hI dX9_personNamed_12
abbrev rm_X9_isHand : Room := { frames := 0, cells := 0, slots := 0, locals := 0 }
set_option maxRecDepth 20000 in
theorem c_X9_isHand (l : Launch) (g : GT) (p0 : Int32) (r_ : Int32) (hf : f_X9_isHand p0 = some (r_)) : CI l yX9_isHand cX9_isHand 1 (some .boolean) rm_X9_isHand g [.int p0] ([]) ([]) r_ := by
  refine start2 (y := yX9_isHand) (cc := cX9_isHand) (n := 1) (av := [.int p0]) (ws := ([])) (Qc := fun sz => QI g ([]) ([]) r_ sz) (by decide) rfl ?_
  intro p e s m args below meth c ls Q A ha hQ hA X hl hI hin
  have X : Cx p s m args meth c cX9_isHand 1 RX9 (some .boolean) := X
  have hl : lv_has ls 1 [(0, .int p0)] := hl
  obtain ⟨hx, hb, hml, hown, ht, hr, hlk⟩ := id X
  clear ha hin
  unfold f_X9_isHand at hf
  refine lv_iload_n hx hb dX9_isHand_0 rfl (lv_at hl 0 rfl) ?_
  refine lv_if_lt (tgt := 14) hx hb dX9_isHand_1 (by decide) (fun h_ => ?_) (fun h_ => ?_)
  · replace hf := if_t h_ hf
    refine lv_iconst (v := 0) hx hb dX9_isHand_14 (by decide) ?_
    cases hf
    exact end_z hQ hA X hI rfl dX9_isHand_15
  · replace hf := if_f h_ hf
    refine lv_iload_n hx hb dX9_isHand_4 rfl (lv_at hl 0 rfl) ?_
    refine lv_bipush (v := 16) hx hb dX9_isHand_5 (by decide) ?_
    refine lv_icmp_ge (tgt := 14) hx hb dX9_isHand_7 (by decide) (fun h_ => ?_) (fun h_ => ?_)
    · replace hf := if_t h_ hf
      refine lv_iconst (v := 0) hx hb dX9_isHand_14 (by decide) ?_
      cases hf
      exact end_z hQ hA X hI rfl dX9_isHand_15
    · replace hf := if_f h_ hf
      refine lv_iconst (v := 1) hx hb dX9_isHand_10 (by decide) ?_
      refine lv_goto (tgt := 15) hx hb dX9_isHand_11 (by decide) ?_
      cases hf
      exact end_z hQ hA X hI rfl dX9_isHand_15
abbrev rm_X9_isHeld : Room := { frames := 1, cells := 0, slots := 0, locals := 20 }
set_option maxRecDepth 20000 in
theorem c_X9_isHeld (l : Launch) (g : GT) (a_to : Nat → Nat) (to : ToS) (p1 : Int32) (r_ : Int32) (hf : f_X9_isHeld to p1 = some (r_)) : CI l yX9_isHeld cX9_isHeld 2 (some .boolean) rm_X9_isHeld g [.ref (a_to 0), .int p1] (wTo g a_to to ++ []) (wTo g a_to to ++ []) r_ := by
  refine start2 (y := yX9_isHeld) (cc := cX9_isHeld) (n := 2) (av := [.ref (a_to 0), .int p1]) (ws := (wTo g a_to to ++ [])) (Qc := fun sz => QI g (wTo g a_to to ++ []) (wTo g a_to to ++ []) r_ sz) (by decide) rfl ?_
  intro p e s m args below meth c ls Q A ha hQ hA X hl hI hin
  have X : Cx p s m args meth c cX9_isHeld 2 RX9 (some .boolean) := X
  have hl : lv_has ls 2 [(0, .ref (a_to 0)), (1, .int p1)] := hl
  obtain ⟨hx, hb, hml, hown, ht, hr, hlk⟩ := id X
  clear ha hin
  unfold f_X9_isHeld at hf
  refine lv_iload_n hx hb dX9_isHeld_0 rfl (lv_at hl 1 rfl) ?_
  obtain ⟨r_1, hc_, hf⟩ := bd1_some hf
  refine call_Si X hI Cj.nil (c_X9_isHand l g p1 r_1 hc_) ⟨rfl, rfl⟩ ⟨ht _ w_852, w_854, ht _ w_146, lk_X9_isHand⟩ w_853 rfl hl rfl rfl dX9_isHeld_1 rfl rfl rfl rfl (fun H locs hI => ?_)
  refine lv_if_eq (tgt := 21) hx hb dX9_isHeld_4 (by decide) (fun h_ => ?_) (fun h_ => ?_)
  · replace hf := if_t h_ hf
    refine lv_iconst (v := 0) hx hb dX9_isHeld_21 (by decide) ?_
    cases hf
    exact end_z hQ hA X hI rfl dX9_isHeld_22
  · replace hf := if_f h_ hf
    refine lv_aload_n hx hb dX9_isHeld_7 rfl (lv_at hl 0 rfl) ?_
    refine g_To_linkIn X hI has_To.l (X.fl w_314) dX9_isHeld_8 ?_
    refine lv_iload_n hx hb dX9_isHeld_11 rfl (lv_at hl 1 rfl) ?_
    obtain ⟨h_, hf⟩ := ck_someM hf
    refine ld_I X hI has_To_linkIn.l h_ dX9_isHeld_12 ?_
    refine lv_iconst (v := (-1)) hx hb dX9_isHeld_13 (by decide) ?_
    refine lv_icmp_eq (tgt := 21) hx hb dX9_isHeld_14 (by decide) (fun h_ => ?_) (fun h_ => ?_)
    · replace hf := if_t h_ hf
      refine lv_iconst (v := 0) hx hb dX9_isHeld_21 (by decide) ?_
      cases hf
      exact end_z hQ hA X hI rfl dX9_isHeld_22
    · replace hf := if_f h_ hf
      refine lv_iconst (v := 1) hx hb dX9_isHeld_17 (by decide) ?_
      refine lv_goto (tgt := 22) hx hb dX9_isHeld_18 (by decide) ?_
      cases hf
      exact end_z hQ hA X hI rfl dX9_isHeld_22
abbrev rm_X9_areHeld : Room := { frames := 0, cells := 0, slots := 0, locals := 0 }
set_option maxRecDepth 20000 in
theorem c_X9_areHeld (l : Launch) (g : GT) (a_to : Nat → Nat) (to : ToS) (p1 : Int32) (p2 : Int32) (r_ : Int32) (hf : f_X9_areHeld to p1 p2 = some (r_)) : CI l yX9_areHeld cX9_areHeld 6 (some .boolean) rm_X9_areHeld g [.ref (a_to 0), .int p1, .int p2] (wTo g a_to to ++ []) (wTo g a_to to ++ []) r_ := by
  refine start2 (y := yX9_areHeld) (cc := cX9_areHeld) (n := 6) (av := [.ref (a_to 0), .int p1, .int p2]) (ws := (wTo g a_to to ++ [])) (Qc := fun sz => QI g (wTo g a_to to ++ []) (wTo g a_to to ++ []) r_ sz) (by decide) rfl ?_
  intro p e s m args below meth c ls Q A ha hQ hA X hl hI hin
  have X : Cx p s m args meth c cX9_areHeld 6 RX9 (some .boolean) := X
  have hl : lv_has ls 6 [(0, .ref (a_to 0)), (1, .int p1), (2, .int p2)] := hl
  obtain ⟨hx, hb, hml, hown, ht, hr, hlk⟩ := id X
  clear ha hin
  have L_62 : ∀ (x1 : Int32) (x2 : Int32) (x3 : Int32) (k2 : (Int32) → (Int32) → (Int32) → (ToS) → Option (Int32)) (H : Heap) (locs : List Loc) (ls : Array Slot), lv_has ls 6 [(0, .ref (a_to 0)), (1, .int x1), (2, .int x2), (3, .int x3)] → In g A s.heap s (wTo g a_to to ++ []) H locs → f_X9_areHeld_L62 x1 x2 x3 to k2 = some (r_) → (∀ (x1 : Int32) (x2 : Int32) (x3 : Int32) (H : Heap) (locs : List Loc) (ls : Array Slot), lv_has ls 6 [(0, .ref (a_to 0)), (1, .int x1), (2, .int x2), (3, .int x3)] → In g A s.heap s (wTo g a_to to ++ []) H locs → k2 x1 x2 x3 to = some (r_) → W p l e rm_X9_areHeld s m args below meth c H locs 0 0 Q (F0 m 2 ls [])) → W p l e rm_X9_areHeld s m args below meth c H locs 0 0 Q (F0 m 62 ls []) := by
    intro x1 x2 x3 k2 H locs ls hl hI hf hk2
    unfold f_X9_areHeld_L62 at hf
    obtain ⟨v_3, e_⟩ : ∃ y : Int32, y = (x3 + (1 : Int32)) := ⟨_, rfl⟩
    replace hf := lt_to e_ hf
    refine lv_iinc (v := v_3) (lv' := [(3, .int v_3), (0, .ref (a_to 0)), (1, .int x1), (2, .int x2)]) hx hb dX9_areHeld_62 hl (k := 3) rfl (by rw [e_]; rfl) (by decide) rfl (fun ls hl => ?_)
    clear e_
    refine lv_goto (tgt := 2) hx hb dX9_areHeld_65 (by decide) ?_
    exact hk2 x1 x2 v_3 _ _ _ (lv_sub hl [1, 2, 3, 0] rfl) hI hf
  have L_48 : ∀ (x1 : Int32) (x2 : Int32) (x3 : Int32) (x4 : Int32) (x5 : Int32) (k2 : (Int32) → (Int32) → (Int32) → (ToS) → Option (Int32)) (H : Heap) (locs : List Loc) (ls : Array Slot), lv_has ls 6 [(0, .ref (a_to 0)), (1, .int x1), (2, .int x2), (3, .int x3), (4, .int x4), (5, .int x5)] → In g A s.heap s (wTo g a_to to ++ []) H locs → f_X9_areHeld_L48 x1 x2 x3 x4 x5 to k2 = some (r_) → (∀ (x1 : Int32) (x2 : Int32) (x3 : Int32) (H : Heap) (locs : List Loc) (ls : Array Slot), lv_has ls 6 [(0, .ref (a_to 0)), (1, .int x1), (2, .int x2), (3, .int x3)] → In g A s.heap s (wTo g a_to to ++ []) H locs → k2 x1 x2 x3 to = some (r_) → W p l e rm_X9_areHeld s m args below meth c H locs 0 0 Q (F0 m 2 ls [])) → W p l e rm_X9_areHeld s m args below meth c H locs 0 0 Q (F0 m 48 ls []) := by
    intro x1 x2 x3 x4 x5 k2 H locs ls hl hI hf hk2
    unfold f_X9_areHeld_L48 at hf
    refine lv_iload hx hb dX9_areHeld_48 (lv_at hl 4 rfl) ?_
    refine lv_iload_n hx hb dX9_areHeld_50 rfl (lv_at hl 2 rfl) ?_
    refine lv_icmp_ne (tgt := 62) hx hb dX9_areHeld_51 (by decide) (fun h_ => ?_) (fun h_ => ?_)
    · replace hf := if_f h_ hf
      exact L_62 x1 x2 x3 _ _ _ _ (lv_sub hl [0, 1, 2, 3] rfl) hI hf hk2
    · replace hf := if_t h_ hf
      refine lv_iload hx hb dX9_areHeld_54 (lv_at hl 5 rfl) ?_
      refine lv_iload_n hx hb dX9_areHeld_56 rfl (lv_at hl 1 rfl) ?_
      refine lv_icmp_ne (tgt := 62) hx hb dX9_areHeld_57 (by decide) (fun h_ => ?_) (fun h_ => ?_)
      · replace hf := if_f h_ hf
        exact L_62 x1 x2 x3 _ _ _ _ (lv_sub hl [0, 1, 2, 3] rfl) hI hf hk2
      · replace hf := if_t h_ hf
        refine lv_iconst (v := 1) hx hb dX9_areHeld_60 (by decide) ?_
        cases hf
        exact end_z hQ hA X hI rfl dX9_areHeld_61
  have L_2 : ∀ (n_ : Nat) (x1 : Int32) (x2 : Int32) (x3 : Int32) (H : Heap) (locs : List Loc) (ls : Array Slot), lv_has ls 6 [(0, .ref (a_to 0)), (1, .int x1), (2, .int x2), (3, .int x3)] → In g A s.heap s (wTo g a_to to ++ []) H locs → f_X9_areHeld_L2 n_ x1 x2 x3 to = some (r_) → W p l e rm_X9_areHeld s m args below meth c H locs 0 0 Q (F0 m 2 ls []) := by
    intro n_
    induction n_ with
    | zero =>
      intro x1 x2 x3 H locs ls hl hI hf
      rw [f_X9_areHeld_L2] at hf
      cases hf
    | succ n_ ih =>
      intro x1 x2 x3 H locs ls hl hI hf
      rw [f_X9_areHeld_L2] at hf
      refine lv_iload_n hx hb dX9_areHeld_2 rfl (lv_at hl 3 rfl) ?_
      refine lv_aload_n hx hb dX9_areHeld_3 rfl (lv_at hl 0 rfl) ?_
      refine g_To_links X hI has_To.l (X.fl w_300) dX9_areHeld_4 ?_
      refine lv_icmp_ge (tgt := 68) hx hb dX9_areHeld_7 (by decide) (fun h_ => ?_) (fun h_ => ?_)
      · replace hf := if_t h_ hf
        refine lv_iconst (v := 0) hx hb dX9_areHeld_68 (by decide) ?_
        cases hf
        exact end_z hQ hA X hI rfl dX9_areHeld_69
      · replace hf := if_f h_ hf
        refine lv_aload_n hx hb dX9_areHeld_10 rfl (lv_at hl 0 rfl) ?_
        refine g_To_handAt X hI has_To.l (X.fl w_312) dX9_areHeld_11 ?_
        refine lv_iconst (v := 2) hx hb dX9_areHeld_14 (by decide) ?_
        refine lv_iload_n hx hb dX9_areHeld_15 rfl (lv_at hl 3 rfl) ?_
        refine lv_imul hx hb dX9_areHeld_16 ?_
        obtain ⟨h_, hf⟩ := ck_someM hf
        refine ld_I X hI has_To_handAt.l h_ dX9_areHeld_17 ?_
        refine lv_iconst (v := 2) hx hb dX9_areHeld_18 (by decide) ?_
        refine lv_idiv hx hb dX9_areHeld_19 (by decide) ?_
        refine lv_topi (fun v_1 e_ => ?_)
        replace hf := lt_to e_ hf
        clear e_
        refine lv_istore (lv' := [(4, .int v_1), (0, .ref (a_to 0)), (1, .int x1), (2, .int x2), (3, .int x3)]) hx hb dX9_areHeld_20 hl (by decide) rfl (fun ls hl => ?_)
        refine lv_aload_n hx hb dX9_areHeld_22 rfl (lv_at hl 1 rfl) ?_
        refine g_To_handAt X hI has_To.l (X.fl w_312) dX9_areHeld_23 ?_
        refine lv_iconst (v := 2) hx hb dX9_areHeld_26 (by decide) ?_
        refine lv_iload_n hx hb dX9_areHeld_27 rfl (lv_at hl 4 rfl) ?_
        refine lv_imul hx hb dX9_areHeld_28 ?_
        refine lv_iconst (v := 1) hx hb dX9_areHeld_29 (by decide) ?_
        refine lv_iadd hx hb dX9_areHeld_30 ?_
        obtain ⟨h_, hf⟩ := ck_someM hf
        refine ld_I X hI has_To_handAt.l h_ dX9_areHeld_31 ?_
        refine lv_iconst (v := 2) hx hb dX9_areHeld_32 (by decide) ?_
        refine lv_idiv hx hb dX9_areHeld_33 (by decide) ?_
        refine lv_topi (fun v_2 e_ => ?_)
        replace hf := lt_to e_ hf
        clear e_
        refine lv_istore (lv' := [(5, .int v_2), (4, .int v_1), (0, .ref (a_to 0)), (1, .int x1), (2, .int x2), (3, .int x3)]) hx hb dX9_areHeld_34 hl (by decide) rfl (fun ls hl => ?_)
        refine lv_iload hx hb dX9_areHeld_36 (lv_at hl 1 rfl) ?_
        refine lv_iload_n hx hb dX9_areHeld_38 rfl (lv_at hl 3 rfl) ?_
        refine lv_icmp_ne (tgt := 48) hx hb dX9_areHeld_39 (by decide) (fun h_ => ?_) (fun h_ => ?_)
        · replace hf := if_f h_ hf
          exact L_48 x1 x2 x3 v_1 v_2 _ _ _ _ (lv_sub hl [2, 3, 4, 5, 1, 0] rfl) hI hf (fun z_0 z_1 z_2 _ _ _ hl hI hf => ih z_0 z_1 z_2 _ _ _ hl hI hf)
        · replace hf := if_t h_ hf
          refine lv_iload hx hb dX9_areHeld_42 (lv_at hl 0 rfl) ?_
          refine lv_iload_n hx hb dX9_areHeld_44 rfl (lv_at hl 4 rfl) ?_
          refine lv_icmp_eq (tgt := 60) hx hb dX9_areHeld_45 (by decide) (fun h_ => ?_) (fun h_ => ?_)
          · replace hf := if_t h_ hf
            refine lv_iconst (v := 1) hx hb dX9_areHeld_60 (by decide) ?_
            cases hf
            exact end_z hQ hA X hI rfl dX9_areHeld_61
          · replace hf := if_f h_ hf
            exact L_48 x1 x2 x3 v_1 v_2 _ _ _ _ (lv_sub hl [2, 3, 4, 5, 1, 0] rfl) hI hf (fun z_0 z_1 z_2 _ _ _ hl hI hf => ih z_0 z_1 z_2 _ _ _ hl hI hf)
  unfold f_X9_areHeld at hf
  refine lv_iconst (v := 0) hx hb dX9_areHeld_0 (by decide) ?_
  refine lv_istore_n (lv' := [(3, .int (0 : Int32)), (0, .ref (a_to 0)), (1, .int p1), (2, .int p2)]) hx hb dX9_areHeld_1 rfl hl (by decide) rfl (fun ls hl => ?_)
  exact L_2 FU p1 p2 (0 : Int32) _ _ _ (lv_sub hl [1, 2, 3, 0] rfl) hI hf
abbrev rm_X9_addLink : Room := { frames := 1, cells := 0, slots := 0, locals := 20 }
set_option maxRecDepth 20000 in
theorem c_X9_addLink (l : Launch) (g : GT) (a_to : Nat → Nat) (to : ToS) (p1 : Int64) (p3 : Int32) (p4 : Int32) (o_to : ToS) (hf : f_X9_addLink to p1 p3 p4 = some (o_to)) : CV l yX9_addLink cX9_addLink 5 none rm_X9_addLink g [.ref (a_to 0), .long p1, .int p3, .int p4] (wTo g a_to to ++ []) (wTo g a_to o_to ++ []) := by
  refine start2 (y := yX9_addLink) (cc := cX9_addLink) (n := 5) (av := [.ref (a_to 0), .long p1, .int p3, .int p4]) (ws := (wTo g a_to to ++ [])) (Qc := fun sz => QV g (wTo g a_to to ++ []) (wTo g a_to o_to ++ []) sz) (by decide) rfl ?_
  intro p e s m args below meth c ls Q A ha hQ hA X hl hI hin
  have X : Cx p s m args meth c cX9_addLink 5 RX9 none := X
  have hl : lv_has ls 5 [(0, .ref (a_to 0)), (1, .long p1), (3, .int p3), (4, .int p4)] := hl
  obtain ⟨hx, hb, hml, hown, ht, hr, hlk⟩ := id X
  clear ha hin
  unfold f_X9_addLink at hf
  refine lv_aload_n hx hb dX9_addLink_0 rfl (lv_at hl 0 rfl) ?_
  refine g_To_links X hI has_To.l (X.fl w_300) dX9_addLink_1 ?_
  refine lv_bipush (v := 8) hx hb dX9_addLink_4 (by decide) ?_
  refine lv_icmp_ge (tgt := 92) hx hb dX9_addLink_6 (by decide) (fun h_ => ?_) (fun h_ => ?_)
  · replace hf := if_t h_ hf
    cases hf
    exact end_v hQ hA X hI dX9_addLink_92
  · replace hf := if_f h_ hf
    refine lv_iload_n hx hb dX9_addLink_9 rfl (lv_at hl 2 rfl) ?_
    obtain ⟨r_1, hc_, hf⟩ := bd1_some hf
    refine call_Si X hI Cj.nil (c_X9_isHand l g p3 r_1 hc_) ⟨rfl, rfl⟩ ⟨ht _ w_852, w_854, ht _ w_146, lk_X9_isHand⟩ w_853 rfl hl rfl rfl dX9_addLink_10 rfl rfl rfl rfl (fun H locs hI => ?_)
    refine lv_if_eq (tgt := 92) hx hb dX9_addLink_13 (by decide) (fun h_ => ?_) (fun h_ => ?_)
    · replace hf := if_t h_ hf
      cases hf
      exact end_v hQ hA X hI dX9_addLink_92
    · replace hf := if_f h_ hf
      refine lv_iload hx hb dX9_addLink_16 (lv_at hl 3 rfl) ?_
      obtain ⟨r_2, hc_, hf⟩ := bd1_some hf
      refine call_Si X hI Cj.nil (c_X9_isHand l g p4 r_2 hc_) ⟨rfl, rfl⟩ ⟨ht _ w_852, w_854, ht _ w_146, lk_X9_isHand⟩ w_853 rfl hl rfl rfl dX9_addLink_18 rfl rfl rfl rfl (fun H locs hI => ?_)
      refine lv_if_eq (tgt := 92) hx hb dX9_addLink_21 (by decide) (fun h_ => ?_) (fun h_ => ?_)
      · replace hf := if_t h_ hf
        cases hf
        exact end_v hQ hA X hI dX9_addLink_92
      · replace hf := if_f h_ hf
        refine lv_aload_n hx hb dX9_addLink_24 rfl (lv_at hl 0 rfl) ?_
        refine g_To_linkNames X hI has_To.l (X.fl w_311) dX9_addLink_25 ?_
        refine lv_aload_n hx hb dX9_addLink_28 rfl (lv_at hl 0 rfl) ?_
        refine g_To_links X hI has_To.l (X.fl w_300) dX9_addLink_29 ?_
        refine lv_lload_n hx hb dX9_addLink_32 rfl (lv_at hl 1 rfl) ?_
        obtain ⟨h_, hf⟩ := ck_someM hf
        refine st_J X hI up_To_linkNames.l h_ dX9_addLink_33 (fun H locs hI => ?_)
        generalize hz_ : (To_linkNames' to (vp_updL (To_linkNames to) (Int32.toNatClampNeg (To_links to)) p1)) = to_3 at hI hf
        clear hz_
        replace hf := lt_e hf
        refine lv_aload_n hx hb dX9_addLink_34 rfl (lv_at hl 0 rfl) ?_
        refine g_To_handAt X hI has_To.l (X.fl w_312) dX9_addLink_35 ?_
        refine lv_iconst (v := 2) hx hb dX9_addLink_38 (by decide) ?_
        refine lv_aload_n hx hb dX9_addLink_39 rfl (lv_at hl 0 rfl) ?_
        refine g_To_links X hI has_To.l (X.fl w_300) dX9_addLink_40 ?_
        refine lv_imul hx hb dX9_addLink_43 ?_
        refine lv_iload_n hx hb dX9_addLink_44 rfl (lv_at hl 2 rfl) ?_
        obtain ⟨h_, hf⟩ := ck_someM hf
        refine st_I X hI up_To_handAt.l h_ dX9_addLink_45 (fun H locs hI => ?_)
        generalize hz_ : (To_handAt' to_3 (upd (To_handAt to_3) (Int32.toNatClampNeg ((2 : Int32) * (To_links to_3))) p3)) = to_4 at hI hf
        clear hz_
        replace hf := lt_e hf
        refine lv_aload_n hx hb dX9_addLink_46 rfl (lv_at hl 0 rfl) ?_
        refine g_To_handAt X hI has_To.l (X.fl w_312) dX9_addLink_47 ?_
        refine lv_iconst (v := 2) hx hb dX9_addLink_50 (by decide) ?_
        refine lv_aload_n hx hb dX9_addLink_51 rfl (lv_at hl 0 rfl) ?_
        refine g_To_links X hI has_To.l (X.fl w_300) dX9_addLink_52 ?_
        refine lv_imul hx hb dX9_addLink_55 ?_
        refine lv_iconst (v := 1) hx hb dX9_addLink_56 (by decide) ?_
        refine lv_iadd hx hb dX9_addLink_57 ?_
        refine lv_iload hx hb dX9_addLink_58 (lv_at hl 3 rfl) ?_
        obtain ⟨h_, hf⟩ := ck_someM hf
        refine st_I X hI up_To_handAt.l h_ dX9_addLink_60 (fun H locs hI => ?_)
        generalize hz_ : (To_handAt' to_4 (upd (To_handAt to_4) (Int32.toNatClampNeg (((2 : Int32) * (To_links to_4)) + (1 : Int32))) p4)) = to_5 at hI hf
        clear hz_
        replace hf := lt_e hf
        refine lv_aload_n hx hb dX9_addLink_61 rfl (lv_at hl 0 rfl) ?_
        refine g_To_linkIn X hI has_To.l (X.fl w_314) dX9_addLink_62 ?_
        refine lv_iload_n hx hb dX9_addLink_65 rfl (lv_at hl 2 rfl) ?_
        refine lv_aload_n hx hb dX9_addLink_66 rfl (lv_at hl 0 rfl) ?_
        refine g_To_links X hI has_To.l (X.fl w_300) dX9_addLink_67 ?_
        obtain ⟨h_, hf⟩ := ck_someM hf
        refine st_I X hI up_To_linkIn.l h_ dX9_addLink_70 (fun H locs hI => ?_)
        generalize hz_ : (To_linkIn' to_5 (upd (To_linkIn to_5) (Int32.toNatClampNeg p3) (To_links to_5))) = to_6 at hI hf
        clear hz_
        replace hf := lt_e hf
        refine lv_aload_n hx hb dX9_addLink_71 rfl (lv_at hl 0 rfl) ?_
        refine g_To_linkIn X hI has_To.l (X.fl w_314) dX9_addLink_72 ?_
        refine lv_iload hx hb dX9_addLink_75 (lv_at hl 3 rfl) ?_
        refine lv_aload_n hx hb dX9_addLink_77 rfl (lv_at hl 0 rfl) ?_
        refine g_To_links X hI has_To.l (X.fl w_300) dX9_addLink_78 ?_
        obtain ⟨h_, hf⟩ := ck_someM hf
        refine st_I X hI up_To_linkIn.l h_ dX9_addLink_81 (fun H locs hI => ?_)
        generalize hz_ : (To_linkIn' to_6 (upd (To_linkIn to_6) (Int32.toNatClampNeg p4) (To_links to_6))) = to_7 at hI hf
        clear hz_
        replace hf := lt_e hf
        refine lv_aload_n hx hb dX9_addLink_82 rfl (lv_at hl 0 rfl) ?_
        refine lv_dup hx hb dX9_addLink_83 rfl ?_
        refine g_To_links X hI has_To.l (X.fl w_300) dX9_addLink_84 ?_
        refine lv_iconst (v := 1) hx hb dX9_addLink_87 (by decide) ?_
        refine lv_iadd hx hb dX9_addLink_88 ?_
        refine p_To_links X hI up_To_links.l (X.fl w_300) dX9_addLink_89 (fun H locs hI => ?_)
        generalize hz_ : (To_links' to_7 ((To_links to_7) + (1 : Int32))) = to_8 at hI hf
        clear hz_
        replace hf := lt_e hf
        cases hf
        exact end_v hQ hA X hI dX9_addLink_92
abbrev rm_X9_addPerson : Room := { frames := 0, cells := 0, slots := 0, locals := 0 }
set_option maxRecDepth 20000 in
theorem c_X9_addPerson (l : Launch) (g : GT) (a_to : Nat → Nat) (to : ToS) (p1 : Int64) (p3 : Int32) (o_to : ToS) (hf : f_X9_addPerson to p1 p3 = some (o_to)) : CV l yX9_addPerson cX9_addPerson 4 none rm_X9_addPerson g [.ref (a_to 0), .long p1, .int p3] (wTo g a_to to ++ []) (wTo g a_to o_to ++ []) := by
  refine start2 (y := yX9_addPerson) (cc := cX9_addPerson) (n := 4) (av := [.ref (a_to 0), .long p1, .int p3]) (ws := (wTo g a_to to ++ [])) (Qc := fun sz => QV g (wTo g a_to to ++ []) (wTo g a_to o_to ++ []) sz) (by decide) rfl ?_
  intro p e s m args below meth c ls Q A ha hQ hA X hl hI hin
  have X : Cx p s m args meth c cX9_addPerson 4 RX9 none := X
  have hl : lv_has ls 4 [(0, .ref (a_to 0)), (1, .long p1), (3, .int p3)] := hl
  obtain ⟨hx, hb, hml, hown, ht, hr, hlk⟩ := id X
  clear ha hin
  unfold f_X9_addPerson at hf
  refine lv_aload_n hx hb dX9_addPerson_0 rfl (lv_at hl 0 rfl) ?_
  refine g_To_people X hI has_To.l (X.fl w_297) dX9_addPerson_1 ?_
  refine lv_bipush (v := 8) hx hb dX9_addPerson_4 (by decide) ?_
  refine lv_icmp_ge (tgt := 39) hx hb dX9_addPerson_6 (by decide) (fun h_ => ?_) (fun h_ => ?_)
  · replace hf := if_t h_ hf
    cases hf
    exact end_v hQ hA X hI dX9_addPerson_39
  · replace hf := if_f h_ hf
    refine lv_aload_n hx hb dX9_addPerson_9 rfl (lv_at hl 0 rfl) ?_
    refine g_To_personNames X hI has_To.l (X.fl w_308) dX9_addPerson_10 ?_
    refine lv_aload_n hx hb dX9_addPerson_13 rfl (lv_at hl 0 rfl) ?_
    refine g_To_people X hI has_To.l (X.fl w_297) dX9_addPerson_14 ?_
    refine lv_lload_n hx hb dX9_addPerson_17 rfl (lv_at hl 1 rfl) ?_
    obtain ⟨h_, hf⟩ := ck_someM hf
    refine st_J X hI up_To_personNames.l h_ dX9_addPerson_18 (fun H locs hI => ?_)
    generalize hz_ : (To_personNames' to (vp_updL (To_personNames to) (Int32.toNatClampNeg (To_people to)) p1)) = to_1 at hI hf
    clear hz_
    replace hf := lt_e hf
    refine lv_aload_n hx hb dX9_addPerson_19 rfl (lv_at hl 0 rfl) ?_
    refine g_To_talls X hI has_To.l (X.fl w_309) dX9_addPerson_20 ?_
    refine lv_aload_n hx hb dX9_addPerson_23 rfl (lv_at hl 0 rfl) ?_
    refine g_To_people X hI has_To.l (X.fl w_297) dX9_addPerson_24 ?_
    refine lv_iload_n hx hb dX9_addPerson_27 rfl (lv_at hl 2 rfl) ?_
    obtain ⟨h_, hf⟩ := ck_someM hf
    refine st_I X hI up_To_talls.l h_ dX9_addPerson_28 (fun H locs hI => ?_)
    generalize hz_ : (To_talls' to_1 (upd (To_talls to_1) (Int32.toNatClampNeg (To_people to_1)) p3)) = to_2 at hI hf
    clear hz_
    replace hf := lt_e hf
    refine lv_aload_n hx hb dX9_addPerson_29 rfl (lv_at hl 0 rfl) ?_
    refine lv_dup hx hb dX9_addPerson_30 rfl ?_
    refine g_To_people X hI has_To.l (X.fl w_297) dX9_addPerson_31 ?_
    refine lv_iconst (v := 1) hx hb dX9_addPerson_34 (by decide) ?_
    refine lv_iadd hx hb dX9_addPerson_35 ?_
    refine p_To_people X hI up_To_people.l (X.fl w_297) dX9_addPerson_36 (fun H locs hI => ?_)
    generalize hz_ : (To_people' to_2 ((To_people to_2) + (1 : Int32))) = to_3 at hI hf
    clear hz_
    replace hf := lt_e hf
    cases hf
    exact end_v hQ hA X hI dX9_addPerson_39
abbrev rm_X9_lacksSomething : Room := { frames := 2, cells := 0, slots := 0, locals := 41 }
set_option maxRecDepth 20000 in
theorem c_X9_lacksSomething (l : Launch) (g : GT) (a_to : Nat → Nat) (to : ToS) (r_ : Int32) (hf : f_X9_lacksSomething to = some (r_)) : CI l yX9_lacksSomething cX9_lacksSomething 2 (some .boolean) rm_X9_lacksSomething g [.ref (a_to 0)] (wTo g a_to to ++ []) (wTo g a_to to ++ []) r_ := by
  refine start2 (y := yX9_lacksSomething) (cc := cX9_lacksSomething) (n := 2) (av := [.ref (a_to 0)]) (ws := (wTo g a_to to ++ [])) (Qc := fun sz => QI g (wTo g a_to to ++ []) (wTo g a_to to ++ []) r_ sz) (by decide) rfl ?_
  intro p e s m args below meth c ls Q A ha hQ hA X hl hI hin
  have X : Cx p s m args meth c cX9_lacksSomething 2 RX9 (some .boolean) := X
  have hl : lv_has ls 2 [(0, .ref (a_to 0))] := hl
  obtain ⟨hx, hb, hml, hown, ht, hr, hlk⟩ := id X
  clear ha hin
  have L_2 : ∀ (n_ : Nat) (x1 : Int32) (H : Heap) (locs : List Loc) (ls : Array Slot), lv_has ls 2 [(0, .ref (a_to 0)), (1, .int x1)] → In g A s.heap s (wTo g a_to to ++ []) H locs → f_X9_lacksSomething_L2 n_ x1 to = some (r_) → W p l e rm_X9_lacksSomething s m args below meth c H locs 0 0 Q (F0 m 2 ls []) := by
    intro n_
    induction n_ with
    | zero =>
      intro x1 H locs ls hl hI hf
      rw [f_X9_lacksSomething_L2] at hf
      cases hf
    | succ n_ ih =>
      intro x1 H locs ls hl hI hf
      rw [f_X9_lacksSomething_L2] at hf
      refine lv_iload_n hx hb dX9_lacksSomething_2 rfl (lv_at hl 1 rfl) ?_
      refine lv_iconst (v := 2) hx hb dX9_lacksSomething_3 (by decide) ?_
      refine lv_aload_n hx hb dX9_lacksSomething_4 rfl (lv_at hl 0 rfl) ?_
      refine g_To_people X hI has_To.l (X.fl w_297) dX9_lacksSomething_5 ?_
      refine lv_imul hx hb dX9_lacksSomething_8 ?_
      refine lv_icmp_ge (tgt := 28) hx hb dX9_lacksSomething_9 (by decide) (fun h_ => ?_) (fun h_ => ?_)
      · replace hf := if_t h_ hf
        refine lv_aload_n hx hb dX9_lacksSomething_28 rfl (lv_at hl 0 rfl) ?_
        refine g_To_people X hI has_To.l (X.fl w_297) dX9_lacksSomething_29 ?_
        refine lv_if_ne (tgt := 39) hx hb dX9_lacksSomething_32 (by decide) (fun h_ => ?_) (fun h_ => ?_)
        · replace hf := if_f h_ hf
          refine lv_iconst (v := 0) hx hb dX9_lacksSomething_39 (by decide) ?_
          cases hf
          exact end_z hQ hA X hI rfl dX9_lacksSomething_40
        · replace hf := if_t h_ hf
          refine lv_iconst (v := 1) hx hb dX9_lacksSomething_35 (by decide) ?_
          refine lv_goto (tgt := 40) hx hb dX9_lacksSomething_36 (by decide) ?_
          cases hf
          exact end_z hQ hA X hI rfl dX9_lacksSomething_40
      · replace hf := if_f h_ hf
        refine lv_aload_n hx hb dX9_lacksSomething_12 rfl (lv_at hl 0 rfl) ?_
        refine lv_iload_n hx hb dX9_lacksSomething_13 rfl (lv_at hl 1 rfl) ?_
        obtain ⟨r_1, hc_, hf⟩ := bd1_some hf
        refine call_Vi X hI (Cj.keep Cj.id) (c_X9_isHeld l g a_to to x1 r_1 hc_) ⟨rfl, rfl⟩ ⟨ht _ w_894, w_851, ht _ w_146, lk_X9_isHeld⟩ w_849 w_850 rfl rfl rfl hl rfl rfl dX9_lacksSomething_14 rfl rfl rfl rfl (fun H locs hI => ?_)
        refine lv_if_ne (tgt := 22) hx hb dX9_lacksSomething_17 (by decide) (fun h_ => ?_) (fun h_ => ?_)
        · replace hf := if_f h_ hf
          obtain ⟨v_2, e_⟩ : ∃ y : Int32, y = (x1 + (1 : Int32)) := ⟨_, rfl⟩
          replace hf := lt_to e_ hf
          refine lv_iinc (v := v_2) (lv' := [(1, .int v_2), (0, .ref (a_to 0))]) hx hb dX9_lacksSomething_22 hl (k := 1) rfl (by rw [e_]; rfl) (by decide) rfl (fun ls hl => ?_)
          clear e_
          refine lv_goto (tgt := 2) hx hb dX9_lacksSomething_25 (by decide) ?_
          exact ih v_2 _ _ _ (lv_sub hl [1, 0] rfl) hI hf
        · replace hf := if_t h_ hf
          refine lv_iconst (v := 1) hx hb dX9_lacksSomething_20 (by decide) ?_
          cases hf
          exact end_z hQ hA X hI rfl dX9_lacksSomething_21
  unfold f_X9_lacksSomething at hf
  refine lv_iconst (v := 0) hx hb dX9_lacksSomething_0 (by decide) ?_
  refine lv_istore_n (lv' := [(1, .int (0 : Int32)), (0, .ref (a_to 0))]) hx hb dX9_lacksSomething_1 rfl hl (by decide) rfl (fun ls hl => ?_)
  exact L_2 FU (0 : Int32) _ _ _ (lv_sub hl [1, 0] rfl) hI hf
abbrev rm_X8_spelling : Room := { frames := 5, cells := 0, slots := 0, locals := 121 }
set_option maxRecDepth 20000 in
theorem c_X8_spelling (l : Launch) (g : GT) (k0t : Nat) (r_ : Int64) (hf : f_X8_spelling k0t = some (r_)) : CL l yX8_spelling cX8_spelling 4 (some .long) rm_X8_spelling g [.ref (g.1.2.1 k0t)] ([]) ([]) r_ := by
  refine start2 (y := yX8_spelling) (cc := cX8_spelling) (n := 4) (av := [.ref (g.1.2.1 k0t)]) (ws := ([])) (Qc := fun sz => QL g ([]) ([]) r_ sz) (by decide) rfl ?_
  intro p e s m args below meth c ls Q A ha hQ hA X hl hI hin
  have X : Cx p s m args meth c cX8_spelling 4 RX8 (some .long) := X
  have hl : lv_has ls 4 [(0, .ref (g.1.2.1 k0t))] := hl
  obtain ⟨hx, hb, hml, hown, ht, hr, hlk⟩ := id X
  clear ha hin
  have L_4 : ∀ (n_ : Nat) (x1 : Int64) (x3 : Int32) (H : Heap) (locs : List Loc) (ls : Array Slot), lv_has ls 4 [(0, .ref (g.1.2.1 k0t)), (1, .long x1), (3, .int x3)] → In g A s.heap s ([]) H locs → f_X8_spelling_L4 n_ x1 x3 k0t = some (r_) → W p l e rm_X8_spelling s m args below meth c H locs 0 0 Q (F0 m 4 ls []) := by
    intro n_
    induction n_ with
    | zero =>
      intro x1 x3 H locs ls hl hI hf
      rw [f_X8_spelling_L4] at hf
      cases hf
    | succ n_ ih =>
      intro x1 x3 H locs ls hl hI hf
      rw [f_X8_spelling_L4] at hf
      refine lv_iload_n hx hb dX8_spelling_4 rfl (lv_at hl 2 rfl) ?_
      refine lv_aload_n hx hb dX8_spelling_5 rfl (lv_at hl 0 rfl) ?_
      obtain ⟨r_1, hc_, hf⟩ := bd1_some hf
      refine call_T X hI (c_strlen l g k0t r_1 hc_) (k_strlen hc_) ⟨rfl, rfl⟩ ⟨ht _ w_188, w_191, ht _ w_142, lk_J0_length_8abf5⟩ w_189 w_190 rfl hl rfl rfl dX8_spelling_6 rfl rfl rfl rfl (fun H locs hI => ?_)
      refine lv_icmp_ge (tgt := 28) hx hb dX8_spelling_9 (by decide) (fun h_ => ?_) (fun h_ => ?_)
      · replace hf := if_t h_ hf
        refine lv_lload_n hx hb dX8_spelling_28 rfl (lv_at hl 1 rfl) ?_
        cases hf
        exact end_l hQ hA X hI dX8_spelling_29
      · replace hf := if_f h_ hf
        refine lv_lload_n hx hb dX8_spelling_12 rfl (lv_at hl 1 rfl) ?_
        refine lv_aload_n hx hb dX8_spelling_13 rfl (lv_at hl 0 rfl) ?_
        refine lv_iload_n hx hb dX8_spelling_14 rfl (lv_at hl 2 rfl) ?_
        obtain ⟨r_2, hc_, hf⟩ := bd1_some hf
        refine call_T X hI (c_charAt l g k0t x3 r_2 hc_) (k_charAt hc_) ⟨rfl, rfl⟩ ⟨ht _ w_198, w_201, ht _ w_142, lk_J0_charAt_5068e⟩ w_199 w_200 rfl hl rfl rfl dX8_spelling_15 rfl rfl rfl rfl (fun H locs hI => ?_)
        obtain ⟨r_3, hc_, hf⟩ := bd1_some hf
        refine call_Sl X hI Cj.nil (c_X8_withLetter l g x1 r_2 r_3 hc_) ⟨rfl, rfl⟩ ⟨ht _ w_236, w_238, ht _ w_141, lk_X8_withLetter⟩ w_237 rfl hl rfl rfl dX8_spelling_18 rfl rfl rfl rfl (fun H locs hI => ?_)
        refine lv_lstore_n (lv' := [(1, .long r_3), (0, .ref (g.1.2.1 k0t)), (3, .int x3)]) hx hb dX8_spelling_21 rfl hl (by decide) rfl (fun ls hl => ?_)
        obtain ⟨v_4, e_⟩ : ∃ y : Int32, y = (x3 + (1 : Int32)) := ⟨_, rfl⟩
        replace hf := lt_to e_ hf
        refine lv_iinc (v := v_4) (lv' := [(3, .int v_4), (1, .long r_3), (0, .ref (g.1.2.1 k0t))]) hx hb dX8_spelling_22 hl (k := 2) rfl (by rw [e_]; rfl) (by decide) rfl (fun ls hl => ?_)
        clear e_
        refine lv_goto (tgt := 4) hx hb dX8_spelling_25 (by decide) ?_
        exact ih r_3 v_4 _ _ _ (lv_sub hl [2, 1, 0] rfl) hI hf
  unfold f_X8_spelling at hf
  refine lv_lconst (v := 0) hx hb dX8_spelling_0 (by decide) ?_
  refine lv_lstore_n (lv' := [(1, .long (0 : Int64)), (0, .ref (g.1.2.1 k0t))]) hx hb dX8_spelling_1 rfl hl (by decide) rfl (fun ls hl => ?_)
  refine lv_iconst (v := 0) hx hb dX8_spelling_2 (by decide) ?_
  refine lv_istore_n (lv' := [(3, .int (0 : Int32)), (1, .long (0 : Int64)), (0, .ref (g.1.2.1 k0t))]) hx hb dX8_spelling_3 rfl hl (by decide) rfl (fun ls hl => ?_)
  exact L_4 FU (0 : Int64) (0 : Int32) _ _ _ (lv_sub hl [2, 1, 0] rfl) hI hf
abbrev rm_X8_hasRoom : Room := { frames := 0, cells := 0, slots := 0, locals := 0 }
set_option maxRecDepth 20000 in
theorem c_X8_hasRoom (l : Launch) (g : GT) (a_ta : Nat → Nat) (ta : TaS) (r_ : Int32) (hf : f_X8_hasRoom ta = some (r_)) : CI l yX8_hasRoom cX8_hasRoom 1 (some .boolean) rm_X8_hasRoom g [.ref (a_ta 0)] (wTa g a_ta ta ++ []) (wTa g a_ta ta ++ []) r_ := by
  refine start2 (y := yX8_hasRoom) (cc := cX8_hasRoom) (n := 1) (av := [.ref (a_ta 0)]) (ws := (wTa g a_ta ta ++ [])) (Qc := fun sz => QI g (wTa g a_ta ta ++ []) (wTa g a_ta ta ++ []) r_ sz) (by decide) rfl ?_
  intro p e s m args below meth c ls Q A ha hQ hA X hl hI hin
  have X : Cx p s m args meth c cX8_hasRoom 1 RX8 (some .boolean) := X
  have hl : lv_has ls 1 [(0, .ref (a_ta 0))] := hl
  obtain ⟨hx, hb, hml, hown, ht, hr, hlk⟩ := id X
  clear ha hin
  unfold f_X8_hasRoom at hf
  refine lv_aload_n hx hb dX8_hasRoom_0 rfl (lv_at hl 0 rfl) ?_
  refine g_Ta_filled X hI has_Ta.l (X.fl w_250) dX8_hasRoom_1 ?_
  refine lv_bipush (v := 20) hx hb dX8_hasRoom_4 (by decide) ?_
  refine lv_iadd hx hb dX8_hasRoom_6 ?_
  refine lv_sipush (v := 900) hx hb dX8_hasRoom_7 (by decide) ?_
  refine lv_icmp_gt (tgt := 17) hx hb dX8_hasRoom_10 (by decide) (fun h_ => ?_) (fun h_ => ?_)
  · replace hf := if_t h_ hf
    refine lv_iconst (v := 0) hx hb dX8_hasRoom_17 (by decide) ?_
    cases hf
    exact end_z hQ hA X hI rfl dX8_hasRoom_18
  · replace hf := if_f h_ hf
    refine lv_iconst (v := 1) hx hb dX8_hasRoom_13 (by decide) ?_
    refine lv_goto (tgt := 18) hx hb dX8_hasRoom_14 (by decide) ?_
    cases hf
    exact end_z hQ hA X hI rfl dX8_hasRoom_18
abbrev rm_X8_take : Room := { frames := 0, cells := 0, slots := 0, locals := 0 }
set_option maxRecDepth 20000 in
theorem c_X8_take (l : Launch) (g : GT) (a_ta : Nat → Nat) (ta : TaS) (p1 : Int32) (o_ta : TaS) (hf : f_X8_take ta p1 = some (o_ta)) : CV l yX8_take cX8_take 3 none rm_X8_take g [.ref (a_ta 0), .int p1] (wTa g a_ta ta ++ []) (wTa g a_ta o_ta ++ []) := by
  refine start2 (y := yX8_take) (cc := cX8_take) (n := 3) (av := [.ref (a_ta 0), .int p1]) (ws := (wTa g a_ta ta ++ [])) (Qc := fun sz => QV g (wTa g a_ta ta ++ []) (wTa g a_ta o_ta ++ []) sz) (by decide) rfl ?_
  intro p e s m args below meth c ls Q A ha hQ hA X hl hI hin
  have X : Cx p s m args meth c cX8_take 3 RX8 none := X
  have hl : lv_has ls 3 [(0, .ref (a_ta 0)), (1, .int p1)] := hl
  obtain ⟨hx, hb, hml, hown, ht, hr, hlk⟩ := id X
  clear ha hin
  have L_3 : ∀ (n_ : Nat) (x1 : Int32) (x2 : Int32) (ta : TaS) (H : Heap) (locs : List Loc) (ls : Array Slot), lv_has ls 3 [(0, .ref (a_ta 0)), (1, .int x1), (2, .int x2)] → In g A s.heap s (wTa g a_ta ta ++ []) H locs → f_X8_take_L3 n_ x1 x2 ta = some (o_ta) → W p l e rm_X8_take s m args below meth c H locs 0 0 Q (F0 m 3 ls []) := by
    intro n_
    induction n_ with
    | zero =>
      intro x1 x2 ta H locs ls hl hI hf
      rw [f_X8_take_L3] at hf
      cases hf
    | succ n_ ih =>
      intro x1 x2 ta H locs ls hl hI hf
      rw [f_X8_take_L3] at hf
      refine lv_iload_n hx hb dX8_take_3 rfl (lv_at hl 2 rfl) ?_
      refine lv_if_lt (tgt := 49) hx hb dX8_take_4 (by decide) (fun h_ => ?_) (fun h_ => ?_)
      · replace hf := if_t h_ hf
        cases hf
        exact end_v hQ hA X hI dX8_take_49
      · replace hf := if_f h_ hf
        refine lv_aload_n hx hb dX8_take_7 rfl (lv_at hl 0 rfl) ?_
        refine g_Ta_filled X hI has_Ta.l (X.fl w_250) dX8_take_8 ?_
        refine lv_sipush (v := 900) hx hb dX8_take_11 (by decide) ?_
        refine lv_icmp_ge (tgt := 49) hx hb dX8_take_14 (by decide) (fun h_ => ?_) (fun h_ => ?_)
        · replace hf := if_t h_ hf
          cases hf
          exact end_v hQ hA X hI dX8_take_49
        · replace hf := if_f h_ hf
          refine lv_aload_n hx hb dX8_take_17 rfl (lv_at hl 0 rfl) ?_
          refine g_Ta_bytes X hI has_Ta.l (X.fl w_249) dX8_take_18 ?_
          refine lv_aload_n hx hb dX8_take_21 rfl (lv_at hl 0 rfl) ?_
          refine g_Ta_filled X hI has_Ta.l (X.fl w_250) dX8_take_22 ?_
          refine lv_iload_n hx hb dX8_take_25 rfl (lv_at hl 1 rfl) ?_
          refine lv_iload_n hx hb dX8_take_26 rfl (lv_at hl 2 rfl) ?_
          refine lv_iushr hx hb dX8_take_27 rfl ?_
          refine lv_sipush (v := 255) hx hb dX8_take_28 (by decide) ?_
          refine lv_iand hx hb dX8_take_31 ?_
          obtain ⟨h_, hf⟩ := ck_someM hf
          refine st_I X hI up_Ta_bytes.l h_ dX8_take_32 (fun H locs hI => ?_)
          generalize hz_ : (Ta_bytes' ta (upd (Ta_bytes ta) (Int32.toNatClampNeg (Ta_filled ta)) (((Int32.toUInt32 x1 >>> (Int32.toUInt32 x2 &&& Int32.toUInt32 31)).toInt32) &&& (255 : Int32)))) = ta_1 at hI hf
          clear hz_
          replace hf := lt_e hf
          refine lv_aload_n hx hb dX8_take_33 rfl (lv_at hl 0 rfl) ?_
          refine lv_dup hx hb dX8_take_34 rfl ?_
          refine g_Ta_filled X hI has_Ta.l (X.fl w_250) dX8_take_35 ?_
          refine lv_iconst (v := 1) hx hb dX8_take_38 (by decide) ?_
          refine lv_iadd hx hb dX8_take_39 ?_
          refine p_Ta_filled X hI up_Ta_filled.l (X.fl w_250) dX8_take_40 (fun H locs hI => ?_)
          generalize hz_ : (Ta_filled' ta_1 ((Ta_filled ta_1) + (1 : Int32))) = ta_2 at hI hf
          clear hz_
          replace hf := lt_e hf
          obtain ⟨v_3, e_⟩ : ∃ y : Int32, y = (x2 + (-8 : Int32)) := ⟨_, rfl⟩
          replace hf := lt_to e_ hf
          refine lv_iinc (v := v_3) (lv' := [(2, .int v_3), (0, .ref (a_ta 0)), (1, .int x1)]) hx hb dX8_take_43 hl (k := 2) rfl (by rw [e_]; rfl) (by decide) rfl (fun ls hl => ?_)
          clear e_
          refine lv_goto (tgt := 3) hx hb dX8_take_46 (by decide) ?_
          exact ih x1 v_3 ta_2 _ _ _ (lv_sub hl [1, 2, 0] rfl) hI hf
  unfold f_X8_take at hf
  refine lv_bipush (v := 24) hx hb dX8_take_0 (by decide) ?_
  refine lv_istore_n (lv' := [(2, .int (24 : Int32)), (0, .ref (a_ta 0)), (1, .int p1)]) hx hb dX8_take_2 rfl hl (by decide) rfl (fun ls hl => ?_)
  exact L_3 FU p1 (24 : Int32) ta _ _ _ (lv_sub hl [1, 2, 0] rfl) hI hf
