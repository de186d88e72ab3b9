abbrev rm_J7_fill_53178 : Room := { frames := 0, cells := 0, slots := 0, locals := 0 }
set_option maxRecDepth 20000 in
theorem c_J7_fill_53178 (l : Launch) (g : GT) (a_ra : Nat → Nat) (ra : Nat → Int32) (N_ : Nat) (p1 : Int32) (o_ra : Nat → Int32) (hf : f_J7_fill_53178 ra N_ p1 = some (o_ra)) : CV l yJ7_fill_53178 cJ7_fill_53178 4 none rm_J7_fill_53178 g [.ref (a_ra 0), .int p1] ([(a_ra 0, .inl (g.2 0, N_, .inl ra))] ++ []) ([(a_ra 0, .inl (g.2 0, N_, .inl o_ra))] ++ []) := by
  refine start2 (y := yJ7_fill_53178) (cc := cJ7_fill_53178) (n := 4) (av := [.ref (a_ra 0), .int p1]) (ws := ([(a_ra 0, .inl (g.2 0, N_, .inl ra))] ++ [])) (Qc := fun sz => QV g ([(a_ra 0, .inl (g.2 0, N_, .inl ra))] ++ []) ([(a_ra 0, .inl (g.2 0, N_, .inl o_ra))] ++ []) sz) (by decide) rfl ?_
  intro p e s m args below meth c ls Q A ha hQ hA X hl hI hin
  have X : Cx p s m args meth c cJ7_fill_53178 4 RJ7 none := X
  have hl : lv_has ls 4 [(0, .ref (a_ra 0)), (1, .int p1)] := hl
  obtain ⟨hx, hb, hml, hown, ht, hr, hlk⟩ := id X
  clear ha hin
  have L_5 : ∀ (n_ : Nat) (x1 : Int32) (x2 : Int32) (x3 : Int32) (ra : Nat → Int32) (H : Heap) (locs : List Loc) (ls : Array Slot), lv_has ls 4 [(0, .ref (a_ra 0)), (1, .int x1), (2, .int x2), (3, .int x3)] → In g A s.heap s ([(a_ra 0, .inl (g.2 0, N_, .inl ra))] ++ []) H locs → f_J7_fill_53178_L5 n_ x1 x2 x3 ra N_ = some (o_ra) → W p l e rm_J7_fill_53178 s m args below meth c H locs 0 0 Q (F0 m 5 ls []) := by
    intro n_
    induction n_ with
    | zero =>
      intro x1 x2 x3 ra H locs ls hl hI hf
      rw [f_J7_fill_53178_L5] at hf
      cases hf
    | succ n_ ih =>
      intro x1 x2 x3 ra H locs ls hl hI hf
      rw [f_J7_fill_53178_L5] at hf
      refine lv_iload_n hx hb dJ7_fill_53178_5 rfl (lv_at hl 2 rfl) ?_
      refine lv_iload_n hx hb dJ7_fill_53178_6 rfl (lv_at hl 3 rfl) ?_
      refine lv_icmp_ge (tgt := 20) hx hb dJ7_fill_53178_7 (by decide) (fun h_ => ?_) (fun h_ => ?_)
      · replace hf := if_t h_ hf
        cases hf
        exact end_v hQ hA X hI dJ7_fill_53178_20
      · replace hf := if_f h_ hf
        refine lv_aload_n hx hb dJ7_fill_53178_10 rfl (lv_at hl 0 rfl) ?_
        refine lv_iload_n hx hb dJ7_fill_53178_11 rfl (lv_at hl 2 rfl) ?_
        refine lv_iload_n hx hb dJ7_fill_53178_12 rfl (lv_at hl 1 rfl) ?_
        obtain ⟨h_, hf⟩ := ck_someM hf
        refine st_I X hI (show Ups _ [(a_ra 0, .inl (g.2 0, N_, .inl (upd (ra) (Int32.toNatClampNeg x2) x1)))] _ _ from ⟨0, rfl, rfl⟩).l h_ dJ7_fill_53178_13 (fun H locs hI => ?_)
        generalize hz_ : (upd (ra) (Int32.toNatClampNeg x2) x1) = ra_2 at hI hf
        clear hz_
        replace hf := lt_e hf
        obtain ⟨v_3, e_⟩ : ∃ y : Int32, y = (x2 + (1 : Int32)) := ⟨_, rfl⟩
        replace hf := lt_to e_ hf
        refine lv_iinc (v := v_3) (lv' := [(2, .int v_3), (0, .ref (a_ra 0)), (1, .int x1), (3, .int x3)]) hx hb dJ7_fill_53178_14 hl (k := 2) rfl (by rw [e_]; rfl) (by decide) rfl (fun ls hl => ?_)
        clear e_
        refine lv_goto (tgt := 5) hx hb dJ7_fill_53178_17 (by decide) ?_
        exact ih x1 v_3 x3 ra_2 _ _ _ (lv_sub hl [1, 2, 0, 3] rfl) hI hf
  unfold f_J7_fill_53178 at hf
  refine lv_iconst (v := 0) hx hb dJ7_fill_53178_0 (by decide) ?_
  refine lv_istore_n (lv' := [(2, .int (0 : Int32)), (0, .ref (a_ra 0)), (1, .int p1)]) hx hb dJ7_fill_53178_1 rfl hl (by decide) rfl (fun ls hl => ?_)
  refine lv_aload_n hx hb dJ7_fill_53178_2 rfl (lv_at hl 1 rfl) ?_
  refine al_n (t0 := 0) (v := Int32.ofNat N_) 0 X hI (show Has _ _ from ⟨0, rfl⟩).l rfl rfl dJ7_fill_53178_3 ?_
  refine lv_topi (fun v_1 e_ => ?_)
  replace hf := lt_to e_ hf
  clear e_
  refine lv_istore_n (lv' := [(3, .int v_1), (2, .int (0 : Int32)), (0, .ref (a_ra 0)), (1, .int p1)]) hx hb dJ7_fill_53178_4 rfl hl (by decide) rfl (fun ls hl => ?_)
  exact L_5 FU p1 (0 : Int32) v_1 ra _ _ _ (lv_sub hl [2, 3, 1, 0] rfl) hI hf
abbrev rm_J9_floorMod_7cf53 : Room := { frames := 0, cells := 0, slots := 0, locals := 0 }
set_option maxRecDepth 20000 in
theorem c_J9_floorMod_7cf53 (l : Launch) (g : GT) (p0 : Int32) (p1 : Int32) (r_ : Int32) (hf : f_J9_floorMod_7cf53 p0 p1 = some (r_)) : CI l yJ9_floorMod_7cf53 cJ9_floorMod_7cf53 3 (some .int) rm_J9_floorMod_7cf53 g [.int p0, .int p1] ([]) ([]) r_ := by
  refine start2F (y := yJ9_floorMod_7cf53) (cc := cJ9_floorMod_7cf53) (n := 3) (av := [.int p0, .int p1]) (ws := ([])) (Qc := fun sz => QI g ([]) ([]) r_ sz) (by decide +kernel) rfl ?_
  intro p e s m args below meth c ls Q A ha hQ hA X hl hI hin
  have X : Cx p s m args meth c cJ9_floorMod_7cf53 3 RJ9 (some .int) := X
  have hl : lv_has ls 3 [(0, .int p0), (1, .int p1)] := hl
  obtain ⟨hx, hb, hml, hown, ht, hr, hlk⟩ := id X
  clear ha hin
  unfold f_J9_floorMod_7cf53 at hf
  refine lv_iload_n hx hb dJ9_floorMod_7cf53_0 rfl (lv_at hl 0 rfl) ?_
  refine lv_iload_n hx hb dJ9_floorMod_7cf53_1 rfl (lv_at hl 1 rfl) ?_
  obtain ⟨h_, hf⟩ := nz_some hf
  refine lv_irem hx hb dJ9_floorMod_7cf53_2 h_ ?_
  refine lv_topi (fun v_1 e_ => ?_)
  replace hf := lt_to e_ hf
  clear e_
  refine lv_istore_n (lv' := [(2, .int v_1), (0, .int p0), (1, .int p1)]) hx hb dJ9_floorMod_7cf53_3 rfl hl (by decide) rfl (fun ls hl => ?_)
  refine lv_iload_n hx hb dJ9_floorMod_7cf53_4 rfl (lv_at hl 1 rfl) ?_
  refine lv_iload_n hx hb dJ9_floorMod_7cf53_5 rfl (lv_at hl 2 rfl) ?_
  refine lv_ixor hx hb dJ9_floorMod_7cf53_6 ?_
  refine lv_if_ge (tgt := 18) hx hb dJ9_floorMod_7cf53_7 (by decide) (fun h_ => ?_) (fun h_ => ?_)
  · replace hf := if_t h_ hf
    refine lv_iload_n hx hb dJ9_floorMod_7cf53_18 rfl (lv_at hl 0 rfl) ?_
    cases hf
    exact end_i hQ hA X hI dJ9_floorMod_7cf53_19
  · replace hf := if_f h_ hf
    refine lv_iload_n hx hb dJ9_floorMod_7cf53_10 rfl (lv_at hl 0 rfl) ?_
    refine lv_if_eq (tgt := 18) hx hb dJ9_floorMod_7cf53_11 (by decide) (fun h_ => ?_) (fun h_ => ?_)
    · replace hf := if_t h_ hf
      refine lv_iload_n hx hb dJ9_floorMod_7cf53_18 rfl (lv_at hl 0 rfl) ?_
      cases hf
      exact end_i hQ hA X hI dJ9_floorMod_7cf53_19
    · replace hf := if_f h_ hf
      refine lv_iload_n hx hb dJ9_floorMod_7cf53_14 rfl (lv_at hl 0 rfl) ?_
      refine lv_iload_n hx hb dJ9_floorMod_7cf53_15 rfl (lv_at hl 2 rfl) ?_
      refine lv_iadd hx hb dJ9_floorMod_7cf53_16 ?_
      cases hf
      exact end_i hQ hA X hI dJ9_floorMod_7cf53_17
