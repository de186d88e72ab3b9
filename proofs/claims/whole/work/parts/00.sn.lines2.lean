section LINES2
variable {b : Nat → Nat} {n : Nat} {ps : List Nat} {ta : TaS} {re : ReS} {md md' md0 : MdS} {p : Nat} {to : ToS} {rd : TnS} {P L X : Nat}
theorem begins_g {x y : Int32} (h1 : ¬ x = y) (h2 : ¬ Tn_height rd = -1) : f_X13_begins md rd x y = bd1 (f_X13_goesOn md) fun m => some m := by
  unfold f_X13_begins f_X13_begins_L10 f_X13_begins_L27
  rw [if_neg h1, if_neg h2]
theorem begins_5 {x y : Int32} (h1 : x = y) (e : f_X13_flaw md 5 = some md') (h5 : Md_sort md' = 5) : f_X13_begins md rd x y = some md' := by
  unfold f_X13_begins f_X13_begins_L10 f_X13_begins_L27
  rw [if_pos h1, bd1_e e, bd1_e (ov_flaw h5 6), bd1_e (ov_goes h5), ite_self]
theorem begins_6 {x y : Int32} (h1 : ¬ x = y) (h2 : Tn_height rd = -1) (e : f_X13_flaw md 6 = some md') (h5 : Md_sort md' = 5) : f_X13_begins md rd x y = some md' := by
  unfold f_X13_begins f_X13_begins_L10 f_X13_begins_L27
  rw [if_neg h1, if_pos h2, bd1_e e, bd1_e (ov_goes h5)]
theorem ov_person (hT : TB to rd P L X) (h1 : f_X13_begins md rd (Tn_people rd) 8 = some md') (h5 : Md_sort md' = 5) : f_X13_readPerson md rd = some (md', rd) := by
  unfold f_X13_readPerson
  rw [bd1_e h1, bd2_e (ov_fresh hT h5), bd2_e (ov_part h5 13 1 99), if_pos h5]
theorem ov_hold (hT : TB to rd P L X) (h1 : f_X13_begins md rd (Tn_links rd) 8 = some md') (h5 : Md_sort md' = 5) : f_X13_readHold md rd = some (md', rd) := by
  unfold f_X13_readHold f_X13_readHold_L81
  rw [bd1_e h1, bd2_e (ov_fresh hT h5), bd2_e (ov_known hT h5 0), bd1_e (ov_goes h5), bd2_e (ov_hand h5 0), bd2_e (ov_known hT h5 0), if_pos h5, bd1_e (ov_goes h5), bd2_e (ov_hand h5 0), if_pos h5]
theorem ov_cross59 (h5 : Md_sort md = 5) (x1 x2 x3 l u : Int32) : f_X13_readCross_L59 x1 x2 x3 l u md rd = some (md, rd) := by
  unfold f_X13_readCross_L59 f_X13_readCross_L93
  rw [bd2_e (ov_place h5 l u), bd1_e (ov_isWord h5 21), if_pos rfl, bd1_e (ov_isWord h5 22), if_pos rfl, bd1_e (ov_flaw h5 1), bd1_e (ov_goes h5), if_pos h5]
theorem ov_cross (hT : TB to rd P L X) (h1 : f_X13_begins md rd (Tn_crossings rd) 7 = some md') (h5 : Md_sort md' = 5) : f_X13_readCross md rd = some (md', rd) := by
  unfold f_X13_readCross
  rw [bd1_e h1, bd2_e (ov_known hT h5 1), bd1_e (ov_goes h5), bd2_e (ov_place h5 0 (-1)), bd1_e (ov_needs h5 20), bd2_e (ov_known hT h5 1), bd1_e (ov_goes h5), if_pos rfl, ov_cross59 h5]
def NK (rd rd' : TnS) : Prop :=
  (Tn_height rd' = Tn_height rd ∧ Tn_once rd' = Tn_once rd) ∧ (Tn_people rd' = Tn_people rd ∧ Tn_links rd' = Tn_links rd ∧ Tn_crossings rd' = Tn_crossings rd ∧ Tn_tall rd' = Tn_tall rd) ∧
  (Tn_one rd' = Tn_one rd ∧ Tn_oneHand rd' = Tn_oneHand rd ∧ Tn_two rd' = Tn_two rd ∧ Tn_twoHand rd' = Tn_twoHand rd ∧ Tn_linkOf rd' = Tn_linkOf rd) ∧
  (Tn_over rd' = Tn_over rd ∧ Tn_overAt rd' = Tn_overAt rd ∧ Tn_under rd' = Tn_under rd ∧ Tn_underAt rd' = Tn_underAt rd ∧ Tn_sign rd' = Tn_sign rd ∧ Tn_usedAt rd' = Tn_usedAt rd) ∧
  (Tn_rings rd' = Tn_rings rd ∧ Tn_standings rd' = Tn_standings rd ∧ Tn_first rd' = Tn_first rd)
theorem names_e {N : Nat} (hn : Tn_names rd = nI N) (hN : N < 16) (w : Int64) (s k : Int32) : Ok (f_X13_names rd w s k) (fun rd' => Tn_names rd' = nI (N + 1) ∧ Tn_name rd' = vp_updL (Tn_name rd) N w ∧ Tn_nameSort rd' = upd (Tn_nameSort rd) N s ∧ Tn_nameNumber rd' = upd (Tn_nameNumber rd) N k ∧ NK rd rd') := by
  unfold f_X13_names
  simp only [lt1_e, GT_name, GT_nameSort, GT_nameNumber, hn, ckI hN (show 16 < 2 ^ 31 by decide), nI_clamp (show N < 2 ^ 31 by omega), nI_1]
  rw [Ok_some]
  unfold NK
  simp only [GT_name, GT_nameSort, GT_nameNumber, GT_names, and_self]
theorem TB.hgt (hT : TB to rd P L X) (hb : To_begun to = 1) : ¬ Tn_height rd = -1 := by
  rcases hT.2.1.1 with ⟨g, _⟩ | ⟨_, x, g1, _, g2⟩
  · rw [hb] at g; exact absurd g (by decide)
  · rw [g2, nI_neg1 (by omega)]; exact id
theorem line_person (hX : TX b n ps ta) (hT : TB to rd P L X) (hz : TBz rd) (hb : To_begun to = 1) (h : PAt b n ps re md p) (hk : tkK b n p = 1) (hsc : Sc md0 md) :
    Ok (f_X13_readPerson md rd) (fun r => Ok (f_X5_readsPerson re ta to) (fun c => (c.1 = 1 ∧ LB b n ps md0 c.2.1 c.2.2 r.1 r.2) ∨ (c.1 = 0 ∧ BADQ md0 c.2.1 r.1))) := by
  obtain ⟨⟨hP8, hL8, hX7⟩, n1, n2, n3, n4, n5, n6, n7⟩ := hT.1
  unfold f_X5_readsPerson
  rw [n1]
  by_cases c8 : P = 8
  · have q : ¬ (nI P < nI 8) := nI_nlt (by omega) (by omega)
    rw [if_neg (show ¬ (nI P < (8 : Int32)) from q)]
    obtain ⟨md', e0, c, c0, c1, c2⟩ := bad_e hX h hsc 5 (k := 5) rfl (by omega) (by omega)
    rw [ov_person hT (begins_5 (by rw [n2, c8]; rfl) e0 c2.s5) c2.s5, Ok_some, bd2_e (a := c.1) (b := c.2) c0, c1, zb_i (Or.inl rfl), Ok_some]
    exact Or.inr ⟨rfl, c2⟩
  · have q : nI P < nI 8 := nI_lt (by omega) (by omega)
    have qn : ¬ (Tn_people rd = 8) := by rw [n2]; exact fun e => c8 (nI_inj (b := 8) e (by omega) (by omega))
    rw [if_pos (show nI P < (8 : Int32) from q)]
    unfold f_X13_readPerson
    rw [begins_g qn (hT.hgt hb), Ok_bd1, Ok_bd1]
    refine (step_e hX h (by omega) (by omega)).mono (fun md1 h1 => ?_)
    obtain ⟨pm1, q1, hq1⟩ := h1
    rw [Ok_some, Ok_bd2]
    refine (fresh_c hX hT hq1 (hsc.trans pm1.1)).mono (fun r hr => ?_)
    obtain ⟨c, c0, hc⟩ := hr
    rw [bd2_e (a := c.1) (b := c.2) c0]
    rcases hc with ⟨e1, e2, ⟨⟨q2, hq2⟩, pm2⟩, e3⟩ | ⟨e1, hbd⟩
    · rw [e1, if_neg (by decide), lt1_e, e2]
      refine part_c (lo := 1) (hi := 99) (md0 := md0) hX hq2 ((hsc.trans pm1.1).trans pm2.1) (by omega) (by omega) (fun re4 md' v q v1 v2 hq pm hv hnm => ?_) (fun re' md' hbd => ?_)
      · rw [if_neg hq.at.n5, n2, Ok_bd1]
        refine (names_e n7 (by omega) r.1 0 (nI P)).mono (fun rd6 h6 => ?_)
        obtain ⟨g1, g2, g3, g4, ⟨g5, g6⟩, ⟨g7, g8, g9, g10⟩, ⟨g11, g12, g13, g14, g15⟩, gx, gz⟩ := h6
        have q8 : ¬ (nI 8 ≤ nI P) := nI_ge (by omega) (by omega)
        simp only [lt1_e, GT_tall, GT_linkOf, g7, n2, i2, nI_1, ckI (show P < 8 by omega) (show 8 < 2 ^ 31 by decide), ckI (show 2 * P < 16 by omega) (show 16 < 2 ^ 31 by decide), ckI (show 2 * P + 1 < 16 by omega) (show 16 < 2 ^ 31 by decide), nI_clamp (show P < 2 ^ 31 by omega), nI_clamp (show 2 * P < 2 ^ 31 by omega), nI_clamp (show 2 * P + 1 < 2 ^ 31 by omega)]
        unfold f_X9_addPerson
        rw [Ok_some]
        simp only [lt1_e, GO_personNames, GO_talls, n1, nI_1, if_neg (show ¬ ((8 : Int32) ≤ nI P) from q8), ckI (show P < 8 by omega) (show 8 < 2 ^ 31 by decide), nI_clamp (show P < 2 ^ 31 by omega)]
        rw [bd1_e rfl, Ok_some, hv]
        refine Or.inl ⟨rfl, P + 1, L, X, q, ?_, ?_, ?_, hq, ((hsc.trans pm1.1).trans pm2.1).trans pm.1⟩
        · refine hT.person (by omega) hb e3 (t := v) (by omega) (by omega) ⟨?_, ?_, ?_⟩ ⟨?_, ?_⟩ ⟨?_, ?_, ?_, ?_, ?_, ?_, ?_, ?_⟩ ⟨?_, ?_, ?_, ?_⟩ ⟨?_, ?_, ?_, ?_, ?_, ?_, ?_, ?_⟩ ⟨?_, ?_, ?_, ?_, ?_⟩ ⟨?_, ?_, ?_, ?_, ?_, ?_⟩
          all_goals simp only [GO_people, GO_talls, GO_personNames, GT_people, GT_linkOf, GT_tall, g1, g2, g3, g4, g5, g6, g7, g8, g9, g10, g11, g12, g13, g14, g15, gx]
        · unfold TBz
          simp only [GT_people, GT_linkOf, GT_tall, gz, hz.1, hz.2.1, hz.2.2, and_self]
        · simp only [GO_people, GO_talls, GO_personNames, hb]
      · rw [if_pos hbd.s5, Ok_some]
        exact Or.inr ⟨rfl, hbd⟩
    · rw [e1, if_pos rfl, bd2_e (ov_part hbd.s5 13 1 99), if_pos hbd.s5, Ok_some, Ok_some]
      exact Or.inr ⟨rfl, hbd⟩
end LINES2
