section FEWF
variable {ri : RiS} {tn : TnS} {hk : HKS} {now : MoS} {bo sb : BoS} {md : MdS} {se : SeS}
theorem b_depth (v : Int32) : (∃ j, j ≤ 8 ∧ v = nI j ∧ f_X11_isDepth v = some 1 ∧ f_X13_in v 0 8 = some 1) ∨ (f_X11_isDepth v = some 0 ∧ f_X13_in v 0 8 = some 0) := by
  unfold f_X11_isDepth f_X13_in
  by_cases c : v < 0
  · exact Or.inr ⟨by rw [if_pos c], by rw [if_pos c]⟩
  · obtain ⟨j, hj, rfl⟩ := nI_of c
    by_cases d : j ≤ 8
    · have q1 : ¬ (nI 8 < nI j) := nI_nlt d (by omega)
      exact Or.inl ⟨j, d, rfl, by rw [if_neg c, if_neg (show ¬ ((8 : Int32) < nI j) from q1)], by rw [if_neg c, if_neg (show ¬ ((8 : Int32) < nI j) from q1)]⟩
    · have q1 : nI 8 < nI j := nI_lt (by omega) (by omega)
      exact Or.inr ⟨by rw [if_neg c, if_pos (show (8 : Int32) < nI j from q1)], by rw [if_neg c, if_pos (show (8 : Int32) < nI j from q1)]⟩
theorem nI8 : ∀ j, j < 9 → ¬ nI j = -9 ∧ ¬ nI j = -3 ∧ ¬ nI j = -2 ∧ ¬ nI j < 0 := by decide +kernel
theorem a_fewest (h : IVt tn ri now bo md) (ht : HK_there hk = 1) (hS : ∃ ks, CT1 se ks) (v : Int32) : Ok (f_X13_fewest md tn v) (fun q => Ok (f_X11_fewest hk se sb now ri v) (fun c => AN hk md c.1 c.2.1 q ∧ ∃ ks, CT1 c.2.2.1 ks)) := by
  obtain ⟨pt, s, hT, hR, hD, hp, _, _, hK, hP, hpa, _, hB⟩ := h
  unfold f_X13_fewest f_X11_fewest
  rw [lt1_e, gn_now_thrown, if_neg (show ¬ (HK_there hk = 0) by rw [ht]; decide)]
  rcases b_depth v with ⟨d, hd, rfl, e1, e2⟩ | ⟨e1, e2⟩
  · rw [bd1_e e2, bd1_e e1, if_neg (show ¬ ((1 : Int32) = 0) by decide), if_neg (show ¬ ((1 : Int32) = 0) by decide), Ok_bd2]
    refine (few_e (md := Md_thrown' md 0) hT hd hD (by rw [gn_parted_thrown]; exact hp) (gn_lifted_thrown _ _)).mono (fun q hq => ?_)
    obtain ⟨q1, q2⟩ := hq
    have hg := grow_e (sb := sb) hT hR rfl hP hpa hd hS hK hD
    by_cases c : q.1 = -9
    · rw [if_pos c, refused_t, bd2_e rfl, Ok_some, Ok_bd3]
      refine hg.mono (fun r hr => ?_)
      rcases hr with ⟨r1, r2, r3⟩ | ⟨r1, r2, r3⟩ | ⟨j, L, fr, hj, r1, r2, r3, r4, r5⟩
      · rw [r1, if_pos rfl, refuse_t, bd2_e rfl, Ok_some]
        exact ⟨AN.mk (by decide) q2, r3⟩
      · rw [q1, r2] at c; exact absurd c (by decide)
      · rw [q1, r2] at c; exact absurd c (nI8 j (by omega)).1
    · rw [if_neg c, good_t, bd2_e rfl, Ok_some, Ok_bd3]
      refine hg.mono (fun r hr => ?_)
      rcases hr with ⟨r1, r2, r3⟩ | ⟨r1, r2, r3⟩ | ⟨j, L, fr, hj, r1, r2, r3, r4, r5⟩
      · rw [q1, r2] at c; exact absurd rfl c
      · rw [r1, if_neg (by decide), grant_t, bd2_e rfl, Ok_some, q1, r2]
        exact ⟨AN.mk (by decide) q2, r3⟩
      · rw [r1, if_neg (nI8 j (by omega)).2.1, grant_t, bd2_e rfl, Ok_some, q1, r2]
        exact ⟨AN.mk (by decide) q2, r4.ct⟩
  · rw [bd1_e e2, bd1_e e1, if_pos rfl, if_pos rfl, refused_t, refuse_t, bd2_e rfl, bd2_e rfl, Ok_some, Ok_some]
    exact ⟨AN.mk (by decide) (Sc.refl _), hS⟩
theorem nI4k : ∀ j, j ≤ 4000 → ¬ nI j = -3 := by
  intro j hj e
  have := congrArg Int32.toInt e
  rw [nI_toInt (by omega)] at this
  have e2 : (-3 : Int32).toInt = -3 := by decide
  omega
theorem a_reached (h : IVt tn ri now bo md) (ht : HK_there hk = 1) (hS : ∃ ks, CT1 se ks) (v : Int32) : Ok (f_X13_reached md tn v) (fun q => Ok (f_X11_reached hk se sb now ri v) (fun c => AN hk md c.1 c.2.1 q ∧ ∃ ks, CT1 c.2.2.1 ks)) := by
  obtain ⟨pt, s, hT, hR, hD, hp, _, _, hK, hP, hpa, _, hB⟩ := h
  unfold f_X13_reached f_X11_reached
  rw [lt1_e, if_neg (show ¬ (HK_there hk = 0) by rw [ht]; decide)]
  rcases b_depth v with ⟨d, hd, rfl, e1, e2⟩ | ⟨e1, e2⟩
  · rw [bd1_e e2, bd1_e e1, if_neg (show ¬ ((1 : Int32) = 0) by decide), if_neg (show ¬ ((1 : Int32) = 0) by decide), Ok_bd2]
    refine (all_e (md := Md_thrown' md 0) (lf := Md_lifted md) hT hd (by rw [gn_now_thrown]; exact hD) (by rw [gn_parted_thrown]; exact hp) (gn_lifted_thrown _ _)).mono (fun q hq => ?_)
    obtain ⟨q2, q1⟩ := hq
    rw [gn_now_thrown] at q1
    have hg := growA_e (sb := sb) hT hR rfl hP hpa hd hS hK hD
    unfold f_X7_countReached
    cases e : lvl tn pt (Md_lifted md) (Md_now md) d with
    | none =>
      rw [e] at q1
      rw [show q.1 = 0 from q1, if_pos rfl, refused_t, bd2_e rfl, Ok_some, Ok_bd3, Ok_bd3]
      refine hg.mono (fun r hr => ?_)
      rcases hr with ⟨r1, r2, r3⟩ | ⟨L, fr, r1, r2, r3⟩
      · rw [r1, if_pos rfl, Ok_some, if_pos rfl, refuse_t, bd2_e rfl, Ok_some]
        exact ⟨AN.mk (by decide) q2, r3⟩
      · rw [e] at r2; cases r2
    | some z =>
      obtain ⟨s', f'⟩ := z
      rw [e] at q1
      rw [show q.1 = 1 from q1.1, if_neg (show ¬ ((1 : Int32) = 0) by decide), good_t, bd2_e rfl, Ok_some, Ok_bd3, Ok_bd3]
      refine hg.mono (fun r hr => ?_)
      rcases hr with ⟨r1, r2, r3⟩ | ⟨L, fr, r1, r2, r3⟩
      · rw [e] at r2; cases r2
      · rw [e] at r2
        cases r2
        rw [r1, if_neg (by decide), Ok_some, r3.len.2, if_neg (nI4k _ r3.len.1), grant_t, bd2_e rfl, Ok_some, q1.2.1, List.length_map]
        exact ⟨AN.mk (by decide) q2, r3.ct⟩
  · rw [bd1_e e2, bd1_e e1, if_pos rfl, if_pos rfl, refused_t, refuse_t, bd2_e rfl, bd2_e rfl, Ok_some, Ok_some]
    exact ⟨AN.mk (by decide) (Sc.refl _), hS⟩
end FEWF
