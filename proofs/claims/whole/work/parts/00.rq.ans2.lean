section ANS2
variable {ri : RiS} {tn : TnS} {hk : HKS} {now : MoS} {bo : BoS} {md : MdS}
theorem a_twist (h : IVt tn ri now bo md) (ht : HK_there hk = 1) (v : Int32) : Ok (f_X13_twist md tn v) (fun q => Ok (f_X11_twist hk bo ri v) (fun c => AN hk md c.1 c.2 q)) := by
  obtain ⟨pt, s, hT, hR, hD, hp, _, _, hK, _, _, _, hB⟩ := h
  unfold f_X13_twist f_X11_twist
  rw [lt1_e]
  rcases b_ring hT hR ht v with ⟨a, ha, rfl, e1, e2⟩ | ⟨e1, e2⟩
  · rw [bd1_e e2, bd1_e e1, if_neg (show ¬ ((1 : Int32) = 0) by decide), if_neg (show ¬ ((1 : Int32) = 0) by decide), bd1_e (csigns_e hT hR hD hB.2.2.2.2.1 ha ha)]
    refine (rtwist_e (md0 := Md_thrown' md 0) hT hD (by rw [gn_parted_thrown]; exact hp) (gn_now_thrown _ _) (gn_lifted_thrown _ _) ha).mono (fun q hq => ?_)
    obtain ⟨q1, md1, q2, q3⟩ := hq
    rw [grant_t, bd2_e rfl, Ok_some]
    exact ⟨q1.symm, 0, md1, by decide, rfl, q2.sc, q3⟩
  · rw [bd1_e e2, bd1_e e1, if_pos rfl, if_pos rfl, lost_t, refuseS_t, bd2_e rfl, bd2_e rfl, Ok_some, Ok_some]
    exact AN.mk (by decide) (Sc.refl _)
theorem a_left (h : IVt tn ri now bo md) (ht : HK_there hk = 1) : Ok (f_X13_left md tn) (fun q => Ok (f_X11_left hk bo) (fun c => AN hk md c.1 c.2 q)) := by
  obtain ⟨pt, s, hT, hR, hD, hp, _, _, hK, _, _, _, hB⟩ := h
  unfold f_X13_left f_X11_left
  rw [lt1_e, gn_now_thrown, bd1_e (leftIn_e hT), if_neg (show ¬ (HK_there hk = 0) by rw [ht]; decide), good_t, grant_t, bd2_e rfl, bd2_e rfl, Ok_some, Ok_some, hB.2.2.2.1]
  exact AN.mk (by decide) (Sc.refl _)
theorem a_loose (h : IVt tn ri now bo md) (ht : HK_there hk = 1) : Ok (f_X13_loose md tn) (fun q => Ok (f_X11_loose hk bo) (fun c => AN hk md c.1 c.2 q)) := by
  obtain ⟨pt, s, hT, hR, hD, hp, _, _, hK, _, _, _, hB⟩ := h
  unfold f_X13_loose f_X11_loose f_X13_loose_L37 f_X11_loose_L23
  rw [lt1_e, gn_now_thrown, bd1_e (leftIn_e hT), if_neg (show ¬ (HK_there hk = 0) by rw [ht]; decide), hB.2.2.2.1]
  by_cases c : nI (lft tn (Md_now md)) = 0
  · rw [if_pos c, if_pos c, good_t, grant_t, bd2_e rfl, bd2_e rfl, Ok_some, Ok_some]
    exact AN.mk (by decide) (Sc.refl _)
  · rw [if_neg c, if_neg c, good_t, grant_t, bd2_e rfl, bd2_e rfl, Ok_some, Ok_some]
    exact AN.mk (by decide) (Sc.refl _)
theorem a_sign (h : IVt tn ri now bo md) (ht : HK_there hk = 1) (v : Int32) : Ok (f_X13_sign md tn v) (fun q => Ok (f_X11_sign hk bo ri v) (fun c => AN hk md c.1 c.2 q)) := by
  obtain ⟨pt, s, hT, hR, hD, hp, _, _, hK, _, _, _, hB⟩ := h
  have h7 := hT.x7
  unfold f_X13_sign f_X11_sign f_X11_isCrossing
  rw [lt1_e, if_neg (show ¬ (HK_there hk = 0) by rw [ht]; decide), hR.X, hT.X]
  have bad : Ok (f_X13_sign_L27 (Md_thrown' md 0)) (fun q => AN hk md (-100) (HK_trouble' hk 1) q) := by
    unfold f_X13_sign_L27
    rw [lost_t, bd2_e rfl, Ok_some]
    exact AN.mk (by decide) (Sc.refl _)
  by_cases c : v < 0
  · rw [if_pos c, if_pos c, bd1_e rfl, if_pos rfl, refuseS_t, bd2_e rfl]
    exact bad.mono (fun q hq => by rw [Ok_some]; exact hq)
  · rw [if_neg c, if_neg c]
    obtain ⟨j, hj, rfl⟩ := nI_of c
    by_cases d : j < nX tn
    · rw [if_pos (nI_lt d (by omega)), if_neg (nI_ge d (by omega)), bd1_e rfl, if_neg (show ¬ ((1 : Int32) = 0) by decide), bd1_e (csign_e hT hB.2.2.2.2.1 d), grant_t, bd2_e rfl, Ok_bd2]
      refine (risLeft_e (md := Md_thrown' md 0) hT hD (by rw [gn_parted_thrown]; exact hp) (gn_now_thrown _ _) d).mono (fun q hq => ?_)
      unfold f_X13_sign_L51
      rw [hq.1]
      cases (spt tn (Md_now md) (2 * j)).isSome
      · rw [if_pos (show bI false = 0 from rfl), good_t, bd2_e rfl, Ok_some, Ok_some]
        exact AN.mk (by decide) hq.2.1.sc
      · rw [if_neg (show ¬ (bI true = 0) by decide), bd1_e (signNow_e hT d), good_t, bd2_e rfl, Ok_some, Ok_some, hq.2.1.lifted, gn_lifted_thrown]
        exact AN.mk (by decide) hq.2.1.sc
    · rw [if_neg (nI_nlt (by omega) (by omega)), if_pos (nI_le (by omega) (by omega)), bd1_e rfl, if_pos rfl, refuseS_t, bd2_e rfl]
      exact bad.mono (fun q hq => by rw [Ok_some]; exact hq)
theorem a_place (h : IVt tn ri now bo md) (ht : HK_there hk = 1) (v w : Int32) : Ok (f_X13_place md tn v w) (fun q => Ok (f_X11_place hk ri v w) (fun c => AN hk md c.1 c.2 q)) := by
  obtain ⟨pt, s, hT, hR, hD, hp, _, _, hK, _, _, _, hB⟩ := h
  have h14 := hT.s14
  have h8 := hT.l8
  unfold f_X13_place f_X11_place f_X13_in f_X13_place_L22 f_X13_place_L54 f_X11_place_L17 f_X11_place_L51
  rw [lt1_e]
  rcases b_stand hT hR ht v with ⟨j, hj, rfl, e1, e2⟩ | ⟨e1, e2⟩
  · have hl := hT.lkL hj
    rw [bd1_e e2, bd1_e e1, if_neg (show ¬ ((1 : Int32) = 0) by decide), if_neg (show ¬ ((1 : Int32) = 0) by decide)]
    by_cases c : w < 0
    · rw [if_pos c, if_pos c, bd1_e rfl, if_pos rfl, refused_t, refuse_t, bd2_e rfl, bd2_e rfl, Ok_some, Ok_some]
      exact AN.mk (by decide) (Sc.refl _)
    · rw [if_neg c, if_neg c]
      obtain ⟨k, hk31, rfl⟩ := nI_of c
      by_cases d : k ≤ 1
      · have q1 : ¬ (nI 1 < nI k) := nI_nlt d (by omega)
        have q2 : nI k ≤ nI 1 := nI_le d (by omega)
        rw [if_neg (show ¬ ((1 : Int32) < nI k) from q1), if_pos (show nI k ≤ 1 from q2), bd1_e rfl, if_neg (show ¬ ((1 : Int32) = 0) by decide), ckI (show j < 16 by omega) (by decide), nI_clamp (by omega), hR.2.1 j hj, lt1_e, hT.elk hj, hT.erg hj, ckI (show j < 14 by omega) (by decide), ckI (show lk tn j < 8 by omega) (by decide), nI_clamp (show lk tn j < 2 ^ 31 by omega), hR.2.2.1 _ hl]
        by_cases e : nI k = 0
        · rw [if_pos e, if_pos e, good_t, grant_t, bd2_e rfl, bd2_e rfl, Ok_some, Ok_some]
          exact AN.mk (by decide) (Sc.refl _)
        · rw [if_neg e, if_neg e, ckI (show j < 14 by omega) (by decide), good_t, grant_t, bd2_e rfl, bd2_e rfl, Ok_some, Ok_some]
          exact AN.mk (by decide) (Sc.refl _)
      · have q1 : nI 1 < nI k := nI_lt (by omega) (by omega)
        have q2 : ¬ (nI k ≤ nI 1) := nI_ge (by omega) (by omega)
        rw [if_pos (show (1 : Int32) < nI k from q1), if_neg (show ¬ (nI k ≤ 1) from q2), bd1_e rfl, if_pos rfl, refused_t, refuse_t, bd2_e rfl, bd2_e rfl, Ok_some, Ok_some]
        exact AN.mk (by decide) (Sc.refl _)
  · rw [bd1_e e2, bd1_e e1, if_pos rfl, if_pos rfl, refused_t, refuse_t, bd2_e rfl, bd2_e rfl, Ok_some, Ok_some]
    exact AN.mk (by decide) (Sc.refl _)
end ANS2
