section ANS4
variable {ri : RiS} {tn : TnS} {hk : HKS} {now : MoS} {bo wb : BoS} {md : MdS}
theorem a_sees (h : IVt tn ri now bo md) (ht : HK_there hk = 1) (v : Int32) : Ok (f_X13_sees md tn v) (fun q => Ok (f_X11_sees hk bo ri v) (fun c => AN hk md c.1 c.2 q)) := by
  obtain ⟨pt, s, hT, hR, hD, hp, _, _, hK, _, _, _, hB⟩ := h
  unfold f_X13_sees f_X11_sees
  rw [lt1_e, gn_now_thrown]
  rcases b_person hT hR ht v with ⟨j, hj, rfl, e1, e2⟩ | ⟨e1, e2⟩
  · obtain ⟨s1, s2⟩ := sees_eq hT hR hD hB hj
    rw [bd1_e e2, bd1_e e1, if_neg (show ¬ ((1 : Int32) = 0) by decide), if_neg (show ¬ ((1 : Int32) = 0) by decide), bd1_e s1, bd1_e s2, good_t, grant_t, bd2_e rfl, bd2_e rfl, Ok_some, Ok_some]
    exact AN.mk (by decide) (Sc.refl _)
  · rw [bd1_e e2, bd1_e e1, if_pos rfl, if_pos rfl, refused_t, refuse_t, bd2_e rfl, bd2_e rfl, Ok_some, Ok_some]
    exact AN.mk (by decide) (Sc.refl _)
theorem a_own (h : IVt tn ri now bo md) (ht : HK_there hk = 1) (v : Int32) : Ok (f_X13_own md tn v) (fun q => Ok (f_X11_own hk bo ri v) (fun c => AN hk md c.1 c.2 q)) := by
  obtain ⟨pt, s, hT, hR, hD, hp, _, _, hK, _, _, _, hB⟩ := h
  unfold f_X13_own f_X11_own
  rw [lt1_e, gn_now_thrown]
  rcases b_person hT hR ht v with ⟨j, hj, rfl, e1, e2⟩ | ⟨e1, e2⟩
  · rw [bd1_e e2, bd1_e e1, if_neg (show ¬ ((1 : Int32) = 0) by decide), if_neg (show ¬ ((1 : Int32) = 0) by decide), bd1_e (cown_e hT hR hD hB hj), grant_t, bd2_e rfl, Ok_bd2]
    refine (rown_e (md := Md_thrown' md 0) hT hR hD (by rw [gn_parted_thrown]; exact hp) (gn_lifted_thrown _ _) hj).mono (fun q hq => ?_)
    rw [good_t, bd2_e rfl, Ok_some, Ok_some, hq.1]
    exact AN.mk (by decide) hq.2.sc
  · rw [bd1_e e2, bd1_e e1, if_pos rfl, if_pos rfl, refused_t, refuse_t, bd2_e rfl, bd2_e rfl, Ok_some, Ok_some]
    exact AN.mk (by decide) (Sc.refl _)
theorem a_caller (h : IVt tn ri now bo md) (ht : HK_there hk = 1) : Ok (f_X13_caller md tn) (fun q => Ok (f_X11_caller hk bo wb now ri) (fun c => AN hk md c.1 c.2.1 q)) := by
  obtain ⟨pt, s, hT, hR, hD, hp, _, _, hK, hP, hpa, _, hB⟩ := h
  unfold f_X13_caller f_X11_caller
  rw [lt1_e, if_neg (show ¬ (HK_there hk = 0) by rw [ht]; decide), Ok_bd2]
  refine (rcaller_e (md := Md_thrown' md 0) hT (gn_now_thrown _ _) hD (by rw [gn_parted_thrown]; exact hp) (gn_lifted_thrown _ _)).mono (fun q hq => ?_)
  rw [good_t, bd2_e rfl, Ok_some, Ok_bd2]
  refine (ccall_e hT hR hD hB hK rfl hP hpa).mono (fun c hc => ?_)
  rw [grant_t, bd2_e rfl, Ok_some, hc, hq.1]
  exact AN.mk (by decide) hq.2.sc
theorem a_rounds (h : IVt tn ri now bo md) (ht : HK_there hk = 1) (v : Int32) : Ok (f_X13_rounds md tn v) (fun q => Ok (f_X11_rounds hk wb now ri v) (fun c => AN hk md c.1 c.2.1 q)) := by
  obtain ⟨pt, s, hT, hR, hD, hp, _, _, hK, hP, hpa, _, hB⟩ := h
  unfold f_X13_rounds f_X11_rounds f_X13_in f_X11_rounds_L23
  rw [lt1_e, if_neg (show ¬ (HK_there hk = 0) by rw [ht]; decide)]
  by_cases c : v < 0
  · rw [if_pos c, if_pos c, bd1_e rfl, if_pos rfl, refused_t, refuse_t, bd2_e rfl, bd2_e rfl, Ok_some, Ok_some]
    exact AN.mk (by decide) (Sc.refl _)
  · rw [if_neg c, if_neg c]
    obtain ⟨j, hj, rfl⟩ := nI_of c
    by_cases d : j ≤ 9
    · have q1 : ¬ (nI 9 < nI j) := nI_nlt d (by omega)
      have q2 : nI j ≤ nI 9 := nI_le d (by omega)
      rw [if_neg (show ¬ ((9 : Int32) < nI j) from q1), if_pos (show nI j ≤ 9 from q2), bd1_e rfl, if_neg (show ¬ ((1 : Int32) = 0) by decide), lt1_e, gn_now_thrown, show (0 : Int32) = nI 0 from rfl]
      refine rround_n (md0 := Md_thrown' md 0) hT hR d _ (by rw [gn_parted_thrown]; exact hp) (gn_lifted_thrown _ _) j FU 0 (Md_now md) (Md_thrown' md 0) (by omega) (by rw [FU_e]; omega) hD (Sc.refl _) (fun md' hm => ?_)
      rw [good_t, bd2_e rfl, Ok_some, Ok_bd2]
      refine (cround_e hT hR hD hK rfl hP hpa d).mono (fun c hc => ?_)
      rw [grant_t, bd2_e rfl, Ok_some, hc]
      exact AN.mk (by decide) hm
    · have q1 : nI 9 < nI j := nI_lt (by omega) (by omega)
      have q2 : ¬ (nI j ≤ nI 9) := nI_ge (by omega) (by omega)
      rw [if_pos (show (9 : Int32) < nI j from q1), if_neg (show ¬ (nI j ≤ 9) from q2), bd1_e rfl, if_pos rfl, refused_t, refuse_t, bd2_e rfl, bd2_e rfl, Ok_some, Ok_some]
      exact AN.mk (by decide) (Sc.refl _)
theorem a_tries (h : IVt tn ri now bo md) (ht : HK_there hk = 1) (u v w : Int32) : Ok (f_X13_tries md tn u v w) (fun q => Ok (f_X11_tries hk wb now ri u v w) (fun c => AN hk md c.1 c.2.1 q)) := by
  obtain ⟨pt, s, hT, hR, hD, hp, _, _, hK, hP, hpa, _, hB⟩ := h
  unfold f_X13_tries f_X11_tries f_X13_in f_X11_isSeed f_X11_tries_L41 f_X13_tries_L49
  rw [lt1_e, if_neg (show ¬ (HK_there hk = 0) by rw [ht]; decide)]
  have bad : Ok (bd2 (f_X13_refused (Md_thrown' md 0) 2) fun (r_6 : Int32) (md_7 : MdS) => some (r_6, md_7)) (fun q => Ok (bd2 (f_X11_refuse hk 2) fun (r_8 : Int32) (hk_9 : HKS) => some (r_8, hk_9, wb)) (fun c => AN hk md c.1 c.2.1 q)) := by
    rw [refused_t, refuse_t, bd2_e rfl, bd2_e rfl, Ok_some, Ok_some]
    exact AN.mk (by decide) (Sc.refl _)
  by_cases c : u < 0
  · rw [if_pos c, if_pos c, bd1_e rfl, bd1_e rfl, if_pos rfl, if_pos rfl]
    exact bad
  · rw [if_neg c, if_neg c]
    obtain ⟨sd, hsd, rfl⟩ := nI_of c
    by_cases d : sd < 65537
    · have q1 : ¬ (nI 65536 < nI sd) := nI_nlt (by omega) (by omega)
      have q2 : ¬ (nI 65537 ≤ nI sd) := nI_ge (by omega) (by omega)
      rw [if_neg (show ¬ ((65536 : Int32) < nI sd) from q1), if_neg (show ¬ ((65537 : Int32) ≤ nI sd) from q2), bd1_e rfl, bd1_e rfl, if_neg (show ¬ ((1 : Int32) = 0) by decide), if_neg (show ¬ ((1 : Int32) = 0) by decide)]
      by_cases c1 : v < 1
      · rw [if_pos c1, if_pos c1, bd1_e rfl, if_pos rfl]
        exact bad
      · rw [if_neg c1, if_neg c1]
        by_cases c2 : 20 < v
        · rw [if_pos c2, if_pos c2, bd1_e rfl, if_pos rfl]
          exact bad
        · rw [if_neg c2, if_neg c2, bd1_e rfl, if_neg (show ¬ ((1 : Int32) = 0) by decide)]
          have hv0 : ¬ (v < 0) := fun e => c1 (by rw [Int32.lt_iff_toInt_lt] at e ⊢; have e1 : (0 : Int32).toInt = 0 := rfl; have e2 : (1 : Int32).toInt = 1 := rfl; omega)
          obtain ⟨nn, hnn, rfl⟩ := nI_of hv0
          have hn20 : nn ≤ 20 := Nat.le_of_not_lt (fun e => c2 (show nI 20 < nI nn from nI_lt e hnn))
          by_cases c3 : w < 0
          · rw [if_pos c3, if_pos c3, bd1_e rfl, if_pos rfl]
            exact bad
          · rw [if_neg c3, if_neg c3]
            obtain ⟨dd, hdd, rfl⟩ := nI_of c3
            by_cases c4 : dd ≤ 20
            · have q3 : ¬ (nI 20 < nI dd) := nI_nlt c4 (by omega)
              have q4 : nI dd ≤ nI 20 := nI_le c4 (by omega)
              rw [if_neg (show ¬ ((20 : Int32) < nI dd) from q3), if_pos (show nI dd ≤ 20 from q4), bd1_e rfl, if_neg (show ¬ ((1 : Int32) = 0) by decide), lt1_e]
              refine (rtries_e (md0 := Md_thrown' md 0) hT hD (by rw [gn_parted_thrown]; exact hp) (gn_lifted_thrown _ _) (gn_now_thrown _ _) hn20 c4 d).mono (fun q hq => ?_)
              obtain ⟨q5, md1, q6, q7⟩ := hq
              rw [Ok_bd2]
              refine (ctries_e hT hR hD hK rfl hP hpa d hn20 c4).mono (fun c hc => ?_)
              rw [grant_t, bd2_e rfl, Ok_some, hc]
              exact ⟨q5.symm, 0, md1, by decide, rfl, q6, q7⟩
            · have q3 : nI 20 < nI dd := nI_lt (by omega) (by omega)
              have q4 : ¬ (nI dd ≤ nI 20) := nI_ge (by omega) (by omega)
              rw [if_pos (show (20 : Int32) < nI dd from q3), if_neg (show ¬ (nI dd ≤ 20) from q4), bd1_e rfl, if_pos rfl]
              exact bad
    · have q1 : nI 65536 < nI sd := nI_lt (by omega) (by omega)
      have q2 : nI 65537 ≤ nI sd := nI_le (by omega) (by omega)
      rw [if_pos (show (65536 : Int32) < nI sd from q1), if_pos (show (65537 : Int32) ≤ nI sd from q2), bd1_e rfl, bd1_e rfl, if_pos rfl, if_pos rfl]
      exact bad
end ANS4
