section MOVEF
variable {ri : RiS} {tn : TnS} {hk : HKS} {now : MoS} {bo : BoS} {md : MdS} {hi : HiS}
theorem behind_s {md md5 : MdS} (he : Md_spotOf md5 = Md_spotOf md) (t : Int64) (v : Int32) : f_X13_behind md5 t v = f_X13_behind md t v := by
  unfold f_X13_behind f_X13_without f_X13_changed
  rw [he]
theorem a_move (h : IVt tn ri now bo md) (hH : HR tn hi md) (ht : HK_there hk = 1) (v : Int32) : Ok (f_X13_move md tn v) (fun q => Ok (f_X11_move hk bo hi now ri v) (fun c => AC tn ri hk md c.1 c.2.1 c.2.2.1 c.2.2.2.1 c.2.2.2.2 q)) := by
  have h0 := h
  obtain ⟨pt, s, hT, hR, hD, hp, hs, hs2, hK, hP, hpa, hse, hB⟩ := h
  unfold f_X13_move f_X11_move
  rw [lt1_e, gn_now_thrown]
  rcases b_move hT hR ht v with ⟨m, hm, rfl, e1, e2⟩ | ⟨e1, e2⟩
  · rw [bd1_e e2, bd1_e e1, if_neg (show ¬ ((1 : Int32) = 0) by decide), if_neg (show ¬ ((1 : Int32) = 0) by decide), Ok_bd1]
    refine (rLooks (md := Md_thrown' md 0) hT hD.1 hD.pt (by rw [gn_parted_thrown]; exact hp)).mono (fun md3 hm1 => ?_)
    have el : Md_lifted md3 = Md_lifted md := hm1.1.lifted.trans (gn_lifted_thrown _ _)
    rw [bd1_e (may_e hT hD.1 hm1.2 hm), el, bd1_e (allows_e hT hR hD.1 hB.2.2.2.2.1 hm (fun c => (goer_e hT hD.1 hm1.2 hm c).2))]
    by_cases c : MAY tn pt (Md_lifted md) (Md_now md) m
    · rw [tf1 c, if_neg (show ¬ ((1 : Int32) = 0) by decide), if_neg (show ¬ ((1 : Int32) = 0) by decide), Ok_bd1]
      have sc4 := hm1.1.sc
      have h4 : IVt tn ri now bo md3 := h0.th.of sc4.now sc4.parted sc4.seed sc4.lifted
      have H4 : HR tn hi md3 := hH.th.of sc4.acts sc4.marks sc4.pastNow sc4.pastParted sc4.pastSeed sc4.pastLifted sc4.keptNow sc4.keptParted sc4.keptSeed sc4.keptLifted
      obtain ⟨md5, k0, kp, hi', k1, k2⟩ := keep_e H4 h4.nw
      refine (Ok_eq k0).mpr ?_
      have kp6 := sc4.kp.trans kp
      have en : Md_now md5 = Md_now md := kp6.now.trans (gn_now_thrown _ _)
      have hD' := hD.bh hT hm c.1
      rw [en, behind_s (keeps_s k0), bd1_e (behind_e hT hm1.2 hD.1 hm c.1.lv), lt1_e, gs_now, bd1_e (leftIn_e hT), good_t, bd2_e rfl, Ok_some, bd1_e k1]
      unfold f_X11_makeMove
      rw [Ok_bd2, Ok_bd1]
      refine (after_e hT hD.1 hB.2.2.2.2.1 hB.1 hK hm c.1.lv).mono (fun k' hK' => ?_)
      have nw : NW tn (Mo_key' now k') (stt (Md_now' md5 (bh tn (Md_now md) m)) 0) := by
        unfold NW
        simp only [stt, GW_where, GW_trouble, GW_now]
        refine ⟨pt, s, hs2, hD', hK', ?_, hpa, ?_, hse, ?_⟩
        · rw [kp6.lifted, gn_lifted_thrown]; exact hP
        · rw [kp6.parted, gn_parted_thrown]; exact hp
        · rw [kp6.seed, gn_seed_thrown]; exact hs
      rw [lt1_e, Ok_bd1]
      refine (nw.iv hT hR bo).mono (fun bo' hB' => ?_)
      have hl' := hB'.left
      simp only [stt, GW_where, GW_trouble, GW_now] at hl'
      rw [Ok_some, hl', grant_t, bd2_e rfl, Ok_some]
      refine ⟨rfl, hB', (k2.of ?_ ?_ ?_ ?_ ?_ ?_ ?_ ?_ ?_ ?_), RST.fx ?_⟩
      all_goals simp only [RST, stt, GW_where, GW_trouble, GW_now, kp6.tape, kp6.taped, kp6.fault, kp6.thrown, GW_thrown, and_self]
    · rw [tf0 c, if_pos rfl, if_pos rfl, refused_t, refuse_t, bd2_e rfl, bd2_e rfl, Ok_some, Ok_some]
      exact AN.ac (AN.mk (by decide) hm1.1.sc) h0 hH
  · rw [bd1_e e2, bd1_e e1, if_pos rfl, if_pos rfl, refused_t, refuse_t, bd2_e rfl, bd2_e rfl, Ok_some, Ok_some]
    exact AN.ac (AN.mk (by decide) (Sc.refl _)) h0 hH
end MOVEF
