section ACTS2
variable {ri : RiS} {tn : TnS} {hk : HKS} {now : MoS} {bo wb : BoS} {md : MdS} {hi : HiS}
theorem HR.th (h : HR tn hi md) : HR tn hi (Md_thrown' md 0) := h.of (gn_acts_thrown _ _) (gn_marks_thrown _ _) (gn_pastNow_thrown _ _) (gn_pastParted_thrown _ _) (gn_pastSeed_thrown _ _) (gn_pastLifted_thrown _ _) (gn_keptNow_thrown _ _) (gn_keptParted_thrown _ _) (gn_keptSeed_thrown _ _) (gn_keptLifted_thrown _ _)
theorem IVt.th (h : IVt tn ri now bo md) : IVt tn ri now bo (Md_thrown' md 0) := h.of (gn_now_thrown _ _) (gn_parted_thrown _ _) (gn_seed_thrown _ _) (gn_lifted_thrown _ _)
theorem IVt.left (h : IVt tn ri now bo md) : Bo_left bo = nI (lft tn (Md_now md)) := by
  obtain ⟨pt, s, hT, hR, hD, hp, hs, hs2, hK, hP, hpa, hse, hB⟩ := h
  exact hB.2.2.2.1
theorem a_parts (h : IVt tn ri now bo md) (hH : HR tn hi md) (ht : HK_there hk = 1) (v : Int32) : Ok (f_X13_parts md tn v) (fun q => Ok (f_X11_parts hk bo hi now ri v) (fun c => AC tn ri hk md c.1 c.2.1 c.2.2.1 c.2.2.2.1 c.2.2.2.2 q)) := by
  obtain ⟨hT, hR⟩ := h.tw
  unfold f_X13_parts f_X11_parts
  rw [lt1_e]
  rcases b_link hT hR ht v with ⟨l, hl, rfl, e1, e2⟩ | ⟨e1, e2⟩
  · rw [bd1_e e2, bd1_e e1, if_neg (show ¬ ((1 : Int32) = 0) by decide), if_neg (show ¬ ((1 : Int32) = 0) by decide)]
    have hleft := h.left
    have h0 := h
    obtain ⟨pt, s, _, _, hD, hp, hs, hs2, hK, hP, hpa, hse, hB⟩ := h
    rw [gn_parted_thrown, hp, hpa]
    by_cases c : ptv pt = -2
    · rw [if_pos c, if_pos c, Ok_bd1]
      refine (keep_e hH.th h0.th.nw).mono (fun md3 h3 => ?_)
      obtain ⟨kp, hi', k1, k2⟩ := h3
      have en : Md_now md3 = Md_now md := kp.now.trans (gn_now_thrown _ _)
      rw [en, bd1_e (leftIn_e hT), Ok_bd2]
      refine (parted_e (md := md3) hT hD hl (kp.parted.trans ((gn_parted_thrown _ _).trans hp))).mono (fun q hq => ?_)
      obtain ⟨u, md6⟩ := q
      obtain ⟨p1, p2, p3⟩ := hq
      have kp6 := kp.trans p3.sc.kp
      rw [lt1_e, lt1_e, gn_now_parted, gs_now, bd1_e (leftIn_e hT), good_t, bd2_e rfl, Ok_some, bd1_e k1, lt1_e, Ok_bd1]
      refine (letGo_e hT hR hD.1 hl hK).mono (fun now4 hn4 => ?_)
      obtain ⟨n1, n2, n3, n4⟩ := hn4
      have nw : NW tn now4 (stt (Md_parted' (Md_now' md6 u) (nI l)) 0) := by
        unfold NW
        simp only [stt, GW_where, GW_trouble, GW_parted, GW_now]
        refine ⟨some l, s, hs2, p2, n4 u p1, ?_, n1, rfl, n3.trans hse, ?_⟩
        · rw [n2, kp6.lifted, gn_lifted_thrown]; exact hP
        · rw [kp6.seed, gn_seed_thrown]; exact hs
      rw [Ok_bd1]
      refine (nw.iv hT hR bo).mono (fun bo' hB' => ?_)
      have hl' := hB'.left
      simp only [stt, GW_where, GW_trouble, GW_parted, GW_now] at hl'
      rw [hl', hleft, grant_t, bd2_e rfl, Ok_some]
      refine ⟨rfl, hB', (k2.of ?_ ?_ ?_ ?_ ?_ ?_ ?_ ?_ ?_ ?_), RST.fx ?_⟩
      · simp only [stt, GW_where, GW_trouble, GW_parted, GW_now, p3.acts]
      · simp only [stt, GW_where, GW_trouble, GW_parted, GW_now, p3.marks]
      · simp only [stt, GW_where, GW_trouble, GW_parted, GW_now, p3.pastNow]
      · simp only [stt, GW_where, GW_trouble, GW_parted, GW_now, p3.pastParted]
      · simp only [stt, GW_where, GW_trouble, GW_parted, GW_now, p3.pastSeed]
      · simp only [stt, GW_where, GW_trouble, GW_parted, GW_now, p3.pastLifted]
      · simp only [stt, GW_where, GW_trouble, GW_parted, GW_now, p3.keptNow]
      · simp only [stt, GW_where, GW_trouble, GW_parted, GW_now, p3.keptParted]
      · simp only [stt, GW_where, GW_trouble, GW_parted, GW_now, p3.keptSeed]
      · simp only [stt, GW_where, GW_trouble, GW_parted, GW_now, p3.keptLifted]
      · simp only [RST, stt, GW_where, GW_trouble, GW_parted, GW_now, kp6.tape, kp6.taped, kp6.fault, kp6.thrown, GW_thrown, and_self]
    · rw [if_neg c, if_neg c, refused_t, refuse_t, bd2_e rfl, bd2_e rfl, Ok_some, Ok_some]
      exact AN.ac (AN.mk (by decide) (Sc.refl _)) h0 hH
  · rw [bd1_e e2, bd1_e e1, if_pos rfl, if_pos rfl, refused_t, refuse_t, bd2_e rfl, bd2_e rfl, Ok_some, Ok_some]
    exact AN.ac (AN.mk (by decide) (Sc.refl _)) h hH
end ACTS2
