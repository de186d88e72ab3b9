section CALLG
variable {ri : RiS} {tn : TnS} {hk : HKS} {now : MoS} {bo wb : BoS} {md : MdS} {hi : HiS}
theorem a_call (h : IVt tn ri now bo md) (hH : HR tn hi md) (ht : HK_there hk = 1) : Ok (f_X13_call md tn) (fun q => Ok (f_X11_call hk bo wb hi now ri) (fun c => AC tn ri hk md c.1 c.2.1 c.2.2.1 c.2.2.2.2.1 c.2.2.2.2.2 q)) := by
  have h0 := h
  obtain ⟨pt, s, hT, hR, hD, hp, hs, hs2, hK, hP, hpa, hse, hB⟩ := h
  unfold f_X13_call f_X11_call
  rw [lt1_e, if_neg (show ¬ (HK_there hk = 0) by rw [ht]; decide), Ok_bd2]
  refine (rcaller_e (md := Md_thrown' md 0) hT (gn_now_thrown _ _) hD (by rw [gn_parted_thrown]; exact hp) (gn_lifted_thrown _ _)).mono (fun q hq => ?_)
  obtain ⟨r2, md3⟩ := q
  obtain ⟨q1, q2⟩ := hq
  obtain ⟨⟨c1, wb2⟩, cc, hc⟩ := ccall_e (wb := wb) hT hR hD hB hK rfl hP hpa
  rw [bd2_e cc]
  have q1 : r2 = amI (amL (fun m => lbv tn pt (Md_lifted md) (bh tn (Md_now md) m)) (MR (mayB tn pt (Md_lifted md) (Md_now md)) 0)) := q1
  have hc : c1 = amI (amL (fun m => lbv tn pt (Md_lifted md) (bh tn (Md_now md) m)) (MR (mayB tn pt (Md_lifted md) (Md_now md)) 0)) := hc
  have e12 : c1 = r2 := hc.trans q1.symm
  subst e12
  show Ok (if c1 = (-2 : Int32) then _ else _) _
  rcases am_val (f := fun m => lbv tn pt (Md_lifted md) (bh tn (Md_now md) m)) (L := MR (mayB tn pt (Md_lifted md) (Md_now md)) 0) with ev | ⟨m, hmem, ev⟩
  · rw [if_pos (hc.trans ev), if_pos (hc.trans ev), refused_t, refuse_t, bd2_e rfl, bd2_e rfl, Ok_some, Ok_some]
    exact AN.ac (AN.mk (by decide) q2.sc) h0 hH
  · obtain ⟨_, hlt, hmay⟩ := MR_mem.mp hmem
    obtain ⟨hm, hcan⟩ := mayB_can hmay
    have ec : c1 = nI m := hc.trans ev
    subst ec
    have hn2 : ¬ (nI m = -2) := by rw [nI_neg2 (by omega)]; exact id
    rw [if_neg hn2, if_neg hn2, Ok_bd1]
    have sc4 := q2.sc
    have h4 : IVt tn ri now bo md3 := h0.th.of sc4.now sc4.parted sc4.seed sc4.lifted
    have H4 : HR tn hi md3 := hH.th.of sc4.acts sc4.marks sc4.pastNow sc4.pastParted sc4.pastSeed sc4.pastLifted sc4.keptNow sc4.keptParted sc4.keptSeed sc4.keptLifted
    obtain ⟨md4, k0, kp, hi', k1, k2⟩ := keep_e H4 h4.nw
    refine (Ok_eq k0).mpr ?_
    have kp6 := sc4.kp.trans kp
    have en : Md_now md4 = Md_now md := kp6.now.trans (gn_now_thrown _ _)
    have ep : Md_parted md4 = ptv pt := kp6.parted.trans ((gn_parted_thrown _ _).trans hp)
    rw [en, Ok_bd1]
    refine (rLooks (md := md4) hT hD.1 hD.pt ep).mono (fun md5 h5 => ?_)
    have kp7 := kp6.trans h5.1.sc.kp
    have hD' := hD.bh hT hm hcan
    rw [h5.1.now.trans en, bd1_e (behind_e hT h5.2 hD.1 hm hcan.lv), lt1_e, good_t, bd2_e rfl, Ok_some, bd1_e k1]
    unfold f_X11_makeMove
    rw [Ok_bd2, Ok_bd1]
    refine (after_e hT hD.1 hB.2.2.2.2.1 hB.1 hK hm hcan.lv).mono (fun k' hK' => ?_)
    have nw : NW tn (Mo_key' now k') (stt (Md_now' md5 (bh tn (Md_now md) m)) 0) := by
      unfold NW
      simp only [stt, GW_where, GW_trouble, GW_now]
      refine ⟨pt, s, hs2, hD', hK', ?_, hpa, ?_, hse, ?_⟩
      · rw [kp7.lifted, gn_lifted_thrown]; exact hP
      · rw [kp7.parted, gn_parted_thrown]; exact hp
      · rw [kp7.seed, gn_seed_thrown]; exact hs
    rw [lt1_e, Ok_bd1]
    refine (nw.iv hT hR bo).mono (fun bo' hB' => ?_)
    rw [Ok_some, grant_t, bd2_e rfl, Ok_some]
    refine ⟨rfl, hB', (k2.of ?_ ?_ ?_ ?_ ?_ ?_ ?_ ?_ ?_ ?_), RST.fx ?_⟩
    all_goals simp only [RST, stt, GW_where, GW_trouble, GW_now, h5.1.acts, h5.1.marks, h5.1.pastNow, h5.1.pastParted, h5.1.pastSeed, h5.1.pastLifted, h5.1.keptNow, h5.1.keptParted, h5.1.keptSeed, h5.1.keptLifted, kp7.tape, kp7.taped, kp7.fault, kp7.thrown, GW_thrown, and_self]
end CALLG
