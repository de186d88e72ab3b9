section ARCSF
variable {ri : RiS} {tn : TnS} {hk : HKS} {now : MoS} {bo : BoS} {md : MdS} {co : CoS}
theorem a_arcs (h : IVt tn ri now bo md) (ht : HK_there hk = 1) : Ok (f_X13_arcs md tn) (fun q => Ok (f_X11_arcs hk co bo ri) (fun c => AN hk md c.1 c.2.1 q ∧ acore c.2.2 = acore co)) := by
  obtain ⟨pt, s, hT, hR, hD, hp, _, _, hK, hP, hpa, _, hB⟩ := h
  unfold f_X13_arcs f_X11_arcs
  rw [lt1_e, if_neg (show ¬ (HK_there hk = 0) by rw [ht]; decide), hR.R, Ok_bd1]
  refine (laysArcs_e (md := Md_thrown' md 0) hT hR (gn_now_thrown _ _) hD (by rw [gn_parted_thrown]; exact hp)).mono (fun md2 h2 => ?_)
  rw [h2.2.1, good_t, bd2_e rfl, Ok_some, Ok_bd2]
  refine (countArcs_e hT hR hD hB).mono (fun c hc => ?_)
  rw [grant_t, bd2_e rfl, Ok_some, hc.1]
  exact ⟨AN.mk (by decide) h2.1, hc.2.2.2⟩
end ARCSF
