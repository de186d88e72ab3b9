/-! acts: what changes -/
section ACTS
variable {ri : RiS} {tn : TnS} {hk : HKS} {now : MoS} {bo wb : BoS} {md : MdS} {hi : HiS}
/-- what stays, and the trouble that both tell -/
def FX (hk : HKS) (md : MdS) (hk' : HKS) (md' : MdS) : Prop :=
  HK_there hk' = HK_there hk ∧ HK_trouble hk' = Md_trouble md' ∧ Md_trouble md' ≠ 4 ∧ Md_where md' = -1 ∧ Md_thrown md' = 0 ∧ Md_tape md' = Md_tape md ∧ Md_taped md' = Md_taped md ∧ Md_fault md' = Md_fault md
def AC (tn : TnS) (ri : RiS) (hk : HKS) (md : MdS) (r : Int32) (hk' : HKS) (bo' : BoS) (hi' : HiS) (now' : MoS) (q : Int32 × MdS) : Prop :=
  r = q.1 ∧ IVt tn ri now' bo' q.2 ∧ HR tn hi' q.2 ∧ FX hk md hk' q.2
theorem IVt.of {md' : MdS} (h : IVt tn ri now bo md) (e1 : Md_now md' = Md_now md) (e2 : Md_parted md' = Md_parted md) (e3 : Md_seed md' = Md_seed md) (e4 : Md_lifted md' = Md_lifted md) : IVt tn ri now bo md' := by
  unfold IVt at h ⊢
  rw [e1, e2, e3, e4]
  exact h
theorem AN.ac {r : Int32} {hk' : HKS} {q : Int32 × MdS} (h : AN hk md r hk' q) (hI : IVt tn ri now bo md) (hH : HR tn hi md) : AC tn ri hk md r hk' bo hi now q := by
  obtain ⟨h1, k, md1, h4, h5, h6, h7⟩ := h
  refine ⟨h1, hI.of ?_ ?_ ?_ ?_, hH.of ?_ ?_ ?_ ?_ ?_ ?_ ?_ ?_ ?_ ?_, ?_⟩
  · rw [h7]; simp only [stt, GW_where, GW_trouble, h6.now, GW_thrown]
  · rw [h7]; simp only [stt, GW_where, GW_trouble, h6.parted, GW_thrown]
  · rw [h7]; simp only [stt, GW_where, GW_trouble, h6.seed, GW_thrown]
  · rw [h7]; simp only [stt, GW_where, GW_trouble, h6.lifted, GW_thrown]
  · rw [h7]; simp only [stt, GW_where, GW_trouble, h6.acts, GW_thrown]
  · rw [h7]; simp only [stt, GW_where, GW_trouble, h6.marks, GW_thrown]
  · rw [h7]; simp only [stt, GW_where, GW_trouble, h6.pastNow, GW_thrown]
  · rw [h7]; simp only [stt, GW_where, GW_trouble, h6.pastParted, GW_thrown]
  · rw [h7]; simp only [stt, GW_where, GW_trouble, h6.pastSeed, GW_thrown]
  · rw [h7]; simp only [stt, GW_where, GW_trouble, h6.pastLifted, GW_thrown]
  · rw [h7]; simp only [stt, GW_where, GW_trouble, h6.keptNow, GW_thrown]
  · rw [h7]; simp only [stt, GW_where, GW_trouble, h6.keptParted, GW_thrown]
  · rw [h7]; simp only [stt, GW_where, GW_trouble, h6.keptSeed, GW_thrown]
  · rw [h7]; simp only [stt, GW_where, GW_trouble, h6.keptLifted, GW_thrown]
  · rw [h5, h7]
    refine ⟨rfl, ?_, ?_, ?_, ?_, ?_, ?_, ?_⟩
    · simp only [stt, GW_where, GW_trouble]; rfl
    · simp only [stt, GW_where, GW_trouble]; exact h4
    · simp only [stt, GW_where]
    · simp only [stt, GW_where, GW_trouble, h6.thrown, GW_thrown]
    · simp only [stt, GW_where, GW_trouble, h6.tape, GW_thrown]
    · simp only [stt, GW_where, GW_trouble, h6.taped, GW_thrown]
    · simp only [stt, GW_where, GW_trouble, h6.fault, GW_thrown]
theorem NW.iv (hT : TW tn) (hR : TR ri tn) (h : NW tn now md) (bo : BoS) : Ok (f_X0_lay bo now ri) (fun bo' => IVt tn ri now bo' md) := by
  obtain ⟨pt, s, h1, h2, h3, h4, h5, h6, h7, h8⟩ := h
  unfold f_X0_lay
  rw [h5, Ok_bd1]
  refine (layOut_e hT hR h2 h3 h4 bo).mono (fun wb2 hB2 => ?_)
  rw [Ok_some]
  exact ⟨pt, s, hT, hR, h2, h6, h8, h1, h3, h4, h5, h7, hB2⟩
theorem IVt.nw (h : IVt tn ri now bo md) : NW tn now md := by
  obtain ⟨pt, s, hT, hR, hD, hp, hs, hs2, hK, hP, hpa, hse, hB⟩ := h
  exact ⟨pt, s, hs2, hD, hK, hP, hpa, hp, hse, hs⟩
theorem IVt.tw (h : IVt tn ri now bo md) : TW tn ∧ TR ri tn := by
  obtain ⟨pt, s, hT, hR, _⟩ := h
  exact ⟨hT, hR⟩
theorem RST.fx {md' : MdS} (h : RST md md') : FX hk md (HK_trouble' hk 0) md' := by
  obtain ⟨h1, h2, h3, h4, h5, h6⟩ := h
  exact ⟨rfl, h5.symm, by rw [h5]; decide, h6, h4, h1, h2, h3⟩
theorem a_undo (h : IVt tn ri now bo md) (hH : HR tn hi md) : Ok (f_X13_undo md) (fun q => Ok (f_X11_undo hk bo hi now ri) (fun c => AC tn ri hk md c.1 c.2.1 c.2.2.1 c.2.2.2.1 c.2.2.2.2 q)) := by
  obtain ⟨hT, hR⟩ := h.tw
  refine (undo_e (now := now) hH).mono (fun q hq => ?_)
  unfold f_X11_undo
  rcases hq with ⟨q1, q2, q3⟩ | ⟨q1, q2, q3⟩
  · rw [bd3_e q3, if_pos rfl, refuseF_t, bd2_e rfl, zb_i (Or.inl rfl), Ok_some]
    refine AN.ac ?_ h hH
    exact ⟨q1.symm, 6, _, by decide, rfl, Sc.refl _, q2⟩
  · obtain ⟨c, e1, e2, e3, e4⟩ := q2
    rw [bd3_e (a := c.1) (b := c.2.1) (c := c.2.2) e1, e2, if_neg (show ¬ ((1 : Int32) = 0) by decide), Ok_bd1]
    refine (e4.iv hT hR bo).mono (fun bo' hB => ?_)
    rw [lt1_e, Ok_some]
    exact ⟨q1.symm, hB, e3, q3.fx⟩
theorem a_back (h : IVt tn ri now bo md) (hH : HR tn hi md) (v : Int32) : Ok (f_X13_back md v) (fun q => Ok (f_X11_back hk bo hi now ri v) (fun c => AC tn ri hk md c.1 c.2.1 c.2.2.1 c.2.2.2.1 c.2.2.2.2 q)) := by
  obtain ⟨hT, hR⟩ := h.tw
  refine (back_e (now := now) hH v).mono (fun q hq => ?_)
  unfold f_X11_back
  rcases hq with ⟨q1, q2, q3⟩ | ⟨q1, q2, q3⟩
  · rw [bd3_e q3, if_pos rfl, refuseF_t, bd2_e rfl, zb_i (Or.inl rfl), Ok_some]
    refine AN.ac ?_ h hH
    exact ⟨q1.symm, 1, _, by decide, rfl, Sc.refl _, q2⟩
  · obtain ⟨c, e1, e2, e3, e4⟩ := q2
    rw [bd3_e (a := c.1) (b := c.2.1) (c := c.2.2) e1, e2, if_neg (show ¬ ((1 : Int32) = 0) by decide), Ok_bd1]
    refine (e4.iv hT hR bo).mono (fun bo' hB => ?_)
    rw [lt1_e, Ok_some]
    exact ⟨q1.symm, hB, e3, q3.fx⟩
theorem a_mark (h : IVt tn ri now bo md) (hH : HR tn hi md) (ht : HK_there hk = 1) : Ok (f_X13_mark md) (fun q => Ok (f_X11_mark hk hi now) (fun c => AC tn ri hk md c.1 c.2.1 bo c.2.2 now q)) := by
  refine (mark_e hH h.nw).mono (fun q hq => ?_)
  unfold f_X11_mark
  rw [if_neg (show ¬ (HK_there hk = 0) by rw [ht]; decide)]
  rcases hq with ⟨q1, q2, q3⟩ | ⟨m, q0, q1, q2, q3, q4⟩
  · rw [bd2_e q3, if_pos rfl, refuse_t, bd2_e rfl, Ok_some]
    refine AN.ac ?_ h hH
    exact ⟨q1.symm, 3, _, by decide, rfl, Sc.refl _, q2⟩
  · obtain ⟨c, e1, e2, e3⟩ := q2
    rw [bd2_e (a := c.1) (b := c.2) e1, e2, if_neg (by rw [nI_neg1 (by omega)]; exact id), grant_t, bd2_e rfl, Ok_some]
    exact ⟨q1.symm, h.of q3.1 q3.2.1 q3.2.2.1 q3.2.2.2, e3, q4.fx⟩
theorem a_seed (h : IVt tn ri now bo md) (hH : HR tn hi md) (ht : HK_there hk = 1) (v : Int32) : Ok (f_X13_seed md v) (fun q => Ok (f_X11_seed hk now v) (fun c => AC tn ri hk md c.1 c.2.1 bo hi c.2.2 q)) := by
  unfold f_X13_seed f_X11_seed f_X13_in f_X11_isSeed
  rw [lt1_e, if_neg (show ¬ (HK_there hk = 0) by rw [ht]; decide)]
  by_cases c : v < 0
  · rw [if_pos c, if_pos c, bd1_e rfl, bd1_e rfl, if_pos rfl, if_pos rfl, denied_t, refuseF_t, bd2_e rfl, bd2_e rfl, zb_i (Or.inl rfl), zb_i (Or.inl rfl), Ok_some, Ok_some]
    exact AN.ac (AN.mk (by decide) (Sc.refl _)) h hH
  · rw [if_neg c, if_neg c]
    obtain ⟨sd, hsd, rfl⟩ := nI_of c
    by_cases d : sd < 65537
    · have q1 : ¬ (nI 65536 < nI sd) := nI_nlt (by omega) (by omega)
      have q2 : ¬ (nI 65537 ≤ nI sd) := nI_ge (by omega) (by omega)
      rw [if_neg (show ¬ ((65536 : Int32) < nI sd) from q1), if_neg (show ¬ ((65537 : Int32) ≤ nI sd) from q2), bd1_e rfl, bd1_e rfl, if_neg (show ¬ ((1 : Int32) = 0) by decide), if_neg (show ¬ ((1 : Int32) = 0) by decide), lt1_e, lt1_e, lt1_e, granted_t, bd2_e rfl, zb_i (Or.inr rfl), Ok_some, Ok_some]
      obtain ⟨pt, s, hT, hR, hD, hp, hs, hs2, hK, hP, hpa, hse, hB⟩ := h
      refine ⟨rfl, ⟨pt, sd, hT, hR, ?_, ?_, ?_, d, ?_, ?_, hpa, rfl, ?_⟩, hH.of ?_ ?_ ?_ ?_ ?_ ?_ ?_ ?_ ?_ ?_, RST.fx ?_⟩
      · simp only [stt, GW_where, GW_trouble, GW_seed, GW_thrown]; exact hD
      · simp only [stt, GW_where, GW_trouble, GW_seed, GW_thrown]; exact hp
      · simp only [stt, GW_where, GW_trouble, GW_seed, GW_thrown]
      · simp only [stt, GW_where, GW_trouble, GW_seed, GW_thrown]; exact hK
      · simp only [stt, GW_where, GW_trouble, GW_seed, GW_thrown]; exact hP
      · simp only [stt, GW_where, GW_trouble, GW_seed, GW_thrown]; exact hB
      all_goals simp only [RST, stt, GW_where, GW_trouble, GW_seed, GW_thrown, and_self]
    · have q1 : nI 65536 < nI sd := nI_lt (by omega) (by omega)
      have q2 : nI 65537 ≤ nI sd := nI_le (by omega) (by omega)
      rw [if_pos (show (65536 : Int32) < nI sd from q1), if_pos (show (65537 : Int32) ≤ nI sd from q2), bd1_e rfl, bd1_e rfl, if_pos rfl, if_pos rfl, denied_t, refuseF_t, bd2_e rfl, bd2_e rfl, zb_i (Or.inl rfl), zb_i (Or.inl rfl), Ok_some, Ok_some]
      exact AN.ac (AN.mk (by decide) (Sc.refl _)) h hH
end ACTS
