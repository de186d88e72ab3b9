theorem gn_nextOf_pastNow (md : MdS) (f : Nat → Int64) : Md_nextOf (Md_pastNow' md f) = Md_nextOf md := rfl
theorem gn_nextOf_pastParted (md : MdS) (f : Nat → Int32) : Md_nextOf (Md_pastParted' md f) = Md_nextOf md := rfl
theorem gn_nextOf_pastSeed (md : MdS) (f : Nat → Int32) : Md_nextOf (Md_pastSeed' md f) = Md_nextOf md := rfl
theorem gn_nextOf_pastLifted (md : MdS) (f : Nat → Int32) : Md_nextOf (Md_pastLifted' md f) = Md_nextOf md := rfl
theorem gn_nextOf_acts (md : MdS) (f : Int32) : Md_nextOf (Md_acts' md f) = Md_nextOf md := rfl
theorem keeps91_n {md md' : MdS} (h : f_X13_keeps_L91 md = some md') : Md_nextOf md' = Md_nextOf md := by
  unfold f_X13_keeps_L91 at h
  simp only [lt1_e] at h
  have h := ck_some (ck_some (ck_some (ck_some h)))
  obtain rfl := Option.some.inj h
  rw [gn_nextOf_acts, gn_nextOf_pastLifted, gn_nextOf_pastSeed, gn_nextOf_pastParted, gn_nextOf_pastNow]
theorem keeps11_n : ∀ n i (md md' : MdS), f_X13_keeps_L11 n i md = some md' → Md_nextOf md' = Md_nextOf md := by
  intro n
  induction n with
  | zero => intro i md md' h; cases h
  | succ n ih =>
    intro i md md' h
    rw [f_X13_keeps_L11] at h
    simp only [lt1_e] at h
    split at h
    · rw [keeps91_n h, gn_nextOf_acts]
    · have h := ck_some (ck_some (ck_some (ck_some (ck_some (ck_some (ck_some (ck_some h)))))))
      rw [ih _ _ _ h, gn_nextOf_pastLifted, gn_nextOf_pastSeed, gn_nextOf_pastParted, gn_nextOf_pastNow]
theorem keeps_n {md md' : MdS} (h : f_X13_keeps md = some md') : Md_nextOf md' = Md_nextOf md := by
  unfold f_X13_keeps at h
  split at h
  · exact keeps11_n _ _ _ _ h
  · exact keeps91_n h
theorem gn_spotOf_seed (md : MdS) (f : Int32) : Md_spotOf (Md_seed' md f) = Md_spotOf md := rfl
theorem gn_nextOf_seed (md : MdS) (f : Int32) : Md_nextOf (Md_seed' md f) = Md_nextOf md := rfl
section LOTF
variable {ri : RiS} {tn : TnS} {hk : HKS} {now : MoS} {bo : BoS} {md : MdS} {hi : HiS} {pt : Option Nat} {t : Int64} {lf : Int32}
theorem lot_sel (hT : TW tn) (hD : DW tn pt t) : ∀ n a j k md, k < n → a ≤ 2000 → fst1 (mayB tn pt lf t) a j → k < (MR (mayB tn pt lf t) a).length → Looked md tn pt t → Md_lifted md = lf → Md_now md = t →
    f_X13_lot_L103 n (nI j) (nI k) md tn = some (nI ((MR (mayB tn pt lf t) a).getD k 0), stt (Md_now' md (bh tn t ((MR (mayB tn pt lf t) a).getD k 0))) 0) := by
  intro n
  induction n with
  | zero => intro a j k md h; omega
  | succ n ih =>
    intro a j k md hn ha hf hk hL hl hno
    have hkl : (MR (mayB tn pt lf t) a).length ≤ 2000 := by
      unfold MR
      exact Nat.le_trans (List.length_filter_le _ _) (by rw [List.length_range']; omega)
    rcases hf with ⟨h1, h2⟩ | ⟨h1, h2, h3, h4⟩
    · rw [h1] at hk; cases hk
    · obtain ⟨m1, m2⟩ := mayB_can h3
      rw [f_X13_lot_L103]
      cases k with
      | zero =>
        rw [if_pos (by decide), hno, bd1_e (behind_e hT hL hD.1 m1 m2.lv), h4, lt1_e, good_t, bd2_e rfl]
        rfl
      | succ k =>
        obtain ⟨i, e1, hi⟩ := nextMay_e (v := nI j) hT hD.1 hL (nI_1 j) (by omega)
        rw [hl] at hi
        have e2 : nI (k + 1) + (-1 : Int32) = nI k := by
          rw [← nI_pred k, Int32.sub_eq_add_neg]
        rw [if_neg (nI_nle (by omega) (by omega)), bd1_e e1, lt1_e, e2, h4]
        rw [h4] at hk
        rw [ih (j + 1) i k md (by omega) (by omega) hi (by simpa using hk) hL hl hno]
        rfl
theorem rlot_L34 (hT : TW tn) (hC : CW tn t) (hL : Looked md tn pt t) (hl : Md_lifted md = lf) : ∀ n a j c, 2000 - a < n → a ≤ 2000 → fst1 (mayB tn pt lf t) a j → c + (MR (mayB tn pt lf t) a).length = (MR (mayB tn pt lf t) 0).length →
    ∃ n', f_X13_lot_L34 n (nI c) (nI j) md tn = f_X13_lot_L34 (n' + 1) (nI (MR (mayB tn pt lf t) 0).length) (nI 2000) md tn := by
  intro n
  induction n with
  | zero => intro a j c h; omega
  | succ n ih =>
    intro a j c hn ha hf hc
    rcases hf with ⟨k1, k2⟩ | ⟨k1, k2, k3, k4⟩
    · rw [k1, List.length_nil, Nat.add_zero] at hc
      exact ⟨n, by rw [hc, k2]⟩
    · obtain ⟨i, e1, hi⟩ := nextMay_e (v := nI j) hT hC hL (nI_1 j) (by omega)
      rw [hl] at hi
      have q : ¬ (nI 2000 ≤ nI j) := nI_ge k1 (by omega)
      rw [f_X13_lot_L34, if_neg (show ¬ ((2000 : Int32) ≤ nI j) from q), lt1_e, nI_1, bd1_e e1]
      rw [k4, List.length_cons] at hc
      exact ih (j + 1) i (c + 1) (by omega) (by omega) hi (by omega)
theorem a_lot (h : IVt tn ri now bo md) (hH : HR tn hi md) (ht : HK_there hk = 1) : Ok (f_X13_lot md tn) (fun q => Ok (f_X11_lot hk bo hi now ri) (fun c => AC tn ri hk md c.1 c.2.1 c.2.2.1 c.2.2.2.1 c.2.2.2.2 q)) := by
  have h0 := h
  obtain ⟨pt, s, hT, hR, hD, hp, hs, hs2, hK, hP, hpa, hse, hB⟩ := h
  have hN := N238 (pt := pt) (lf := Md_lifted md) (t := Md_now md) hT
  have hNI := hB.2.2.2.2.2.2.2
  unfold f_X13_lot f_X11_lot
  rw [lt1_e, gn_now_thrown, if_neg (show ¬ (HK_there hk = 0) by rw [ht]; decide), hNI.1, Ok_bd1]
  refine (rLooks (md := Md_thrown' md 0) hT hD.1 hD.pt (by rw [gn_parted_thrown]; exact hp)).mono (fun md2 hm1 => ?_)
  have el : Md_lifted md2 = Md_lifted md := hm1.1.lifted.trans (gn_lifted_thrown _ _)
  obtain ⟨i, e1, e2⟩ := nextMay_e (v := -1) (a := 0) hT hD.1 hm1.2 (by decide) (by omega)
  rw [el] at e2
  obtain ⟨n', en'⟩ := rlot_L34 (lf := Md_lifted md) hT hD.1 hm1.2 el FU 0 i 0 (by rw [FU_e]; omega) (by omega) e2 (by omega)
  rw [bd1_e e1, show f_X13_lot_L34 FU (0 : Int32) (nI i) md2 tn = _ from en', f_X13_lot_L34, if_pos (by decide)]
  have sc4 := hm1.1.sc
  by_cases c : MR (mayB tn pt (Md_lifted md) (Md_now md)) 0 = []
  · rw [if_pos (by rw [c]; rfl), refused_t, bd2_e rfl, Ok_some, if_pos (by rw [c]; rfl), refuse_t, bd2_e rfl, Ok_some]
    exact AN.ac (AN.mk (by decide) sc4) h0 hH
  · have hpos : 0 < (MR (mayB tn pt (Md_lifted md) (Md_now md)) 0).length := List.length_pos_iff.mpr c
    have ne0 : ¬ (nI (MR (mayB tn pt (Md_lifted md) (Md_now md)) 0).length = 0) := nI_ne0 hpos (by omega)
    have hml := Nat.mod_lt (sdn s) hpos
    have hm := getD_mem hml
    have hmay := (MR_mem.mp (List.mem_of_getElem? hm)).2.2
    obtain ⟨m1, m2⟩ := mayB_can hmay
    have hsd := sdn_lt s
    rw [if_neg ne0, if_neg ne0, Ok_bd1]
    have h4 : IVt tn ri now bo md2 := h0.th.of sc4.now sc4.parted sc4.seed sc4.lifted
    have H4 : HR tn hi md2 := hH.th.of sc4.acts sc4.marks sc4.pastNow sc4.pastParted sc4.pastSeed sc4.pastLifted sc4.keptNow sc4.keptParted sc4.keptSeed sc4.keptLifted
    obtain ⟨md5, k0, kp, hi', k1, k2⟩ := keep_e H4 h4.nw
    refine (Ok_eq k0).mpr ?_
    have kp6 := sc4.kp.trans kp
    have en : Md_now md5 = Md_now md := kp6.now.trans (gn_now_thrown _ _)
    have es : Md_seed md5 = nI s := kp6.seed.trans ((gn_seed_thrown _ _).trans hs)
    have hD' := hD.bh hT m1 m2
    rw [lt1_e, es, rseed_e hs2]
    have L5 : Looked (Md_seed' md5 (nI (sdn s))) tn pt (Md_now md) := by
      unfold Looked
      rw [gn_spotOf_seed, gn_nextOf_seed, keeps_s k0, keeps_n k0]
      exact hm1.2
    have l5 : Md_lifted (Md_seed' md5 (nI (sdn s))) = Md_lifted md := by rw [gn_lifted_seed, kp6.lifted, gn_lifted_thrown]
    obtain ⟨i2, f1, f2⟩ := nextMay_e (v := -1) (a := 0) hT hD.1 L5 (by decide) (by omega)
    rw [l5] at f2
    rw [bd1_e f1, nz_i ne0, lt1_e, gs_seed, nI_rem (by omega) (by omega), lot_sel hT hD FU 0 i2 _ _ (by rw [FU_e]; omega) (by omega) f2 hml L5 l5 (by rw [gn_now_seed, en]), Ok_some, bd1_e k1, hse, bd1_e (cseed_e hs2), lt1_e]
    have ed : f_X0_drawn bo (nI (sdn s)) = some (nI ((MR (mayB tn pt (Md_lifted md) (Md_now md)) 0).getD (sdn s % (MR (mayB tn pt (Md_lifted md) (Md_now md)) 0).length) 0)) := by
      unfold f_X0_drawn
      rw [hNI.1, if_neg ne0, nz_i ne0, nI_rem (by omega) (by omega), ckI (by omega) (by decide), nI_clamp (by omega), hNI.2 _ _ hm]
    rw [bd1_e (show f_X0_drawn bo (Mo_seed (Mo_seed' now (nI (sdn s)))) = _ from ed)]
    unfold f_X11_makeMove
    rw [Ok_bd2, Ok_bd1]
    refine (after_e hT hD.1 hB.2.2.2.2.1 hB.1 hK m1 m2.lv).mono (fun k' hK' => ?_)
    generalize hgm : (MR (mayB tn pt (Md_lifted md) (Md_now md)) 0).getD (sdn s % (MR (mayB tn pt (Md_lifted md) (Md_now md)) 0).length) 0 = m at *
    have nw : NW tn (Mo_key' (Mo_seed' now (nI (sdn s))) k') (stt (Md_now' (Md_seed' md5 (nI (sdn s))) (bh tn (Md_now md) m)) 0) := by
      unfold NW
      simp only [stt, GW_where, GW_trouble, GW_now, GW_seed]
      refine ⟨pt, sdn s, hsd, hD', hK', ?_, hpa, ?_, rfl, rfl⟩
      · rw [kp6.lifted, gn_lifted_thrown]; exact hP
      · rw [kp6.parted, gn_parted_thrown]; exact hp
    rw [lt1_e, Ok_bd1]
    refine (nw.iv hT hR bo).mono (fun bo' hB' => ?_)
    rw [Ok_some, grant_t, bd2_e rfl, Ok_some]
    refine ⟨rfl, hB', (k2.of ?_ ?_ ?_ ?_ ?_ ?_ ?_ ?_ ?_ ?_), RST.fx ?_⟩
    all_goals simp only [RST, stt, GW_where, GW_trouble, GW_now, GW_seed, kp6.tape, kp6.taped, kp6.fault, kp6.thrown, GW_thrown, and_self]
end LOTF
