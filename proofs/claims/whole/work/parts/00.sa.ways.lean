section WAYSF
variable {hk : HKS} {md : MdS} {ch : ChS}
def ANs (hk : HKS) (md : MdS) (hk' : HKS) (md' : MdS) : Prop := ∃ k md1, k ≠ 4 ∧ hk' = HK_trouble' hk k ∧ Sc (Md_thrown' md 0) md1 ∧ md' = stt md1 k
theorem AN.s {r : Int32} {hk' : HKS} {q : Int32 × MdS} (h : AN hk md r hk' q) : r = q.1 ∧ ANs hk md hk' q.2 := h
theorem ANs.mk {k : Int32} {md1 : MdS} (hk4 : k ≠ 4) (h : Sc (Md_thrown' md 0) md1) : ANs hk md (HK_trouble' hk k) (stt md1 k) := ⟨k, md1, hk4, rfl, h, rfl⟩
theorem gn_ways_where (md : MdS) (f : Int32) : Md_ways (Md_where' md f) = Md_ways md := rfl
theorem gn_ways_trouble (md : MdS) (f : Int32) : Md_ways (Md_trouble' md f) = Md_ways md := rfl
theorem b_in (v : Int32) (lo hi : Nat) (h : lo ≤ hi) (hh : hi < 2 ^ 31) : (∃ j, lo ≤ j ∧ j ≤ hi ∧ v = nI j ∧ f_X13_in v (nI lo) (nI hi) = some 1) ∨ f_X13_in v (nI lo) (nI hi) = some 0 := by
  unfold f_X13_in
  by_cases c : v < nI lo
  · exact Or.inr (by rw [if_pos c])
  · have c0 : ¬ (v < 0) := fun e => c (by
      rw [Int32.lt_iff_toInt_lt] at e ⊢
      rw [nI_toInt (by omega)]
      have e1 : (0 : Int32).toInt = 0 := rfl
      omega)
    obtain ⟨j, hj, rfl⟩ := nI_of c0
    have h1 : lo ≤ j := Nat.le_of_not_lt (fun e => c (nI_lt e (by omega)))
    by_cases d : j ≤ hi
    · exact Or.inl ⟨j, h1, d, rfl, by rw [if_neg c, if_neg (nI_nlt d (by omega))]⟩
    · exact Or.inr (by rw [if_neg c, if_pos (nI_lt (by omega) (by omega))])
theorem waysNow_e {once : Bool} {n r : Nat} (hn : n ≤ 13) (hr : r ≤ 13) (hW : ∀ i, i < 14 * (n + 1) → Md_ways md i = TBf once i) : f_X13_waysNow md (nI n) (nI r) = some (TBf once (14 * n + r)) := by
  unfold f_X13_waysNow
  rw [show (14 : Int32) * nI n + nI r = nI (14 * n + r) by rw [li_14, nI_mul, nI_add], ckI (by omega) (by decide), nI_clamp (by omega), hW _ (by omega)]
theorem allw_L {once : Bool} {n : Nat} (hn : n ≤ 13) (hW : ∀ i, i < 14 * (n + 1) → Md_ways md i = TBf once i) : ∀ f k, n + 1 - k < f → k ≤ n + 1 → f_X13_allWays_L5 f (nI n) (sw once n k) (nI k) md = some (sw once n (n + 1)) := by
  intro f
  induction f with
  | zero => intro k h; omega
  | succ f ih =>
    intro k hf hk
    rw [f_X13_allWays_L5]
    by_cases c : k = n + 1
    · rw [if_pos (nI_lt (by omega) (by omega)), c]
    · rw [if_neg (nI_nlt (by omega) (by omega)), bd1_e (waysNow_e hn (by omega) hW), lt1_e, lt1_e, nI_1]
      exact ih (k + 1) (by omega) (by omega)
theorem allw_e {once : Bool} {n : Nat} (hn : n ≤ 13) (hW : ∀ i, i < 14 * (n + 1) → Md_ways md i = TBf once i) : f_X13_allWays md (nI n) = some (sw once n 14) := by
  unfold f_X13_allWays
  rw [(sw_e once n (by omega)).1]
  exact allw_L hn hW FU 0 (by rw [FU_e]; omega) (by omega)
theorem a_ways (hc : ChI ch) (v w : Int32) (o : Bool) : Ok (f_X13_ways md v w (bI o)) (fun q => Ok (f_X11_ways hk ch v w (bI o)) (fun c => c.1 = q.1 ∧ ANs hk md c.2.1 q.2 ∧ ChI c.2.2)) := by
  unfold f_X13_ways f_X11_ways f_X13_ways_L25 f_X11_ways_L14
  rw [lt1_e, show f_X1_isCrowd v = f_X13_in v (nI 2) (nI 13) from rfl, show f_X1_isRingCount w = f_X13_in w (nI 0) (nI 13) from rfl, show f_X13_in v (2 : Int32) (13 : Int32) = f_X13_in v (nI 2) (nI 13) from rfl, show f_X13_in w (0 : Int32) (13 : Int32) = f_X13_in w (nI 0) (nI 13) from rfl]
  rcases b_in v 2 13 (by omega) (by omega) with ⟨n, n1, n2, rfl, e1⟩ | e1
  · rw [bd1_e e1, bd1_e e1, if_neg (show ¬ ((1 : Int32) = 0) by decide), if_neg (show ¬ ((1 : Int32) = 0) by decide)]
    rcases b_in w 0 13 (by omega) (by omega) with ⟨r, r1, r2, rfl, e2⟩ | e2
    · rw [bd1_e e2, bd1_e e2, if_neg (show ¬ ((1 : Int32) = 0) by decide), if_neg (show ¬ ((1 : Int32) = 0) by decide), Ok_bd1]
      refine (laysWays_e (once := o) (n := n) n2 (md := Md_thrown' md 0)).mono (fun md4 h4 => ?_)
      have e3 : f_X13_waysNow (stt md4 0) (nI n) (nI r) = some (TBf o (14 * n + r)) := waysNow_e n2 r2 (fun i hi => by unfold stt; rw [gn_ways_where, gn_ways_trouble]; exact h4.2 i hi)
      rw [good_t, bd2_e rfl, bd1_e e3, Ok_some, lt1_e, Ok_bd2]
      refine (waysInto_e hc n2 r2 o).mono (fun c hc => ?_)
      rw [Ok_some]
      exact ⟨hc.1, ANs.mk (by decide) h4.1.sc, hc.2⟩
    · rw [bd1_e e2, bd1_e e2, if_pos rfl, if_pos rfl, refused_t, refuse_t, bd2_e rfl, bd2_e rfl, Ok_some, Ok_some]
      exact ⟨rfl, ANs.mk (by decide) (Sc.refl _), hc⟩
  · rw [bd1_e e1, bd1_e e1, if_pos rfl, if_pos rfl, refused_t, refuse_t, bd2_e rfl, bd2_e rfl, Ok_some, Ok_some]
    exact ⟨rfl, ANs.mk (by decide) (Sc.refl _), hc⟩
theorem a_odds (hc : ChI ch) (v w : Int32) (o lw : Bool) : Ok (f_X13_odds md v w (bI o) (bI lw)) (fun q => Ok (f_X11_odds hk ch v w (bI o) (bI lw)) (fun c => c.1 = q.1 ∧ ANs hk md c.2.1 q.2 ∧ ChI c.2.2)) := by
  unfold f_X13_odds f_X11_odds f_X13_odds_L25 f_X11_odds_L14
  rw [lt1_e, show f_X1_isCrowd v = f_X13_in v (nI 2) (nI 13) from rfl, show f_X1_isRingCount w = f_X13_in w (nI 0) (nI 13) from rfl, show f_X13_in v (2 : Int32) (13 : Int32) = f_X13_in v (nI 2) (nI 13) from rfl, show f_X13_in w (0 : Int32) (13 : Int32) = f_X13_in w (nI 0) (nI 13) from rfl]
  rcases b_in v 2 13 (by omega) (by omega) with ⟨n, n1, n2, rfl, e1⟩ | e1
  · rw [bd1_e e1, bd1_e e1, if_neg (show ¬ ((1 : Int32) = 0) by decide), if_neg (show ¬ ((1 : Int32) = 0) by decide)]
    rcases b_in w 0 13 (by omega) (by omega) with ⟨r, r1, r2, rfl, e2⟩ | e2
    · rw [bd1_e e2, bd1_e e2, if_neg (show ¬ ((1 : Int32) = 0) by decide), if_neg (show ¬ ((1 : Int32) = 0) by decide), Ok_bd1]
      refine (laysWays_e (once := o) (n := n) n2 (md := Md_thrown' md 0)).mono (fun md4 h4 => ?_)
      rw [bd1_e (waysNow_e n2 r2 h4.2), bd1_e (allw_e n2 h4.2)]
      unfold f_X13_told
      by_cases c : sw o n 14 = 0
      · rw [if_pos (lg0.mpr c), refused_t, bd2_e rfl, bd2_e rfl, Ok_some, Ok_bd2]
        refine (allWays_e n2 o hc).mono (fun a ha => ?_)
        rw [if_pos (lg0.mpr (ha.1.trans c)), refuse_t, bd2_e rfl, Ok_some]
        exact ⟨rfl, ANs.mk (by decide) h4.1.sc, ha.2⟩
      · obtain ⟨x, x1, x2⟩ := low_e (md := stt md4 0) ((gok_all o n (by omega) n1 c).1 r (by omega)) lw
        rw [if_neg (fun e => c (lg0.mp e)), good_t, bd2_e rfl, x2, bd2_e rfl, Ok_some, Ok_bd2]
        refine (allWays_e n2 o hc).mono (fun a ha => ?_)
        rw [if_neg (fun e => c (ha.1.symm.trans (lg0.mp e))), lt1_e, Ok_bd2]
        refine (waysInto_e ha.2 n2 r2 o).mono (fun b hb => ?_)
        rw [ha.1, hb.1, bd1_e x1, Ok_some]
        exact ⟨rfl, ANs.mk (by decide) h4.1.sc, hb.2⟩
    · rw [bd1_e e2, bd1_e e2, if_pos rfl, if_pos rfl, refused_t, refuse_t, bd2_e rfl, bd2_e rfl, Ok_some, Ok_some]
      exact ⟨rfl, ANs.mk (by decide) (Sc.refl _), hc⟩
  · rw [bd1_e e1, bd1_e e1, if_pos rfl, if_pos rfl, refused_t, refuse_t, bd2_e rfl, bd2_e rfl, Ok_some, Ok_some]
    exact ⟨rfl, ANs.mk (by decide) (Sc.refl _), hc⟩
theorem mean_L {once : Bool} {n : Nat} (hn : n ≤ 13) (hW : ∀ i, i < 14 * (n + 1) → Md_ways md i = TBf once i) (x3 : Int32) : ∀ f k, n + 1 - k < f → k ≤ n + 1 → f_X13_mean_L34 f (nI n) x3 (sr once n k) (nI k) md = bd2 (f_X13_told md (sr once n 14) (sw once n 14) x3) fun r m => some (r, m) := by
  intro f
  induction f with
  | zero => intro k h; omega
  | succ f ih =>
    intro k hf hk
    rw [f_X13_mean_L34]
    by_cases c : k = n + 1
    · rw [if_pos (nI_lt (by omega) (by omega)), c, bd1_e (allw_e hn hW), (sw_e once n (by omega)).2]
    · rw [if_neg (nI_nlt (by omega) (by omega)), bd1_e (waysNow_e hn (by omega) hW), lt1_e, lt1_e, nI_1]
      exact ih (k + 1) (by omega) (by omega)
theorem a_mean (hc : ChI ch) (v : Int32) (o lw : Bool) : Ok (f_X13_mean md v (bI o) (bI lw)) (fun q => Ok (f_X11_mean hk ch v (bI o) (bI lw)) (fun c => c.1 = q.1 ∧ ANs hk md c.2.1 q.2 ∧ ChI c.2.2)) := by
  unfold f_X13_mean f_X11_mean
  rw [lt1_e, show f_X1_isCrowd v = f_X13_in v (nI 2) (nI 13) from rfl, show f_X13_in v (2 : Int32) (13 : Int32) = f_X13_in v (nI 2) (nI 13) from rfl]
  rcases b_in v 2 13 (by omega) (by omega) with ⟨n, n1, n2, rfl, e1⟩ | e1
  · rw [bd1_e e1, bd1_e e1, if_neg (show ¬ ((1 : Int32) = 0) by decide), if_neg (show ¬ ((1 : Int32) = 0) by decide), Ok_bd1]
    refine (laysWays_e (once := o) (n := n) n2 (md := Md_thrown' md 0)).mono (fun md4 h4 => ?_)
    have hm := mean_L n2 h4.2 (bI lw) FU 0 (by rw [FU_e]; omega) (by omega)
    rw [show f_X13_mean_L34 FU (nI n) (bI lw) (0 : Int64) (0 : Int32) md4 = _ from hm]
    unfold f_X13_told
    by_cases c : sw o n 14 = 0
    · rw [if_pos (lg0.mpr c), refused_t, bd2_e rfl, bd2_e rfl, Ok_some, Ok_bd2]
      refine (allWays_e n2 o hc).mono (fun a ha => ?_)
      rw [if_pos (lg0.mpr (ha.1.trans c)), refuse_t, bd2_e rfl, Ok_some]
      exact ⟨rfl, ANs.mk (by decide) h4.1.sc, ha.2⟩
    · obtain ⟨x, x1, x2⟩ := low_e (md := stt md4 0) (gok_all o n (by omega) n1 c).2 lw
      rw [if_neg (fun e => c (lg0.mp e)), good_t, bd2_e rfl, x2, bd2_e rfl, Ok_some, Ok_bd2]
      refine (allWays_e n2 o hc).mono (fun a ha => ?_)
      rw [if_neg (fun e => c (ha.1.symm.trans (lg0.mp e))), lt1_e, Ok_bd2]
      refine (allRings_e n2 o ha.2).mono (fun b hb => ?_)
      rw [ha.1, hb.1, bd1_e x1, Ok_some]
      exact ⟨rfl, ANs.mk (by decide) h4.1.sc, hb.2⟩
  · rw [bd1_e e1, bd1_e e1, if_pos rfl, if_pos rfl, refused_t, refuse_t, bd2_e rfl, bd2_e rfl, Ok_some, Ok_some]
    exact ⟨rfl, ANs.mk (by decide) (Sc.refl _), hc⟩
end WAYSF
