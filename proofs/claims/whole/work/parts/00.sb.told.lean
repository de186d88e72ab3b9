/-! led: some (some x) where it answers x, some none where it throws -/
def f_X11_led_L4 : Nat → (Int32) → (Int32) → (Int32) → (HKS) → (BoS) → (RiS) → Option (Option Int32)
  | 0, _, _, _, _, _, _ => none
  | n_ + 1, x1, x2, x3, hk, bo, ri =>
    if (HK_there hk) = 0 then
      some none
    else
      if x1 < 0 then
        some none
      else
        if (Ri_crossings ri) ≤ x3 then
          some none
        else
          bd1 (f_X0_isLeft bo x3) fun (r_1 : Int32) =>
          if r_1 = 0 then
            f_X11_led_L4 n_ x1 x2 (x3 + (1 : Int32)) hk bo ri
          else
            if x2 = x1 then
              some (some x3)
            else
              f_X11_led_L4 n_ x1 (x2 + (1 : Int32)) (x3 + (1 : Int32)) hk bo ri
def f_X11_led (hk : HKS) (bo : BoS) (ri : RiS) (p1 : Int32) : Option (Option Int32) := f_X11_led_L4 FU p1 (0 : Int32) (0 : Int32) hk bo ri
def LEDQ (md : MdS) (q : Int32 × MdS) (c : Option Int32) : Prop := ∃ md1, Sc (Md_thrown' md 0) md1 ∧ ((∃ x, c = some x ∧ q = (x, md1)) ∨ (c = none ∧ q = (0, Md_thrown' md1 1)))
section LEDF
variable {ri : RiS} {tn : TnS} {hk : HKS} {now : MoS} {bo : BoS} {md : MdS} {hi : HiS} {ta : TaS} {pt : Option Nat} {t : Int64} {lf : Int32}
theorem led_L (hT : TW tn) (hR : TR ri tn) (ht : HK_there hk = 1) (hD : DW tn pt t) (hG : GB tn pt lf t bo) {v : Int32} {md0 : MdS} (hp : Md_parted md0 = ptv pt) (hno : Md_now md0 = t) :
    ∀ rem n m x c md1, x + rem = nX tn → rem < n → rem < m → c ≤ x → Sc md0 md1 → Ok (f_X13_led_L9 n v (nI c) (nI x) md1 tn) (fun q => Ok (f_X11_led_L4 m v (nI c) (nI x) hk bo ri) (fun a => ∃ md2, Sc md0 md2 ∧ ((∃ y, a = some y ∧ q = (y, md2)) ∨ (a = none ∧ q = (0, Md_thrown' md2 1))))) := by
  have h7 := hT.x7
  intro rem
  induction rem with
  | zero =>
    intro n m x c md1 hx hn hm hc hsc
    cases n with
    | zero => omega
    | succ n =>
      cases m with
      | zero => omega
      | succ m =>
        rw [f_X13_led_L9, hT.X, if_pos (nI_le (by omega) (by omega))]
        unfold f_X13_led_L54
        rw [lt1_e, Ok_some, f_X11_led_L4, if_neg (show ¬ (HK_there hk = 0) by rw [ht]; decide), hR.X, if_pos (nI_le (show nX tn ≤ x by omega) (by omega)), ite_self, Ok_some]
        exact ⟨md1, hsc, Or.inr ⟨rfl, rfl⟩⟩
  | succ rem ih =>
    intro n m x c md1 hx hn hm hc hsc
    cases n with
    | zero => omega
    | succ n =>
      cases m with
      | zero => omega
      | succ m =>
        have hxl : x < nX tn := by omega
        rw [f_X13_led_L9, hT.X, if_neg (nI_ge hxl (by omega)), Ok_bd2]
        refine (risLeft_e (md := md1) hT hD (hsc.parted.trans hp) (hsc.now.trans hno) hxl).mono (fun w hw => ?_)
        obtain ⟨w1, w2, w3⟩ := hw
        have sc2 := hsc.trans w2.sc
        unfold f_X13_led_L48
        simp only [lt1_e, nI_1]
        rw [w1, f_X11_led_L4, if_neg (show ¬ (HK_there hk = 0) by rw [ht]; decide), hR.X, if_neg (nI_ge hxl (by omega)), bd1_e (isLeft_e hT hG hxl)]
        cases (spt tn t (2 * x)).isSome with
        | false =>
          rw [if_pos (show bI false = 0 from rfl), if_pos (show bI false = 0 from rfl), nI_1]
          refine (ih n m (x + 1) c w.2 (by omega) (by omega) (by omega) (by omega) sc2).mono (fun q hq => ?_)
          by_cases c0 : v < 0
          · rw [if_pos c0, Ok_some]
            obtain ⟨a, a1, a2⟩ := hq
            cases m with
            | zero => omega
            | succ m =>
              rw [f_X11_led_L4, if_neg (show ¬ (HK_there hk = 0) by rw [ht]; decide), if_pos c0] at a1
              cases a1
              exact a2
          · rw [if_neg c0]; exact hq
        | true =>
          rw [if_neg (show ¬ (bI true = 0) by decide), if_neg (show ¬ (bI true = 0) by decide)]
          by_cases e : nI c = v
          · have c0' : ¬ (nI c < nI 0) := nI_nlt (by omega) (by omega)
            have c0 : ¬ (v < 0) := by rw [← e]; exact c0'
            rw [if_pos e, Ok_some, if_neg c0, if_pos e, Ok_some]
            exact ⟨w.2, sc2, Or.inl ⟨nI x, rfl, rfl⟩⟩
          · rw [if_neg e, if_neg e, nI_1, nI_1]
            refine (ih n m (x + 1) (c + 1) w.2 (by omega) (by omega) (by omega) (by omega) sc2).mono (fun q hq => ?_)
            by_cases c0 : v < 0
            · rw [if_pos c0, Ok_some]
              obtain ⟨a, a1, a2⟩ := hq
              cases m with
              | zero => omega
              | succ m =>
                rw [f_X11_led_L4, if_neg (show ¬ (HK_there hk = 0) by rw [ht]; decide), if_pos c0] at a1
                cases a1
                exact a2
            · rw [if_neg c0]; exact hq
theorem a_led (h : IVt tn ri now bo md) (ht : HK_there hk = 1) (v : Int32) : Ok (f_X13_led md tn v) (fun q => Ok (f_X11_led hk bo ri v) (LEDQ md q)) := by
  obtain ⟨pt, s, hT, hR, hD, hp, _, _, hK, hP, hpa, _, hB⟩ := h
  have h7 := hT.x7
  unfold f_X13_led f_X11_led
  rw [lt1_e]
  exact led_L hT hR ht hD hB.2.2.2.2.1 ((gn_parted_thrown _ _).trans hp) (gn_now_thrown _ _) (nX tn) FU FU 0 0 _ (by omega) (by rw [FU_e]; omega) (by rw [FU_e]; omega) (by omega) (Sc.refl _)
/-- who is in which ring, and what else of a tangle never changes -/
def RF (ri : RiS) (tn : TnS) : Prop :=
  (∀ p, p < nP tn → ∃ l, l < nL tn ∧ Tn_linkOf tn (2 * p) = nI l ∧ Tn_ringOf tn p = nI (lr tn l)) ∧
  (∀ r, r < nR tn → ∃ f z, f + z ≤ 8 ∧ Ri_firstMember ri r = nI f ∧ Ri_firstMember ri (r + 1) = nI (f + z) ∧ Tn_size tn r = nI z ∧ ∀ i, i < z → Ri_members ri (f + i) = Tn_member tn (8 * r + i)) ∧
  (∀ h, h < 2 * nP tn → f_X12_other tn (nI h) = some (Ri_partner ri h)) ∧
  (∀ l, l < nL tn → (Tn_along tn l = 0 ∧ Ri_along ri l = 0) ∨ (Tn_along tn l ≠ 0 ∧ Ri_along ri l = 1)) ∧
  Ri_tall ri = Tn_height tn ∧ (Ri_once ri = 0 ↔ Tn_once tn = 0)
theorem a_ring (h : IVt tn ri now bo md) (hF : RF ri tn) (ht : HK_there hk = 1) (v : Int32) : Ok (f_X13_ring md tn v) (fun q => Ok (f_X11_ring hk ri v) (fun c => AN hk md c.1 c.2 q)) := by
  obtain ⟨hT, hR⟩ := h.tw
  have h8 := hT.p8
  have hl8 := hT.l8
  unfold f_X13_ring f_X11_ring f_X6_ringWith
  rw [lt1_e]
  rcases b_person hT hR ht v with ⟨p, hp, rfl, e1, e2⟩ | ⟨e1, e2⟩
  · obtain ⟨l, hl, g1, g2⟩ := hF.1 p hp
    have g3 : nI 0 ≤ nI l := nI_le (by omega) (by omega)
    rw [bd1_e e2, bd1_e e1, if_neg (show ¬ ((1 : Int32) = 0) by decide), if_neg (show ¬ ((1 : Int32) = 0) by decide), ckI (show p < 8 by omega) (by decide), nI_clamp (by omega), good_t, bd2_e rfl, Ok_some, i2, ckI (show 2 * p < 16 by omega) (by decide), nI_clamp (by omega), lt1_e, hR.lin (show 2 * p < 2 * nP tn by omega), g1, if_pos (show (0 : Int32) ≤ nI l from g3), ckI (show l < 8 by omega) (by decide), nI_clamp (by omega), bd1_e rfl, hR.elr hl, grant_t, bd2_e rfl, Ok_some, g2]
    exact AN.mk (by decide) (Sc.refl _)
  · rw [bd1_e e2, bd1_e e1, if_pos rfl, if_pos rfl, refused_t, refuse_t, bd2_e rfl, bd2_e rfl, Ok_some, Ok_some]
    exact AN.mk (by decide) (Sc.refl _)
theorem pIn_e (hT : TW tn) (hR : TR ri tn) (hF : RF ri tn) {r : Nat} (hr : r < nR tn) : f_X6_peopleIn ri (nI r) = some (Tn_size tn r) := by
  obtain ⟨f, z, fz, g1, g2, g3, g4⟩ := hF.2.1 r hr
  have h8 := hT.r8
  have q : ¬ (nI r < nI 0) := nI_nlt (by omega) (by omega)
  unfold f_X6_peopleIn
  rw [if_neg (show ¬ (nI r < 0) from q), hR.R, if_neg (nI_ge hr (by omega)), nI_1, ckI (show r + 1 < 9 by omega) (by decide), ckI (show r < 9 by omega) (by decide), nI_clamp (by omega), nI_clamp (by omega), g1, g2, nI_sub (by omega), g3]
  congr 2
  omega
theorem a_people (h : IVt tn ri now bo md) (hF : RF ri tn) (ht : HK_there hk = 1) (v : Int32) : Ok (f_X13_people md tn v) (fun q => Ok (f_X11_people hk ri v) (fun c => AN hk md c.1 c.2 q)) := by
  obtain ⟨hT, hR⟩ := h.tw
  have h8 := hT.r8
  unfold f_X13_people f_X11_people
  rw [lt1_e]
  rcases b_ring hT hR ht v with ⟨r, hr, rfl, e1, e2⟩ | ⟨e1, e2⟩
  · rw [bd1_e e2, bd1_e e1, if_neg (show ¬ ((1 : Int32) = 0) by decide), if_neg (show ¬ ((1 : Int32) = 0) by decide), ckI (show r < 8 by omega) (by decide), nI_clamp (by omega), good_t, bd2_e rfl, Ok_some, bd1_e (pIn_e hT hR hF hr), grant_t, bd2_e rfl, Ok_some]
    exact AN.mk (by decide) (Sc.refl _)
  · rw [bd1_e e2, bd1_e e1, if_pos rfl, if_pos rfl, refused_t, refuse_t, bd2_e rfl, bd2_e rfl, Ok_some, Ok_some]
    exact AN.mk (by decide) (Sc.refl _)
theorem a_member (h : IVt tn ri now bo md) (hF : RF ri tn) (ht : HK_there hk = 1) (v w : Int32) : Ok (f_X13_member md tn v w) (fun q => Ok (f_X11_member hk ri v w) (fun c => AN hk md c.1 c.2 q)) := by
  obtain ⟨hT, hR⟩ := h.tw
  have h8 := hT.r8
  unfold f_X13_member f_X11_member f_X13_member_L51 f_X11_member_L24
  rw [lt1_e]
  have bad : Ok (bd2 (f_X13_refused (Md_thrown' md 0) 1) fun (r_6 : Int32) (md_7 : MdS) => some (r_6, md_7)) (fun q => Ok (bd2 (f_X11_refuse hk 1) fun (r_8 : Int32) (hk_9 : HKS) => some (r_8, hk_9)) (fun c => AN hk md c.1 c.2 q)) := by
    rw [refused_t, refuse_t, bd2_e rfl, bd2_e rfl, Ok_some, Ok_some]
    exact AN.mk (by decide) (Sc.refl _)
  rcases b_ring hT hR ht v with ⟨r, hr, rfl, e1, e2⟩ | ⟨e1, e2⟩
  · obtain ⟨f, z, fz, g1, g2, g3, g4⟩ := hF.2.1 r hr
    rw [bd1_e e2, bd1_e e1, if_neg (show ¬ ((1 : Int32) = 0) by decide), if_neg (show ¬ ((1 : Int32) = 0) by decide)]
    by_cases c : w < 0
    · rw [if_pos c, if_pos c]; exact bad
    · rw [if_neg c, if_neg c]
      obtain ⟨i, hi, rfl⟩ := nI_of c
      rw [ckI (show r < 8 by omega) (by decide), nI_clamp (show r < 2 ^ 31 by omega), g3, bd1_e (pIn_e hT hR hF hr), g3]
      by_cases d : i < z
      · rw [if_neg (nI_ge d (by omega)), if_pos (nI_lt d (by omega)), show (8 : Int32) * nI r + nI i = nI (8 * r + i) by rw [li_8, nI_mul, nI_add], ckI (show 8 * r + i < 64 by omega) (by decide), nI_clamp (by omega), good_t, bd2_e rfl, Ok_some, ckI (show r < 9 by omega) (by decide), g1, nI_add, ckI (show f + i < 8 by omega) (by decide), nI_clamp (show f + i < 2 ^ 31 by omega), g4 i d, grant_t, bd2_e rfl, Ok_some]
        exact AN.mk (by decide) (Sc.refl _)
      · rw [if_pos (nI_le (by omega) (by omega)), if_neg (nI_nlt (by omega) (by omega))]
        exact bad
  · rw [bd1_e e2, bd1_e e1, if_pos rfl, if_pos rfl]
    exact bad
theorem a_holds (h : IVt tn ri now bo md) (hF : RF ri tn) (ht : HK_there hk = 1) (v : Int32) (b : Bool) : Ok (f_X13_holds md tn v (bI b)) (fun q => Ok (f_X11_holds hk ri v (bI b)) (fun c => AN hk md c.1 c.2 q)) := by
  obtain ⟨hT, hR⟩ := h.tw
  have h8 := hT.p8
  unfold f_X13_holds f_X11_holds f_X13_holds_L30 f_X11_holds_L34
  rw [lt1_e]
  rcases b_person hT hR ht v with ⟨p, hp, rfl, e1, e2⟩ | ⟨e1, e2⟩
  · rw [bd1_e e2, bd1_e e1, if_neg (show ¬ ((1 : Int32) = 0) by decide), if_neg (show ¬ ((1 : Int32) = 0) by decide), i2]
    cases b with
    | false =>
      rw [if_pos (show bI false = 0 from rfl), if_pos (show bI false = 0 from rfl), Int32.add_zero, bd1_e (hF.2.2.1 (2 * p) (by omega)), good_t, bd2_e rfl, Ok_some, ckI (show 2 * p < 16 by omega) (by decide), nI_clamp (by omega), grant_t, bd2_e rfl, Ok_some]
      exact AN.mk (by decide) (Sc.refl _)
    | true =>
      rw [if_neg (show ¬ (bI true = 0) by decide), if_neg (show ¬ (bI true = 0) by decide), nI_1, bd1_e (hF.2.2.1 (2 * p + 1) (by omega)), good_t, bd2_e rfl, Ok_some, ckI (show 2 * p + 1 < 16 by omega) (by decide), nI_clamp (by omega), grant_t, bd2_e rfl, Ok_some]
      exact AN.mk (by decide) (Sc.refl _)
  · rw [bd1_e e2, bd1_e e1, if_pos rfl, if_pos rfl, refused_t, refuse_t, bd2_e rfl, bd2_e rfl, Ok_some, Ok_some]
    exact AN.mk (by decide) (Sc.refl _)
theorem a_along (h : IVt tn ri now bo md) (hF : RF ri tn) (ht : HK_there hk = 1) (v : Int32) : Ok (f_X13_along md tn v) (fun q => Ok (f_X11_along hk ri v) (fun c => AN hk md c.1 c.2 q)) := by
  obtain ⟨hT, hR⟩ := h.tw
  have h8 := hT.l8
  unfold f_X13_along f_X11_along f_X13_along_L31
  rw [lt1_e]
  rcases b_link hT hR ht v with ⟨l, hl, rfl, e1, e2⟩ | ⟨e1, e2⟩
  · rw [bd1_e e2, bd1_e e1, if_neg (show ¬ ((1 : Int32) = 0) by decide), if_neg (show ¬ ((1 : Int32) = 0) by decide), ckI (show l < 8 by omega) (by decide), ckI (show l < 8 by omega) (by decide), nI_clamp (by omega)]
    rcases hF.2.2.2.1 l hl with ⟨g1, g2⟩ | ⟨g1, g2⟩
    · rw [if_pos g1, good_t, bd2_e rfl, Ok_some, g2, grant_t, bd2_e rfl, Ok_some]
      exact AN.mk (by decide) (Sc.refl _)
    · rw [if_neg g1, good_t, bd2_e rfl, Ok_some, g2, grant_t, bd2_e rfl, Ok_some]
      exact AN.mk (by decide) (Sc.refl _)
  · rw [bd1_e e2, bd1_e e1, if_pos rfl, if_pos rfl, refused_t, refuse_t, bd2_e rfl, bd2_e rfl, Ok_some, Ok_some]
    exact AN.mk (by decide) (Sc.refl _)
theorem csz (ht : HK_there hk = 1) {j : Nat} (hj : j ≤ 10) : f_X11_size hk ta hi now ri (nI j) = if j < 7 then f_X11_toldSize ri (nI j) else f_X11_changingSize hi now (nI j) := by
  have q0 : ¬ (nI j < nI 0) := nI_nlt (by omega) (by omega)
  have q1 : nI j ≤ nI 11 := nI_le (by omega) (by omega)
  have q2 : ¬ (nI j = nI 11) := fun e => absurd (nI_inj e (by omega) (by omega)) (by omega)
  have bs : ∀ o : Option Int32, (bd1 o fun r => some r) = o := fun o => by cases o <;> rfl
  unfold f_X11_size
  rw [if_neg (show ¬ (nI j < 0) from q0), if_pos (show nI j ≤ 11 from q1), if_neg (show ¬ (nI j = 11) from q2), if_neg (show ¬ (HK_there hk = 0) by rw [ht]; decide), bs, bs]
  by_cases c : j < 7
  · have q3 : ¬ (nI 7 ≤ nI j) := nI_ge c (by omega)
    rw [if_neg (show ¬ ((7 : Int32) ≤ nI j) from q3), if_pos c]
  · have q3 : nI 7 ≤ nI j := nI_le (by omega) (by omega)
    rw [if_pos (show (7 : Int32) ≤ nI j from q3), if_neg c]
theorem a_size (h : IVt tn ri now bo md) (hH : HR tn hi md) (hF : RF ri tn) (ht : HK_there hk = 1) (hta : Ta_filled ta = Md_taped md) (v : Int32) : Ok (f_X13_size md tn v) (fun q => Ok (f_X11_size hk ta hi now ri v) (fun c => c = q.1 ∧ q.2 = Md_thrown' md 0)) := by
  obtain ⟨hT, hR⟩ := h.tw
  obtain ⟨pt, s, _, _, hD, hp, hs, hs2, hK, hP, hpa, hse, hB⟩ := h
  obtain ⟨k, f, m, _, _, _, h1, h2, _, h3, h4, _⟩ := hH
  by_cases c0 : v < 0
  · have c1 : ¬ (v = 11) := fun e => by rw [e] at c0; exact absurd c0 (by decide)
    unfold f_X13_size f_X11_size f_X13_in
    rw [lt1_e, if_neg c1, if_pos c0, bd1_e rfl, if_pos rfl, Ok_some, if_pos c0, Ok_some]
    exact ⟨rfl, rfl⟩
  · obtain ⟨j, hj, rfl⟩ := nI_of c0
    by_cases c1 : j = 11
    · subst c1
      unfold f_X13_size f_X11_size
      rw [lt1_e, if_pos (by decide), Ok_some, if_neg (by decide), if_pos (by decide), if_pos (by decide), Ok_some, hta, gn_taped_thrown]
      exact ⟨rfl, rfl⟩
    · by_cases c2 : 11 < j
      · have q1 : nI 10 < nI j := nI_lt (by omega) (by omega)
        have q2 : ¬ (nI j = nI 11) := fun e => absurd (nI_inj e (by omega) (by omega)) (by omega)
        have q3 : ¬ (nI j ≤ nI 11) := nI_ge (by omega) (by omega)
        unfold f_X13_size f_X11_size f_X13_in
        rw [lt1_e, if_neg (show ¬ (nI j = 11) from q2), if_neg c0, if_pos (show (10 : Int32) < nI j from q1), bd1_e rfl, if_pos rfl, Ok_some, if_neg c0, if_neg (show ¬ (nI j ≤ 11) from q3), Ok_some]
        exact ⟨rfl, rfl⟩
      · have hj10 : j ≤ 10 := by omega
        rw [csz ht hj10]
        have hcase : j = 0 ∨ j = 1 ∨ j = 2 ∨ j = 3 ∨ j = 4 ∨ j = 5 ∨ j = 6 ∨ j = 7 ∨ j = 8 ∨ j = 9 ∨ j = 10 := by omega
        rcases hcase with rfl | rfl | rfl | rfl | rfl | rfl | rfl | rfl | rfl | rfl | rfl
        · exact (Ok_eq (show f_X13_size md tn (nI 0) = some (Tn_people tn, Md_thrown' md 0) from rfl)).mpr ((Ok_eq (show _ = some (Ri_people ri) from rfl)).mpr ⟨hR.P.trans hT.P.symm, rfl⟩)
        · exact (Ok_eq (show f_X13_size md tn (nI 1) = some (Tn_links tn, Md_thrown' md 0) from rfl)).mpr ((Ok_eq (show _ = some (Ri_links ri) from rfl)).mpr ⟨hR.L.trans hT.L.symm, rfl⟩)
        · exact (Ok_eq (show f_X13_size md tn (nI 2) = some (Tn_rings tn, Md_thrown' md 0) from rfl)).mpr ((Ok_eq (show _ = some (Ri_count ri) from rfl)).mpr ⟨hR.R.trans hT.R.symm, rfl⟩)
        · exact (Ok_eq (show f_X13_size md tn (nI 3) = some (Tn_crossings tn, Md_thrown' md 0) from rfl)).mpr ((Ok_eq (show _ = some (Ri_crossings ri) from rfl)).mpr ⟨hR.X.trans hT.X.symm, rfl⟩)
        · exact (Ok_eq (show f_X13_size md tn (nI 4) = some (Tn_standings tn, Md_thrown' md 0) from rfl)).mpr ((Ok_eq (show _ = some (Ri_standings ri) from rfl)).mpr ⟨hR.S.trans hT.S.symm, rfl⟩)
        · exact (Ok_eq (show f_X13_size md tn (nI 5) = some (Tn_height tn, Md_thrown' md 0) from rfl)).mpr ((Ok_eq (show _ = some (Ri_tall ri) from rfl)).mpr ⟨hF.2.2.2.2.1, rfl⟩)
        · have e1 : f_X13_size md tn (nI 6) = (if Tn_once tn = 0 then some (0, Md_thrown' md 0) else some (1, Md_thrown' md 0)) := rfl
          have e2 : (if (6 : Nat) < 7 then f_X11_toldSize ri (nI 6) else f_X11_changingSize hi now (nI 6)) = (if Ri_once ri = 0 then some 0 else some 1) := rfl
          rw [e1, e2]
          by_cases c : Ri_once ri = 0
          · rw [if_pos (hF.2.2.2.2.2.mp c), if_pos c, Ok_some, Ok_some]; exact ⟨rfl, rfl⟩
          · rw [if_neg (fun e => c (hF.2.2.2.2.2.mpr e)), if_neg c, Ok_some, Ok_some]; exact ⟨rfl, rfl⟩
        · refine (Ok_eq (show f_X13_size md tn (nI 7) = some (Md_parted (Md_thrown' md 0), Md_thrown' md 0) from rfl)).mpr ((Ok_eq (show _ = some (Mo_parted now) from rfl)).mpr ⟨?_, rfl⟩)
          exact hpa.trans ((gn_parted_thrown md 0).trans hp).symm
        · refine (Ok_eq (show f_X13_size md tn (nI 8) = some (Md_seed (Md_thrown' md 0), Md_thrown' md 0) from rfl)).mpr ((Ok_eq (show _ = some (Mo_seed now) from rfl)).mpr ⟨?_, rfl⟩)
          exact hse.trans ((gn_seed_thrown md 0).trans hs).symm
        · refine (Ok_eq (show f_X13_size md tn (nI 9) = some (Md_acts (Md_thrown' md 0), Md_thrown' md 0) from rfl)).mpr ((Ok_eq (show _ = some (Hi_kept hi) from rfl)).mpr ⟨?_, rfl⟩)
          exact h1.trans ((gn_acts_thrown md 0).trans h2).symm
        · refine (Ok_eq (show f_X13_size md tn (nI 10) = some (Md_marks (Md_thrown' md 0), Md_thrown' md 0) from rfl)).mpr ((Ok_eq (show _ = some (Hi_marked hi) from rfl)).mpr ⟨?_, rfl⟩)
          exact h3.trans ((gn_marks_thrown md 0).trans h4).symm
end LEDF
