/-! signs by the way that the rings are gone, and the beginning -/
section SGS
variable {to : ToS} {rd tn : TnS} {P X R : Nat} {T : List (Nat × Nat × Nat)} {ri0 ri : RiS} {fm : Nat → Nat}
theorem plus_2 (ri : RiS) (v w : Int32) : Ri_plus' (Ri_plus' ri v) w = Ri_plus' ri w := rfl
theorem signs_L {lo lu : Nat → Nat} (hX : X ≤ 7) (hc : Ri_crossings ri0 = nI X) (hl : ∀ x, x < X → To_linkOver to x = nI (lo x) ∧ lo x < 8 ∧ To_linkUnder to x = nI (lu x) ∧ lu x < 8) :
    ∀ rem f x v, x + rem = X → rem < f → (∀ z, z < x → bitB v z = (bitB (To_plus to) z ^^ decide (¬ Ri_along ri0 (lo z) = Ri_along ri0 (lu z)))) → (∀ z, x ≤ z → z < 32 → bitB v z = bitB (To_plus to) z) →
    Ok (f_X6_traceSigns_L10 f (nI x) (Ri_plus' ri0 v) to) (fun ri' => ∃ v', ri' = Ri_plus' ri0 v' ∧ ∀ z, z < X → bitB v' z = (bitB (To_plus to) z ^^ decide (¬ Ri_along ri0 (lo z) = Ri_along ri0 (lu z)))) := by
  intro rem
  induction rem with
  | zero =>
    intro f x v hx hf h1 h2
    cases f with
    | zero => omega
    | succ f =>
      rw [f_X6_traceSigns_L10]
      simp only [GR_plus, hc]
      rw [if_pos (nI_le (by omega) (by omega)), Ok_some]
      exact ⟨v, rfl, fun z hz => h1 z (by omega)⟩
  | succ rem ih =>
    intro f x v hx hf h1 h2
    cases f with
    | zero => omega
    | succ f =>
      obtain ⟨l1, l2, l3, l4⟩ := hl x (by omega)
      rw [f_X6_traceSigns_L10]
      unfold f_X6_traceSigns_L55
      simp only [GR_plus, hc, lt1_e, nI_1, plus_2]
      rw [if_neg (nI_ge (show x < X by omega) (by omega)), ckI (show x < 7 by omega) (by decide), nI_clamp (by omega), l1, l3, ckI l2 (by decide), ckI (show x < 7 by omega) (by decide), ckI l4 (by decide), nI_clamp (by omega), nI_clamp (by omega)]
      by_cases c : Ri_along ri0 (lo x) = Ri_along ri0 (lu x)
      · rw [if_pos c]
        refine ih f (x + 1) v (by omega) (by omega) (fun z hz => ?_) (fun z h3 h4 => h2 z (by omega) h4)
        by_cases e : z = x
        · rw [e, h2 x (by omega) (by omega), decide_eq_false (fun d => d c), Bool.xor_false]
        · exact h1 z (by omega)
      · rw [if_neg c]
        refine ih f (x + 1) _ (by omega) (by omega) (fun z hz => ?_) (fun z h3 h4 => ?_)
        · rw [bit_xor, bit_one x z (by omega) (by omega)]
          by_cases e : z = x
          · rw [e, h2 x (by omega) (by omega), decide_eq_true rfl, decide_eq_true c]
          · rw [decide_eq_false e, Bool.xor_false]; exact h1 z (by omega)
        · rw [bit_xor, bit_one x z (by omega) h4, decide_eq_false (by omega), Bool.xor_false]
          exact h2 z (by omega) h4
theorem TR.plus {v : Int32} (h : TR ri tn) : TR (Ri_plus' ri v) tn := by
  unfold TR fsr lsr at h ⊢
  simp only [GR_plus]
  exact h
theorem RF.plus {v : Int32} (h : RF ri tn) : RF (Ri_plus' ri v) tn := by
  unfold RF at h ⊢
  simp only [GR_plus]
  exact h
theorem ALLT.signs (h : ALLT to rd ri0 P X R T fm ri tn) (hb : To_begun to = 1) (hD : RHD to P X ri0) : Ok (f_X6_traceSigns ri to) (fun ri' => ∃ v, ri' = Ri_plus' ri v ∧ PLS tn v 0) := by
  have h8 := h.R8
  have hT := h.2.1
  have hn := hT.1.1
  have hk := h.2.2.2.1.1.2.1
  have hW := h.tw hb
  obtain ⟨⟨e1, e2, e3, e4, e5⟩, c1, c2, c3, c4, c5⟩ := h.nums
  have hc : Ri_crossings ri = nI X := (congrArg (fun z => z.1.2.2.1) h.2.2.2.1.2.1.2.1).trans hD.1.2.1
  have hcr : ∀ x, x < X → To_linkOver to x = nI (ov tn x) ∧ ov tn x < 8 ∧ To_linkUnder to x = nI (un tn x) ∧ un tn x < 8 := fun x hx => by
    obtain ⟨lo, po, lu, pu, g, ⟨g1, g2, g3, g4⟩, ⟨g5, g6, g7, g8⟩, g9⟩ := hT.2.2.2.2.2.1 x hx
    have k1 : Tn_over tn = Tn_over rd := congrArg (fun z => z.2.2.1) hk
    have k2 : Tn_under tn = Tn_under rd := congrArg (fun z => z.2.2.2.2.1) hk
    have a1 : ov tn x = lo := by unfold ov; rw [k1, g1, cl_I (by omega)]
    have a2 : un tn x = lu := by unfold un; rw [k2, g5, cl_I (by omega)]
    rw [a1, a2]
    exact ⟨g2, by omega, g6, by omega⟩
  have hal : ∀ l, l < P → Tn_along tn l = Ri_along ri l := fun l hl => by
    obtain ⟨i, t, a1, a2⟩ := h.link hl
    have b := (h.2.2.2.1.2.1.2.2.1 i t.1 t.2.1 t.2.2 a1).2.1
    have d := (h.2.2.2.1.1.2.2.1 i t.1 t.2.1 t.2.2 a1).2.2.2.2
    rw [a2] at b d
    rw [b, d]
  unfold f_X6_traceSigns
  rw [lt1_e]
  refine (signs_L (lo := ov tn) (lu := un tn) hn.2.2 hc hcr X FU 0 (To_plus to) (by omega) (by rw [FU_e]; omega) (fun z hz => absurd hz (by omega)) (fun z _ _ => rfl)).mono (fun ri' hr => ?_)
  obtain ⟨v, e, hv⟩ := hr
  refine ⟨v, e, fun x hx => ?_⟩
  rw [c2] at hx
  rw [hv x hx]
  have k3 : Tn_sign tn = Tn_sign rd := congrArg (fun z => z.2.2.2.2.2.2) hk
  obtain ⟨lo, po, lu, pu, g, _, _, g9⟩ := hT.2.2.2.2.2.1 x hx
  have hcr' := hW.cr (show x < nX tn by rw [c2]; exact hx)
  rw [c3] at hcr'
  have es : sgnk tn 0 x = if Ri_along ri (ov tn x) = Ri_along ri (un tn x) then Tn_sign tn x else - Tn_sign tn x := by
    unfold sgnk f_X12_signOf f_X12_signOf_L30 f_X12_signOf_L43
    simp only [ckI (show x < 7 by omega) (show 7 < 2 ^ 31 by decide), nI_clamp (show x < 2 ^ 31 by omega), hcr'.1, hcr'.2.2.1, ckI (show ov tn x < 8 by omega) (show 8 < 2 ^ 31 by decide), ckI (show un tn x < 8 by omega) (show 8 < 2 ^ 31 by decide), nI_clamp (show ov tn x < 2 ^ 31 by omega), nI_clamp (show un tn x < 2 ^ 31 by omega), hal _ hcr'.2.1, hal _ hcr'.2.2.2.1, shr_1 0 x (show x < 32 by omega), bit_0]
    rw [if_pos (show bI false = 0 from rfl), if_pos (show bI false = 0 from rfl)]
    by_cases c : Ri_along ri (ov tn x) = Ri_along ri (un tn x)
    · rw [if_pos c, if_pos c, if_pos trivial]; rfl
    · rw [if_neg c, if_neg c, if_neg (by decide)]; rfl
  rw [es, k3, g9]
  by_cases c : Ri_along ri (ov tn x) = Ri_along ri (un tn x)
  · rw [if_pos c, decide_eq_false (fun d => d c), Bool.xor_false]
    by_cases d : bitB (To_plus to) x = true
    · rw [if_pos d]; exact ⟨fun _ => rfl, fun _ => d⟩
    · rw [if_neg d]; exact ⟨fun e => absurd e d, fun e => absurd e (by decide)⟩
  · rw [if_neg c, decide_eq_true c, Bool.xor_true]
    by_cases d : bitB (To_plus to) x = true
    · rw [if_pos d, d]; exact ⟨fun e => absurd e (by decide), fun e => absurd e (by decide)⟩
    · rw [if_neg d, Bool.not_eq_true _ |>.mp d]; exact ⟨fun _ => by decide, fun _ => rfl⟩
/-- the hands first -/
theorem hands_L (hF : HF to P) (hP : P ≤ 8) {ria : RiS} (hl : Ri_links ria = nI P) : ∀ rem f l ri, l + rem = P → rem < f → HK0' ria ri → (∀ k, k < l → HD to ri k) → ∃ ri', HK0' ria ri' ∧ (∀ k, k < P → HD to ri' k) ∧ f_X6_trace_L83 f (nI l) ri to = f_X6_trace_L107 FU 0 0 ri' to := by
  intro rem
  induction rem with
  | zero =>
    intro f l ri h1 h2 h3 h4
    cases f with
    | zero => omega
    | succ f =>
      refine ⟨ri, h3, fun k hk => h4 k (by omega), ?_⟩
      rw [f_X6_trace_L83, h3.1.2.1, hl, if_pos (nI_le (by omega) (by omega))]
  | succ rem ih =>
    intro f l ri h1 h2 h3 h4
    cases f with
    | zero => omega
    | succ f =>
      obtain ⟨ri2, e, a1, a2, a3⟩ := hands_1 (ri := ri) hF hP (show l < P by omega)
      obtain ⟨ri', b1, b2, b3⟩ := ih f (l + 1) ri2 (by omega) (by omega) (h3.trans a1) (fun k hk => by
        by_cases c : k = l
        · rw [c]; exact a2
        · exact a3 k (by omega) (h4 k (by omega)))
      refine ⟨ri', b1, b2, ?_⟩
      rw [f_X6_trace_L83, h3.1.2.1, hl, if_neg (nI_ge (by omega) (by omega)), bd1_e e, lt1_e, nI_1]
      exact b3
theorem ring0_L (hP : P ≤ 8) : ∀ rem f p g, p + rem = P → rem < f → Tn_people rd = nI P → (∀ k, k < p → g k = -1) → ∃ g', (∀ k, k < P → g' k = -1) ∧ f_X12_laysRings_L2 f (nI p) (Tn_ringOf' rd g) = f_X12_laysRings_L25 FU 0 (Tn_ringOf' rd g') := by
  intro rem
  induction rem with
  | zero =>
    intro f p g h1 h2 h3 h4
    cases f with
    | zero => omega
    | succ f =>
      refine ⟨g, fun k hk => h4 k (by omega), ?_⟩
      rw [f_X12_laysRings_L2]
      simp only [GT_ringOf, h3]
      rw [if_pos (nI_le (by omega) (by omega))]
  | succ rem ih =>
    intro f p g h1 h2 h3 h4
    cases f with
    | zero => omega
    | succ f =>
      obtain ⟨g', b1, b2⟩ := ih f (p + 1) (upd g p (-1)) (by omega) (by omega) h3 (fun k hk => by
        by_cases c : k = p
        · rw [c, upd_at]
        · rw [upd_ne c]; exact h4 k (by omega))
      refine ⟨g', b1, ?_⟩
      rw [f_X12_laysRings_L2]
      simp only [GT_ringOf, h3, lt1_e, nI_1]
      rw [if_neg (nI_ge (show p < P by omega) (by omega)), ckI (show p < 8 by omega) (by decide), nI_clamp (by omega)]
      exact b2
end SGS
