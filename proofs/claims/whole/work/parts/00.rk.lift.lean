/-- a pass, its crossing turned over -/
def tov (x v : Nat) : Nat := if v / 2 = x then (if v % 2 = 0 then v + 1 else v - 1) else v
theorem tov_key : ∀ x, x < 7 → ∀ v, v < 16 → (if (v + 1) % 16 ≠ 0 ∧ ((v + 1) % 16 - 1) / 2 = x then (v + 1) % 16 ^^^ ((2 * x + 1) ^^^ (2 * x + 2)) else (v + 1) % 16) = (tov x v + 1) % 16 := by decide +kernel
theorem tov_c : ∀ x : Nat, x < 7 → ((2 : Int32) * nI x + 1) ^^^ ((2 : Int32) * nI x + 2) = nI ((2 * x + 1) ^^^ (2 * x + 2)) ∧ (2 * x + 1) ^^^ (2 * x + 2) < 16 := by decide +kernel
theorem tov_swp {x v : Nat} : tov x (tov x v) = v := by
  unfold tov
  by_cases a : v / 2 = x
  · by_cases b : v % 2 = 0
    · rw [if_pos a, if_pos b, if_pos (by omega), if_neg (by omega)]; omega
    · rw [if_pos a, if_neg b, if_pos (by omega), if_pos (by omega)]; omega
  · rw [if_neg a, if_neg a]
theorem tov_div {x v : Nat} : tov x v / 2 = v / 2 := by
  unfold tov
  by_cases a : v / 2 = x
  · by_cases b : v % 2 = 0
    · rw [if_pos a, if_pos b]; omega
    · rw [if_pos a, if_neg b]; omega
  · rw [if_neg a]
theorem tov_15 {x v : Nat} (hx : x < 7) : tov x v = 15 ↔ v = 15 := by
  unfold tov
  by_cases a : v / 2 = x
  · by_cases b : v % 2 = 0
    · rw [if_pos a, if_pos b]; omega
    · rw [if_pos a, if_neg b]; omega
  · rw [if_neg a]
theorem tov_0 {x : Nat} : tov x (2 * x) = 2 * x + 1 := by unfold tov; rw [if_pos (by omega), if_pos (by omega)]
theorem tov_1 {x : Nat} : tov x (2 * x + 1) = 2 * x := by unfold tov; rw [if_pos (by omega), if_neg (by omega)]; omega
theorem tov_n {x v : Nat} (h : v / 2 ≠ x) : tov x v = v := if_neg h
section LIFT
variable {tn : TnS} {pt : Option Nat} {t u kc : Int64} {lf plus : Int32} {x : Nat}
def LD (tn : TnS) (t : Int64) (x : Nat) (u : Int64) : Prop := (∀ s, s < nS tn → nib u s = tov x (nib t s)) ∧ (∀ s, nS tn ≤ s → s < 16 → nib u s = nib t s)
theorem lifted_e (hT : TW tn) (hC : CW tn t) {md : MdS} (hL : Looked md tn pt t) (hx : x < nX tn) (h0 : LV tn t (2 * x)) (h1 : LV tn t (2 * x + 1)) : f_X13_liftedFrom md t (nI x) = some (chg tn t t (2 * x) (2 * x + 1)) := by
  have h7 := hT.x7
  unfold f_X13_liftedFrom
  obtain ⟨e0, _⟩ := lv_sp h0 hC (by omega)
  obtain ⟨e1, _⟩ := lv_sp h1 hC (by omega)
  rw [i2, nI_1, ckI (by omega) (by omega), nI_clamp (by omega), hL.1 _ (by omega), e0]
  show bd1 (f_X13_with t (nI (sp tn t (2 * x))) (nI (2 * x + 1))) _ = _
  rw [bd1_e (with_e _ _ _), ckI (by omega) (by omega), nI_clamp (by omega), hL.1 _ (by omega), e1]
  show bd1 (f_X13_with _ (nI (sp tn t (2 * x + 1))) (nI (2 * x))) _ = _
  rw [bd1_e (with_e _ _ _)]
  rfl
theorem LD_chg (hT : TW tn) (hC : CW tn t) (hx : x < nX tn) (h0 : LV tn t (2 * x)) (h1 : LV tn t (2 * x + 1)) : LD tn t x (chg tn t t (2 * x) (2 * x + 1)) := by
  have h7 := hT.x7
  have h14 := hT.s14
  obtain ⟨_, a1, _⟩ := lv_sp h0 hC (by omega)
  obtain ⟨_, b1, _⟩ := lv_sp h1 hC (by omega)
  unfold chg
  refine ⟨fun s hs => ?_, fun s hs h16 => ?_⟩
  · have i0 := sp_iff h0 hC (by omega) hs
    have i1 := sp_iff h1 hC (by omega) hs
    rw [nib_wth _ _ _ _ (by omega) (by omega) (by omega), nib_wth _ _ _ _ (by omega) (by omega) (by omega)]
    by_cases c : nib t s = 2 * x + 1
    · rw [if_pos (i1.mpr c), c, tov_1]
    · rw [if_neg (fun e => c (i1.mp e))]
      by_cases d : nib t s = 2 * x
      · rw [if_pos (i0.mpr d), d, tov_0]
      · rw [if_neg (fun e => d (i0.mp e)), tov_n (by omega)]
  · rw [nib_wth _ _ _ _ (by omega) (by omega) (by omega), nib_wth _ _ _ _ (by omega) (by omega) (by omega), if_neg (by omega), if_neg (by omega)]
theorem LD.DW (hT : TW tn) (hD : DW tn pt t) (hx : x < nX tn) (h : LD tn t x u) : DW tn pt u := by
  have hC := hD.1
  have h7 := hT.x7
  have hx7 : x < 7 := by omega
  have inv : ∀ {s v}, s < nS tn → nib u s = v → nib t s = tov x v := fun hs e => by rw [← e, h.1 _ hs, tov_swp]
  refine ⟨⟨?_, ?_, ?_, ?_⟩, ?_, ?_, ?_⟩
  · intro s hs e
    rw [h.1 s hs] at e ⊢
    have := hC.1 s hs (fun e2 => e ((tov_15 hx7).mpr e2))
    have := tov_div (x := x) (v := nib t s)
    omega
  · intro s k hs hk e1 e2
    rw [h.1 s hs] at e1
    rw [h.1 s hs, h.1 k hk] at e2
    refine hC.2.1 s k hs hk (fun e3 => e1 ((tov_15 hx7).mpr e3)) ?_
    rw [← tov_swp (x := x) (v := nib t s), e2, tov_swp]
  · intro s h1 h2
    rw [h.2 s h1 h2]
    exact hC.2.2.1 s h1 h2
  · intro y hy
    have h4 := hC.2.2.2 y hy
    by_cases c : y = x
    · subst c
      constructor
      · rintro ⟨s, hs, e⟩
        obtain ⟨k, hk, e3⟩ := h4.mpr ⟨s, hs, by rw [inv hs e, tov_0]⟩
        exact ⟨k, hk, by rw [h.1 k hk, e3, tov_0]⟩
      · rintro ⟨s, hs, e⟩
        obtain ⟨k, hk, e3⟩ := h4.mp ⟨s, hs, by rw [inv hs e, tov_1]⟩
        exact ⟨k, hk, by rw [h.1 k hk, e3, tov_1]⟩
    · constructor
      · rintro ⟨s, hs, e⟩
        obtain ⟨k, hk, e3⟩ := h4.mp ⟨s, hs, by rw [inv hs e, tov_n (by omega)]⟩
        exact ⟨k, hk, by rw [h.1 k hk, e3, tov_n (by omega)]⟩
      · rintro ⟨s, hs, e⟩
        obtain ⟨k, hk, e3⟩ := h4.mpr ⟨s, hs, by rw [inv hs e, tov_n (by omega)]⟩
        exact ⟨k, hk, by rw [h.1 k hk, e3, tov_n (by omega)]⟩
  · have : cnt tn u = cnt tn t := by
      unfold cnt
      refine countP_same (fun i hi => ?_)
      have := tov_15 (v := nib t i) hx7
      rw [← h.1 i hi] at this
      by_cases c : nib t i = 15
      · unfold lvB
        rw [c, this.mpr c]
      · have d : nib u i ≠ 15 := fun e => c (this.mp e)
        rw [lvB_t.mpr c, lvB_t.mpr d]
    rw [this]
    exact hD.2.1
  · intro l e
    obtain ⟨a, b⟩ := hD.2.2.1 l e
    exact ⟨a, fun s hs e2 => by rw [h.1 s hs, (tov_15 hx7).mpr (b s hs e2)]⟩
  · intro y hy s k hs hk e1 e2
    have f1 := inv hs e1
    have f2 := inv hk e2
    by_cases c : y = x
    · subst c
      rw [tov_0] at f1
      rw [tov_1] at f2
      exact (hD.2.2.2 y hy k s hk hs f2 f1).elim (fun q => Or.inr ⟨q.2, q.1⟩) (fun q => Or.inl ⟨q.2, q.1⟩)
    · rw [tov_n (by omega)] at f1 f2
      exact hD.2.2.2 y hy s k hs hk f1 f2
theorem sgn_b (hT : TW tn) {z : Nat} (hz : z < nX tn) : ∃ v : Int32, (v = 1 ∨ v = -1) ∧ ∀ lf, sgnk tn lf z = if bitB lf z = true then -v else v := by
  have h7 := hT.x7
  have h8 := hT.l8
  obtain ⟨c1, c2, c3, c4, c5⟩ := hT.cr hz
  have neg : ∀ v : Int32, v = 1 ∨ v = -1 → (-v = 1 ∨ -v = -1) ∧ - -v = v := by
    rintro v (rfl | rfl) <;> decide
  have key : ∀ lf a b, (if Tn_along tn (Int32.toNatClampNeg (nI (ov tn z))) = Tn_along tn (Int32.toNatClampNeg (nI (un tn z))) then f_X12_signOf_L30 (nI z) lf 1 tn else f_X12_signOf_L30 (nI z) lf 0 tn) = some (if bitB lf z = true then a else b) → sgnk tn lf z = if bitB lf z = true then a else b := by
    intro lf a b h
    unfold sgnk f_X12_signOf
    simp only [ckI (show z < 7 by omega) (show 7 < 2 ^ 31 by decide), nI_clamp (show z < 2 ^ 31 by omega), c1, c3, ckI (show ov tn z < 8 by omega) (show 8 < 2 ^ 31 by decide), ckI (show un tn z < 8 by omega) (show 8 < 2 ^ 31 by decide)]
    rw [h]
    rfl
  by_cases c : Tn_along tn (Int32.toNatClampNeg (nI (ov tn z))) = Tn_along tn (Int32.toNatClampNeg (nI (un tn z)))
  · refine ⟨Tn_sign tn z, c5, fun lf => key lf _ _ ?_⟩
    rw [if_pos c]
    unfold f_X12_signOf_L30 f_X12_signOf_L43
    simp only [ckI (show z < 7 by omega) (show 7 < 2 ^ 31 by decide), nI_clamp (show z < 2 ^ 31 by omega), shr_1 lf z (show z < 32 by omega)]
    cases bitB lf z <;> rfl
  · refine ⟨-Tn_sign tn z, (neg _ c5).1, fun lf => key lf _ _ ?_⟩
    rw [if_neg c]
    unfold f_X12_signOf_L30 f_X12_signOf_L43
    simp only [ckI (show z < 7 by omega) (show 7 < 2 ^ 31 by decide), nI_clamp (show z < 2 ^ 31 by omega), shr_1 lf z (show z < 32 by omega), (neg _ c5).2]
    cases bitB lf z <;> rfl
theorem PLS.lift (hT : TW tn) (hx : x < nX tn) (h : PLS tn plus lf) : PLS tn (plus ^^^ ((1 : Int32) <<< (nI x &&& 31))) (lf ^^^ ((1 : Int32) <<< (nI x &&& 31))) := by
  intro z hz
  have h7 := hT.x7
  obtain ⟨v, hv, e⟩ := sgn_b hT hz
  have hz1 := h z hz
  rw [e] at hz1 ⊢
  rw [bit_xor, bit_xor, bit_one _ _ (by omega) (by omega)]
  by_cases c : z = x
  · rw [decide_eq_true c]
    revert hz1
    rcases hv with rfl | rfl <;> cases bitB plus z <;> cases bitB lf z <;> decide
  · rw [decide_eq_false c, Bool.xor_false, Bool.xor_false]
    exact hz1
end LIFT
