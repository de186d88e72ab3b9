section ALLOWS
variable {ri : RiS} {tn : TnS} {pt : Option Nat} {t : Int64} {lf : Int32} {bo : BoS} {m : Nat}
theorem bI_tfs {b : Bool} {P : Prop} (h : b = true ↔ P) : some (bI b) = some (tf P) := some_tf (fun p => bI_t (h.mpr p)) (fun p => bI_f (by cases b with | false => rfl | true => exact absurd (h.mp rfl) p))
theorem ccan_e (hT : TW tn) (hG : GB tn pt lf t bo) (hm : isMv (nX tn) m = true) : f_X0_can bo (nI m) = some (tf (CAN tn pt lf t m)) := by
  have h7 := hT.x7
  have hlt := isMv_lt hm
  have hB := hG.2.1
  unfold f_X0_can
  rw [bd1_e (first_e hm), bd1_e (second_e hlt)]
  unfold CAN
  by_cases h1 : m < 100
  · have q : ¬ (nI 100 ≤ nI m) := nI_ge h1 (by omega)
    have hx := isMv_0 hm h1
    rw [if_neg (show ¬ ((100 : Int32) ≤ nI m) from q), if_pos h1, if_pos h1, ckI (by omega) (by decide), nI_clamp (by omega), bd1_e (has_e _ _ (by omega)), zb_i (by cases bitB (Bo_overByUnder bo m) m <;> decide)]
    exact bI_tfs (hB m m hx hx).2.1
  · have q : nI 100 ≤ nI m := nI_le (by omega) (by omega)
    rw [if_pos (show (100 : Int32) ≤ nI m from q), if_neg h1, if_neg h1]
    by_cases h2 : m < 1000
    · have q1 : ¬ (nI 1000 ≤ nI m) := nI_ge h2 (by omega)
      obtain ⟨a1, a2, a3⟩ := isMv_1 hm h1 h2
      obtain ⟨w, e1, e2⟩ := slips_e hT hG (show m / 10 % 10 < nX tn by omega) (bo := bo) rfl
      rw [if_neg (show ¬ ((1000 : Int32) ≤ nI m) from q1), if_pos h2, if_pos h2, if_pos h2, bd1_e e1, bd1_e (has_e _ _ (by omega)), zb_i (by cases bitB w (m % 10) <;> decide)]
      exact bI_tfs (e2 _ a3)
    · have q1 : nI 1000 ≤ nI m := nI_le (by omega) (by omega)
      obtain ⟨_, a1, a2, a3, a4, a5, a6⟩ := isMv_2 hm h1 h2
      obtain ⟨w, e1, e2⟩ := stepsWith_e hT hG a1 a2
      rw [if_pos (show (1000 : Int32) ≤ nI m from q1), if_neg h2, if_neg h2, if_neg h2, ckI (by omega) (by decide), nI_clamp (by omega), bd1_e (has_e _ _ (by omega)), bd1_e e1, bd1_e (third_e hlt), bd1_e (has_e _ _ (by omega))]
      have b1 := (hB _ _ a1 a2).1
      have b2 := e2 _ a3
      revert b1 b2
      cases bitB (Bo_overByOver bo (m / 100 % 10)) (m / 10 % 10)
      · intro b1 b2
        rw [if_pos (show bI false = 0 from rfl)]
        exact some_tf (fun p => absurd (b1.mpr p.1) (by decide)) (fun _ => rfl)
      · intro b1
        rw [if_neg (show ¬ (bI true = 0) by decide)]
        cases bitB w (m % 10)
        · intro b2
          rw [if_pos (show bI false = 0 from rfl)]
          exact some_tf (fun p => absurd (b2.mpr ⟨⟨a6, a4⟩, p.2⟩) (by decide)) (fun _ => rfl)
        · intro b2
          rw [if_neg (show ¬ (bI true = 0) by decide)]
          exact some_tf (fun _ => rfl) (fun p => absurd ⟨b1.mp rfl, (b2.mp rfl).2⟩ p)
theorem low_link (hT : TW tn) (hR : TR ri tn) (hC : CW tn t) (hG : GB tn pt lf t bo) {x y : Nat} (hx : x < nX tn) (hy : y < nX tn) (l0 : LV tn t (2 * x)) (l1 : LV tn t (2 * y)) : f_X0_lowLink bo ri (nI x) (nI y) = some (nI (lk tn (min (sp tn t (2 * x)) (sp tn t (2 * y))))) := by
  have h7 := hT.x7
  have h14 := hT.s14
  obtain ⟨e0, a1, _⟩ := lv_sp l0 hC (by omega)
  obtain ⟨e1, b1, _⟩ := lv_sp l1 hC (by omega)
  unfold f_X0_lowLink f_X0_lowLink_L38
  rw [i2, i2, ckI (by omega) (by decide), nI_clamp (by omega), hG.1 _ (by omega), e0, lt1_e, ckI (by omega) (by decide), nI_clamp (by omega), hG.1 _ (by omega), e1, lt1_e]
  show (if nI (sp tn t (2 * y)) ≤ nI (sp tn t (2 * x)) then ck (nI (sp tn t (2 * y))) 16 (some (Ri_standingLink ri (Int32.toNatClampNeg (nI (sp tn t (2 * y)))))) else ck (nI (sp tn t (2 * x))) 16 (some (Ri_standingLink ri (Int32.toNatClampNeg (nI (sp tn t (2 * x))))))) = _
  by_cases c : sp tn t (2 * y) ≤ sp tn t (2 * x)
  · rw [if_pos (nI_le c (by omega)), ckI (by omega) (by decide), nI_clamp (by omega), hR.2.1 _ b1, Nat.min_eq_right c]
  · rw [if_neg (nI_ge (by omega) (by omega)), ckI (by omega) (by decide), nI_clamp (by omega), hR.2.1 _ a1, Nat.min_eq_left (by omega)]
theorem goerLink_e (hT : TW tn) (hR : TR ri tn) (hC : CW tn t) (hG : GB tn pt lf t bo) (hm : isMv (nX tn) m = true) (hc : CAN tn pt lf t m) (h1 : ¬ m < 100) : f_X0_goerLink bo ri (nI m) = some (nI (wl tn t m)) := by
  have hlt := isMv_lt hm
  have hv := hc.lv
  unfold MLV at hv
  rw [if_neg h1] at hv
  unfold f_X0_goerLink f_X0_goerLink_L18 f_X0_goerLink_L37 wl
  by_cases h2 : m < 1000
  · have q1 : ¬ (nI 1000 ≤ nI m) := nI_ge h2 (by omega)
    obtain ⟨a1, a2, a3⟩ := isMv_1 hm h1 h2
    rw [if_neg (show ¬ ((1000 : Int32) ≤ nI m) from q1), bd1_e (first_e hm), if_neg h1, if_pos h2, bd1_e (second_e hlt), if_pos h2, bd1_e (low_link hT hR hC hG (by omega) a3 hv.1.1 hv.2.1.1), if_neg (show ¬ ((1000 : Int32) ≤ nI m) from q1)]
  · have q1 : nI 1000 ≤ nI m := nI_le (by omega) (by omega)
    obtain ⟨_, a1, a2, a3, a4, a5, a6⟩ := isMv_2 hm h1 h2
    rw [if_pos (show (1000 : Int32) ≤ nI m from q1), bd1_e (second_e hlt), if_neg h2, bd1_e (third_e hlt), bd1_e (low_link hT hR hC hG a2 a3 hv.1.1 hv.2.1.1), if_pos (show (1000 : Int32) ≤ nI m from q1)]
end ALLOWS
