theorem nI_xor16 : ∀ a, a < 16 → ∀ b, b < 16 → nI a ^^^ nI b = nI (a ^^^ b) ∧ a ^^^ b < 16 := by decide +kernel
section AFTER
variable {ri : RiS} {tn : TnS} {pt : Option Nat} {t kc : Int64} {lf plus : Int32} {bo : BoS}
theorem first_e {X m : Nat} (hm : isMv X m = true) : f_X0_firstOf (nI m) = some (nI (if m < 100 then m else if m < 1000 then m / 10 % 10 else m / 100 % 10)) := by
  have hlt := isMv_lt hm
  unfold f_X0_firstOf
  rw [x100 (by omega)]
  by_cases h1 : m < 100
  · rw [li_100, if_neg (nI_ge h1 (by omega)), if_pos h1]
  · rw [if_neg h1]
    by_cases h2 : m < 1000
    · have h3 := isMv_1 hm h1 h2
      rw [li_100, if_pos (nI_le (by omega) (by omega)), li_1000, if_neg (nI_ge h2 (by omega)), nI_sub (by omega), d10 (by omega), if_pos h2, show (m - 100) / 10 = m / 10 % 10 by omega]
    · rw [li_100, if_pos (nI_le (by omega) (by omega)), li_1000, if_pos (nI_le (by omega) (by omega)), if_neg h2]
theorem second_e {m : Nat} (hm : m < 2000) : f_X0_secondOf (nI m) = some (nI (if m < 1000 then m % 10 else m / 10 % 10)) := by
  unfold f_X0_secondOf
  rw [x10 (by omega), r10 (by omega)]
  by_cases h2 : m < 1000
  · rw [li_1000, if_neg (nI_ge h2 (by omega)), if_pos h2]
  · rw [li_1000, if_pos (nI_le (by omega) (by omega)), if_neg h2]
theorem third_e {m : Nat} (hm : m < 2000) : f_X0_thirdOf (nI m) = some (nI (m % 10)) := by
  unfold f_X0_thirdOf
  rw [r10 (by omega)]
theorem places_e (hT : TW tn) (hC : CW tn t) (hG : GB tn pt lf t bo) {x : Nat} (hx : x < nX tn) (l0 : LV tn t (2 * x)) (l1 : LV tn t (2 * x + 1)) : ∃ w, f_X0_placesOf bo (nI x) = some w ∧ ∀ s, s < 16 → nib w s = if s = sp tn t (2 * x) ∨ s = sp tn t (2 * x + 1) then 15 else 0 := by
  have h7 := hT.x7
  have h14 := hT.s14
  obtain ⟨s1, b1, _⟩ := lv_sp l0 hC (by omega)
  obtain ⟨s2, b2, _⟩ := lv_sp l1 hC (by omega)
  unfold f_X0_placesOf
  rw [i21, i2, ckI (by omega) (by omega), ckI (by omega) (by omega), nI_clamp (by omega), nI_clamp (by omega), hG.1 _ (by omega), hG.1 _ (by omega), s1, s2]
  refine ⟨_, rfl, fun s hs => ?_⟩
  show nib (((15 : Int64) <<< (Int32.toInt64 ((4 : Int32) * nI (sp tn t (2 * x))) &&& 63)) ||| ((15 : Int64) <<< (Int32.toInt64 ((4 : Int32) * nI (sp tn t (2 * x + 1))) &&& 63))) s = _
  rw [nib_or, nib_15 _ _ (by omega) hs, nib_15 _ _ (by omega) hs]
  by_cases e1 : s = sp tn t (2 * x)
  · rw [if_pos e1, if_pos (Or.inl e1)]
    split <;> rfl
  · rw [if_neg e1]
    by_cases e2 : s = sp tn t (2 * x + 1)
    · rw [if_pos e2, if_pos (Or.inr e2)]; rfl
    · rw [if_neg e2, if_neg (fun h => h.elim e1 e2)]; rfl
theorem exch_e (hT : TW tn) (hC : CW tn t) (hG : GB tn pt lf t bo) {p q : Nat} (hp : p < 2 * nX tn) (hq : q < 2 * nX tn) (l0 : LV tn t p) (l1 : LV tn t q) : ∃ w, f_X0_exchange bo (nI p) (nI q) = some w ∧ ∀ s, s < 16 → nib w s = if s = sp tn t p ∨ s = sp tn t q then (p + 1) ^^^ (q + 1) else 0 := by
  have h7 := hT.x7
  have h14 := hT.s14
  obtain ⟨s1, b1, _⟩ := lv_sp l0 hC (by omega)
  obtain ⟨s2, b2, _⟩ := lv_sp l1 hC (by omega)
  have hx := nI_xor16 (p + 1) (by omega) (q + 1) (by omega)
  unfold f_X0_exchange
  rw [lt1_e, nI_1, nI_1, hx.1, ckI (by omega) (by omega), ckI (by omega) (by omega), nI_clamp (by omega), nI_clamp (by omega), hG.1 _ (by omega), hG.1 _ (by omega), s1, s2]
  refine ⟨_, rfl, fun s hs => ?_⟩
  show nib (((Int32.toInt64 (nI ((p + 1) ^^^ (q + 1)))) <<< (Int32.toInt64 ((4 : Int32) * nI (sp tn t p)) &&& 63)) ||| ((Int32.toInt64 (nI ((p + 1) ^^^ (q + 1)))) <<< (Int32.toInt64 ((4 : Int32) * nI (sp tn t q)) &&& 63))) s = _
  rw [nib_or, nib_shl _ _ _ hx.2 (by omega) hs, nib_shl _ _ _ hx.2 (by omega) hs]
  by_cases e1 : s = sp tn t p
  · rw [if_pos e1, if_pos (Or.inl e1)]
    split
    · rw [Nat.or_self]
    · rw [Nat.or_zero]
  · rw [if_neg e1]
    by_cases e2 : s = sp tn t q
    · rw [if_pos e2, if_pos (Or.inr e2), Nat.zero_or]
    · rw [if_neg e2, if_neg (fun h => h.elim e1 e2)]; rfl
theorem clr_nib {k w : Int64} {s : Nat} (hs : s < 16) (c : Prop) [Decidable c] (hw : nib w s = if c then 15 else 0) : nib (k &&& (w ^^^ (-1 : Int64))) s = if c then 0 else nib k s := by
  rw [nib_and, nib_xor, nib_neg1 s hs, hw]
  have := n16_clr (nib k s) (nib_lt k s)
  by_cases h : c
  · rw [if_pos h, if_pos h]; exact this.1
  · rw [if_neg h, if_neg h]; exact this.2
theorem after_e (hT : TW tn) (hC : CW tn t) (hG : GB tn pt lf t bo) (hk : Bo_key bo = kc) (hK : KR tn kc t) {m : Nat} (hm : isMv (nX tn) m = true) (hv : MLV tn t m) : Ok (f_X0_after bo (nI m)) (fun k' => KR tn k' (bh tn t m)) := by
  have h7 := hT.x7
  have h14 := hT.s14
  have hlt := isMv_lt hm
  have hv0 := hv
  unfold f_X0_after
  rw [bd1_e (first_e hm), bd1_e (second_e hlt), hk]
  unfold MLV at hv
  by_cases h1 : m < 100
  · have h3 := isMv_0 hm h1
    rw [if_pos h1] at hv
    obtain ⟨w, e, hw⟩ := places_e hT hC hG h3 hv.1 hv.2
    rw [li_100, if_neg (nI_ge h1 (by omega)), if_pos h1, bd1_e e, Ok_some]
    intro s hs
    rw [clr_nib hs _ (hw s hs), hK s hs, nib_bh hT hC hm hv0 hs]
    have b1 := (lv_sp hv.1 hC (by omega)).2.1
    have b2 := (lv_sp hv.2 hC (by omega)).2.1
    by_cases hS : s < nS tn
    · rw [if_pos hS, if_pos hS, if_pos hS]
      have i1 := sp_iff hv.1 hC (by omega) hS
      have i2 := sp_iff hv.2 hC (by omega) hS
      unfold mvf
      rw [if_pos h1]
      simp only [i1, i2]
      have := CW.v hT hC hS
      repeat' split
      all_goals omega
    · rw [if_neg hS, if_neg hS, if_neg (by omega)]
  · rw [if_neg h1] at hv
    obtain ⟨⟨v1, v2⟩, ⟨v3, v4⟩, v5⟩ := hv
    rw [li_100, if_pos (nI_le (by omega) (by omega)), if_neg h1]
    by_cases h2 : m < 1000
    · obtain ⟨q1, q2, q3⟩ := isMv_1 hm h1 h2
      obtain ⟨w, e, hw⟩ := places_e hT hC hG (by omega) v1 v2
      obtain ⟨u, e', hu⟩ := places_e hT hC hG q3 v3 v4
      rw [li_1000, if_neg (nI_ge h2 (by omega)), if_pos h2, if_pos h2, bd1_e e, bd1_e e', Ok_some]
      intro s hs
      rw [clr_nib hs _ (hu s hs), clr_nib hs _ (hw s hs), hK s hs, nib_bh hT hC hm hv0 hs]
      have b1 := (lv_sp v1 hC (by omega)).2.1
      have b2 := (lv_sp v2 hC (by omega)).2.1
      have b3 := (lv_sp v3 hC (by omega)).2.1
      have b4 := (lv_sp v4 hC (by omega)).2.1
      by_cases hS : s < nS tn
      · rw [if_pos hS, if_pos hS, if_pos hS]
        have i1 := sp_iff v1 hC (by omega) hS
        have i2 := sp_iff v2 hC (by omega) hS
        have i3 := sp_iff v3 hC (by omega) hS
        have i4 := sp_iff v4 hC (by omega) hS
        unfold mvf
        rw [if_neg h1, if_pos h2]
        simp only [i1, i2, i3, i4]
        have := CW.v hT hC hS
        repeat' split
        all_goals omega
      · rw [if_neg hS, if_neg hS, if_neg (by omega), if_neg (by omega)]
    · obtain ⟨_, q1, q2, q3, q4, q5, q6⟩ := isMv_2 hm h1 h2
      obtain ⟨v5, v6⟩ := v5 h2
      obtain ⟨w1, e1, hw1⟩ := exch_e hT hC hG (p := 2 * (m / 100 % 10) + 1) (q := 2 * (m / 10 % 10) + 1) (by omega) (by omega) v6 v2
      obtain ⟨w2, e2, hw2⟩ := exch_e hT hC hG (p := 2 * (m / 100 % 10)) (q := 2 * (m % 10) + 1) (by omega) (by omega) v5 v4
      obtain ⟨w3, e3, hw3⟩ := exch_e hT hC hG (p := 2 * (m / 10 % 10)) (q := 2 * (m % 10)) (by omega) (by omega) v1 v3
      rw [li_1000, if_pos (nI_le (by omega) (by omega)), if_neg h2, if_neg h2, bd1_e (third_e hlt), i21, i21, i21, i2, i2, i2, bd1_e e1, bd1_e e2, bd1_e e3, Ok_some]
      intro s hs
      rw [nib_xor, nib_xor, nib_xor, hw1 s hs, hw2 s hs, hw3 s hs, hK s hs, nib_bh hT hC hm hv0 hs]
      have b1 := (lv_sp v1 hC (by omega)).2.1
      have b2 := (lv_sp v2 hC (by omega)).2.1
      have b3 := (lv_sp v3 hC (by omega)).2.1
      have b4 := (lv_sp v4 hC (by omega)).2.1
      have b5 := (lv_sp v5 hC (by omega)).2.1
      have b6 := (lv_sp v6 hC (by omega)).2.1
      by_cases hS : s < nS tn
      · rw [if_pos hS, if_pos hS, if_pos hS]
        have i1 := sp_iff v1 hC (by omega) hS
        have i2 := sp_iff v2 hC (by omega) hS
        have i3 := sp_iff v3 hC (by omega) hS
        have i4 := sp_iff v4 hC (by omega) hS
        have i5 := sp_iff v5 hC (by omega) hS
        have i6 := sp_iff v6 hC (by omega) hS
        unfold mvf
        rw [if_neg h1, if_neg h2]
        simp only [i1, i2, i3, i4, i5, i6]
        have hvs := CW.v hT hC hS
        have xc : ∀ p q, p < 14 → q < 14 → (p + 1) % 16 ^^^ ((p + 1) ^^^ (q + 1)) = (q + 1) % 16 := by
          intro p q hp hq
          rw [Nat.mod_eq_of_lt (by omega), Nat.mod_eq_of_lt (by omega), ← Nat.xor_assoc, Nat.xor_self, Nat.zero_xor]
        generalize nib t s = v at *
        generalize m / 10 % 10 = x at *
        generalize m % 10 = y at *
        generalize m / 100 % 10 = z at *
        by_cases c1 : v = 2 * z + 1
        · rw [if_pos (Or.inl c1), if_neg (by omega), if_neg (by omega), if_pos c1, Nat.xor_zero, Nat.xor_zero, c1]
          exact xc _ _ (by omega) (by omega)
        · rw [if_neg c1]
          by_cases c2 : v = 2 * x + 1
          · rw [if_pos (Or.inr c2), if_neg (by omega), if_neg (by omega), if_pos c2, Nat.xor_zero, Nat.xor_zero, c2, Nat.xor_comm (2 * z + 1 + 1)]
            exact xc _ _ (by omega) (by omega)
          · rw [if_neg (fun h => h.elim c1 c2), if_neg c2, Nat.xor_zero]
            by_cases c3 : v = 2 * z
            · rw [if_pos (Or.inl c3), if_neg (by omega), if_pos c3, Nat.xor_zero, c3]
              exact xc _ _ (by omega) (by omega)
            · rw [if_neg c3]
              by_cases c4 : v = 2 * y + 1
              · rw [if_pos (Or.inr c4), if_neg (by omega), if_pos c4, Nat.xor_zero, c4, Nat.xor_comm (2 * z + 1)]
                exact xc _ _ (by omega) (by omega)
              · rw [if_neg (fun h => h.elim c3 c4), if_neg c4, Nat.xor_zero]
                by_cases c5 : v = 2 * x
                · rw [if_pos (Or.inl c5), if_pos c5, c5]
                  exact xc _ _ (by omega) (by omega)
                · rw [if_neg c5]
                  by_cases c6 : v = 2 * y
                  · rw [if_pos (Or.inr c6), if_pos c6, c6, Nat.xor_comm (2 * x + 1)]
                    exact xc _ _ (by omega) (by omega)
                  · rw [if_neg (fun h => h.elim c5 c6), if_neg c6, Nat.xor_zero]
      · rw [if_neg hS, if_neg hS, if_neg (by omega), if_neg (by omega), if_neg (by omega)]
        rfl
end AFTER
theorem KR.inj {tn : TnS} {k k' t t' : Int64} (h : KR tn k t) (h' : KR tn k' t') (hC : CW tn t) (hC' : CW tn t') : k = k' ↔ t = t' := by
  constructor
  · intro e
    refine i64_ext (fun s hs => ?_)
    have h1 := h s hs
    have h2 := h' s hs
    rw [e, h2] at h1
    have q1 := nib_lt t s
    have q2 := nib_lt t' s
    by_cases c : s < nS tn
    · rw [if_pos c, if_pos c] at h1; omega
    · rw [hC.2.2.1 s (by omega) hs, hC'.2.2.1 s (by omega) hs]
  · intro e
    refine i64_ext (fun s hs => ?_)
    rw [h s hs, h' s hs, e]
