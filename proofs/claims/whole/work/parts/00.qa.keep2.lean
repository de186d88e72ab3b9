section KEEP2
variable {md : MdS} {tn : TnS} {pt : Option Nat} {t u : Int64} {lf : Int32} {m : Nat}
theorem mvf_lo (h : m < 1000) (v : Nat) : mvf m v = v ∨ mvf m v = 15 := by
  unfold mvf
  by_cases h1 : m < 100
  · rw [if_pos h1]; split <;> omega
  · rw [if_neg h1, if_pos h]; split <;> omega
theorem mvf_hi (hm : isMv (nX tn) m = true) (h : ¬ m < 1000) (v : Nat) : mvf m (mvf m v) = v := by
  have := isMv_2 hm (by omega) h
  generalize hw : mvf m v = w
  unfold mvf at hw ⊢
  rw [if_neg (by omega), if_neg h] at hw ⊢
  generalize m / 10 % 10 = x at *
  generalize m % 10 = y at *
  generalize m / 100 % 10 = z at *
  repeat' split at hw
  all_goals subst hw
  all_goals repeat' split
  all_goals omega
theorem mvf_mate (hc : CAN tn pt lf t m) (h : ¬ m < 1000) {v : Nat} (hv : mvf m v ≠ v) : ∃ a b, a < nS tn ∧ b < nS tn ∧ nib t a = v ∧ nib t b = mvf m v ∧ rg tn a = rg tn b := by
  unfold CAN at hc
  rw [if_neg (by omega), if_neg h] at hc
  obtain ⟨b1, b2, b3⟩ := hc
  unfold mvf at hv ⊢
  rw [if_neg (by omega), if_neg h] at hv ⊢
  by_cases c1 : v = 2 * (m / 100 % 10) + 1
  · rw [if_pos c1, c1]; exact b1.ring
  · rw [if_neg c1] at hv ⊢
    by_cases c2 : v = 2 * (m / 10 % 10) + 1
    · rw [if_pos c2, c2]; exact b1.symm.ring
    · rw [if_neg c2] at hv ⊢
      by_cases c3 : v = 2 * (m / 100 % 10)
      · rw [if_pos c3, c3]; exact b2.ring
      · rw [if_neg c3] at hv ⊢
        by_cases c4 : v = 2 * (m % 10) + 1
        · rw [if_pos c4, c4]; exact b2.symm.ring
        · rw [if_neg c4] at hv ⊢
          by_cases c5 : v = 2 * (m / 10 % 10)
          · rw [if_pos c5, c5]; exact b3.ring
          · rw [if_neg c5] at hv ⊢
            by_cases c6 : v = 2 * (m % 10)
            · rw [if_pos c6, c6]; exact b3.symm.ring
            · rw [if_neg c6] at hv
              exact absurd rfl hv
theorem mvf_lt (hT : TW tn) (hm : isMv (nX tn) m = true) {v : Nat} (hv : v < 2 * nX tn) (h : mvf m v ≠ 15) : mvf m v < 2 * nX tn := by
  by_cases h1 : m < 1000
  · rcases mvf_lo h1 v with e | e
    · rw [e]; exact hv
    · exact absurd e h
  · have := isMv_2 hm (by omega) h1
    unfold mvf
    rw [if_neg (by omega), if_neg h1]
    generalize m / 10 % 10 = x at *
    generalize m % 10 = y at *
    generalize m / 100 % 10 = z at *
    repeat' split
    all_goals omega
theorem mvf_inj (hm : isMv (nX tn) m = true) {v w : Nat} (e : mvf m v = mvf m w) (h : mvf m v ≠ 15) : v = w := by
  by_cases h1 : m < 1000
  · rcases mvf_lo h1 v with e1 | e1
    · rcases mvf_lo h1 w with e2 | e2
      · rw [e1, e2] at e; exact e
      · rw [e2] at e; exact absurd e h
    · exact absurd e1 h
  · rw [← mvf_hi hm h1 v, e, mvf_hi hm h1 w]
/-- where a pass stands behind a move: in the same ring -/
theorem bh_from (hT : TW tn) (hC : CW tn t) (hm : isMv (nX tn) m = true) (hc : CAN tn pt lf t m) {s : Nat} (hs : s < nS tn) (h : nib (bh tn t m) s ≠ 15) : ∃ a, a < nS tn ∧ nib t a = nib (bh tn t m) s ∧ rg tn a = rg tn s ∧ mvf m (nib (bh tn t m) s) ≠ 15 := by
  have h14 := hT.s14
  have e := nib_bh hT hC hm hc.lv (show s < 16 by omega)
  rw [if_pos hs] at e
  rw [e] at h ⊢
  by_cases h1 : m < 1000
  · rcases mvf_lo h1 (nib t s) with e1 | e1
    · exact ⟨s, hs, e1.symm, rfl, by rw [e1]; exact h⟩
    · exact absurd e1 h
  · have hn : nib t s ≠ 15 := fun e1 => by
      rw [e1] at h
      exact h ((mvf_15 hT hm (Or.inl rfl)).mpr (Or.inl rfl))
    by_cases e1 : mvf m (nib t s) = nib t s
    · exact ⟨s, hs, e1.symm, rfl, by rw [mvf_hi hm h1]; exact hn⟩
    · obtain ⟨a, b, ha, hb, ea, eb, er⟩ := mvf_mate hc h1 e1
      have : a = s := hC.2.1 a s ha hs (by rw [ea]; exact hn) ea
      subst this
      exact ⟨b, hb, eb, er.symm, by rw [mvf_hi hm h1]; exact hn⟩
theorem bh_lv (hT : TW tn) (hC : CW tn t) (hm : isMv (nX tn) m = true) (hc : CAN tn pt lf t m) {p : Nat} (hp : p ≠ 15) : LV tn (bh tn t m) p ↔ LV tn t p ∧ mvf m p ≠ 15 := by
  have h14 := hT.s14
  constructor
  · rintro ⟨s, hs, e⟩
    obtain ⟨a, ha, ea, _, h⟩ := bh_from hT hC hm hc hs (by rw [e]; exact hp)
    rw [e] at ea h
    exact ⟨⟨a, ha, ea⟩, h⟩
  · rintro ⟨⟨s, hs, e⟩, h⟩
    have go : ∀ b, b < nS tn → mvf m (nib t b) = p → LV tn (bh tn t m) p := fun b hb eb => ⟨b, hb, by rw [nib_bh hT hC hm hc.lv (by omega), if_pos hb, eb]⟩
    by_cases h1 : m < 1000
    · rcases mvf_lo h1 p with e1 | e1
      · exact go s hs (by rw [e, e1])
      · exact absurd e1 h
    · by_cases e1 : mvf m p = p
      · exact go s hs (by rw [e, e1])
      · obtain ⟨a, b, ha, hb, ea, eb, er⟩ := mvf_mate hc h1 e1
        exact go b hb (by rw [eb, mvf_hi hm h1])
theorem mvf_pair (hT : TW tn) (hm : isMv (nX tn) m = true) {x : Nat} (hx : x < 7) : mvf m (2 * x) = 15 ↔ mvf m (2 * x + 1) = 15 := by
  rw [mvf_15 hT hm (Or.inr (by omega)), mvf_15 hT hm (Or.inr (by omega))]
  omega
theorem CW.bh (hT : TW tn) (hC : CW tn t) (hm : isMv (nX tn) m = true) (hc : CAN tn pt lf t m) : CW tn (bh tn t m) := by
  have h14 := hT.s14
  have h7 := hT.x7
  have e := fun s (hs : s < nS tn) => (nib_bh hT hC hm hc.lv (show s < 16 by omega)).trans (if_pos hs)
  refine ⟨fun s hs h => ?_, fun s k hs hk h h2 => ?_, fun s hs h => ?_, fun x hx => ?_⟩
  · obtain ⟨a, ha, ea, _⟩ := bh_from hT hC hm hc hs h
    rw [← ea] at h ⊢
    exact hC.1 a ha h
  · rw [e s hs] at h
    rw [e s hs, e k hk] at h2
    have h3 := mvf_inj hm h2 h
    refine hC.2.1 s k hs hk (fun h4 => ?_) h3
    rw [h4] at h
    exact h ((mvf_15 hT hm (Or.inl rfl)).mpr (Or.inl rfl))
  · rw [nib_bh hT hC hm hc.lv h, if_neg (by omega)]
  · have h1 := bh_lv hT hC hm hc (p := 2 * x) (by omega)
    have h2 := bh_lv hT hC hm hc (p := 2 * x + 1) (by omega)
    have h3 := hC.2.2.2 x hx
    have h4 := mvf_pair hT hm (show x < 7 by omega)
    unfold LV at h1 h2
    rw [h1, h2, h3]
    exact and_congr Iff.rfl (not_congr h4)
theorem DW.bh (hT : TW tn) (hD : DW tn pt t) (hm : isMv (nX tn) m = true) (hc : CAN tn pt lf t m) : DW tn pt (bh tn t m) := by
  have h14 := hT.s14
  have hC := hD.1
  refine ⟨hC.bh hT hm hc, ?_, fun l hl => ⟨(hD.2.2.1 l hl).1, fun s hs e => ?_⟩, fun x hx s k hs hk e1 e2 => ?_⟩
  · have h1 := cnt_bh hT hC hm hc.lv
    have h2 := hD.2.1
    repeat' split at h1
    all_goals omega
  · rw [nib_bh hT hC hm hc.lv (by omega), if_pos hs, (hD.2.2.1 l hl).2 s hs e]
    exact (mvf_15 hT hm (Or.inl rfl)).mpr (Or.inl rfl)
  · have h7 := hT.x7
    obtain ⟨a, ha, ea, ra, _⟩ := bh_from hT hC hm hc hs (by omega)
    obtain ⟨b, hb, eb, rb, _⟩ := bh_from hT hC hm hc hk (by omega)
    rw [← ra, ← rb]
    exact hD.2.2.2 x hx a b ha hb (by omega) (by omega)
theorem lft_bh (hT : TW tn) (hC : CW tn t) (hm : isMv (nX tn) m = true) (hv : MLV tn t m) : lft tn (bh tn t m) + (if m < 100 then 1 else if m < 1000 then 2 else 0) = lft tn t := by
  have h1 := cnt_bh hT hC hm hv
  unfold lft
  repeat' split at h1
  all_goals simp [*]
  all_goals omega
end KEEP2
