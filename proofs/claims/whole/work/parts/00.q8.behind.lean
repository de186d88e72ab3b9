def wo (tn : TnS) (t u : Int64) (x : Nat) : Int64 := wth (wth u (sp tn t (2 * x)) 15) (sp tn t (2 * x + 1)) 15
def chg (tn : TnS) (t u : Int64) (p q : Nat) : Int64 := wth (wth u (sp tn t p) q) (sp tn t q) p
def bh (tn : TnS) (t : Int64) (m : Nat) : Int64 :=
  if m < 100 then wo tn t t m else if m < 1000 then wo tn t (wo tn t t (m / 10 % 10)) (m % 10)
  else chg tn t (chg tn t (chg tn t t (2 * (m / 100 % 10) + 1) (2 * (m / 10 % 10) + 1)) (2 * (m / 100 % 10)) (2 * (m % 10) + 1)) (2 * (m / 10 % 10)) (2 * (m % 10))
/-- what becomes of a pass -/
def mvf (m v : Nat) : Nat :=
  if m < 100 then (if v / 2 = m then 15 else v) else if m < 1000 then (if v / 2 = m / 10 % 10 ∨ v / 2 = m % 10 then 15 else v)
  else if v = 2 * (m / 100 % 10) + 1 then 2 * (m / 10 % 10) + 1 else if v = 2 * (m / 10 % 10) + 1 then 2 * (m / 100 % 10) + 1
  else if v = 2 * (m / 100 % 10) then 2 * (m % 10) + 1 else if v = 2 * (m % 10) + 1 then 2 * (m / 100 % 10)
  else if v = 2 * (m / 10 % 10) then 2 * (m % 10) else if v = 2 * (m % 10) then 2 * (m / 10 % 10) else v
/-- a pass that stands -/
def LV (tn : TnS) (t : Int64) (p : Nat) : Prop := ∃ s, s < nS tn ∧ nib t s = p
section BEHIND
variable {md : MdS} {tn : TnS} {pt : Option Nat} {t u : Int64} {lf : Int32} {m : Nat}
theorem lv_sp {p : Nat} (h : LV tn t p) (hC : CW tn t) (hp : p ≠ 15) : spt tn t p = some (sp tn t p) ∧ sp tn t p < nS tn ∧ nib t (sp tn t p) = p := by
  obtain ⟨a, ha, ea⟩ := h
  have e := (spt_some hC hp).mpr ⟨ha, ea⟩
  have e2 : sp tn t p = a := by unfold sp; rw [e]; rfl
  rw [e2]
  exact ⟨e, ha, ea⟩
theorem sp_iff {p s : Nat} (h : LV tn t p) (hC : CW tn t) (hp : p ≠ 15) (hs : s < nS tn) : s = sp tn t p ↔ nib t s = p := by
  obtain ⟨_, h1, h2⟩ := lv_sp h hC hp
  constructor
  · intro e; rw [e]; exact h2
  · intro e; exact hC.2.1 s _ hs h1 (by rw [e]; exact hp) (by rw [e, h2])
theorem BES.lv {p q : Nat} (h : BES tn pt t p q) : LV tn t p ∧ LV tn t q := by
  obtain ⟨a, b, h1, h2, h3, h4, _⟩ := h
  exact ⟨⟨a, h1, h3⟩, ⟨b, h2, h4⟩⟩
theorem BES.ring {p q : Nat} (h : BES tn pt t p q) : ∃ a b, a < nS tn ∧ b < nS tn ∧ nib t a = p ∧ nib t b = q ∧ rg tn a = rg tn b := by
  obtain ⟨a, b, h1, h2, h3, h4, _, h5⟩ := h
  exact ⟨a, b, h1, h2, h3, h4, h5.elim (fun h => h.2.2.2.2.1) (fun h => h.2.2.2.2.1.symm)⟩
theorem without_e (hT : TW tn) (hL : Looked md tn pt t) (hC : CW tn t) {x : Nat} (hx : x < 7) (h0 : LV tn t (2 * x)) (h1 : LV tn t (2 * x + 1)) : f_X13_without md u (nI x) = some (wo tn t u x) := by
  unfold f_X13_without
  obtain ⟨e0, _⟩ := lv_sp h0 hC (by omega)
  obtain ⟨e1, _⟩ := lv_sp h1 hC (by omega)
  rw [i2, nI_1, ckI (by omega) (by omega), nI_clamp (by omega), hL.1 _ (by omega), e0]
  show bd1 (f_X13_with u (nI (sp tn t (2 * x))) (nI 15)) _ = _
  rw [bd1_e (with_e _ _ _), ckI (by omega) (by omega), nI_clamp (by omega), hL.1 _ (by omega), e1]
  show bd1 (f_X13_with _ (nI (sp tn t (2 * x + 1))) (nI 15)) _ = _
  rw [bd1_e (with_e _ _ _)]
  rfl
theorem changed_e (hT : TW tn) (hL : Looked md tn pt t) (hC : CW tn t) {p q : Nat} (hp : p < 14) (hq : q < 14) (h0 : LV tn t p) (h1 : LV tn t q) : f_X13_changed md u (nI p) (nI q) = some (chg tn t u p q) := by
  unfold f_X13_changed
  obtain ⟨e0, _⟩ := lv_sp h0 hC (by omega)
  obtain ⟨e1, _⟩ := lv_sp h1 hC (by omega)
  rw [ckI (by omega) (by omega), nI_clamp (by omega), hL.1 _ (by omega), e0]
  show bd1 (f_X13_with u (nI (sp tn t p)) (nI q)) _ = _
  rw [bd1_e (with_e _ _ _), ckI (by omega) (by omega), nI_clamp (by omega), hL.1 _ (by omega), e1]
  show bd1 (f_X13_with _ (nI (sp tn t q)) (nI p)) _ = _
  rw [bd1_e (with_e _ _ _)]
  rfl
/-- the passes that a move names stand -/
def MLV (tn : TnS) (t : Int64) (m : Nat) : Prop :=
  if m < 100 then LV tn t (2 * m) ∧ LV tn t (2 * m + 1) else
  (LV tn t (2 * (m / 10 % 10)) ∧ LV tn t (2 * (m / 10 % 10) + 1)) ∧ (LV tn t (2 * (m % 10)) ∧ LV tn t (2 * (m % 10) + 1)) ∧ (¬ m < 1000 → LV tn t (2 * (m / 100 % 10)) ∧ LV tn t (2 * (m / 100 % 10) + 1))
theorem CAN.lv (hc : CAN tn pt lf t m) : MLV tn t m := by
  unfold CAN at hc
  unfold MLV
  by_cases h1 : m < 100
  · rw [if_pos h1] at hc ⊢; exact hc.lv
  · rw [if_neg h1] at hc ⊢
    by_cases h2 : m < 1000
    · rw [if_pos h2] at hc
      exact ⟨⟨hc.2.1.lv.1, hc.1.lv.1⟩, ⟨hc.2.1.lv.2, hc.1.lv.2⟩, fun h => absurd h2 h⟩
    · rw [if_neg h2] at hc
      exact ⟨⟨hc.2.2.lv.1, hc.1.lv.2⟩, ⟨hc.2.2.lv.2, hc.2.1.lv.2⟩, fun _ => ⟨hc.2.1.lv.1, hc.1.lv.1⟩⟩
theorem behind_e (hT : TW tn) (hL : Looked md tn pt t) (hC : CW tn t) (hm : isMv (nX tn) m = true) (hv : MLV tn t m) : f_X13_behind md t (nI m) = some (bh tn t m) := by
  have h7 := hT.x7
  have hlt := isMv_lt hm
  unfold f_X13_behind
  rw [lt1_e, lt1_e, lt1_e, x10 (by omega), r10 (by omega), x100 (by omega), bd1_e (kind_e hlt)]
  unfold MLV at hv
  unfold bh
  by_cases h1 : m < 100
  · have h3 := isMv_0 hm h1
    rw [if_pos h1] at hv
    rw [if_pos h1, if_pos (by decide), if_pos h1, bd1_e (without_e hT hL hC (by omega) hv.1 hv.2)]
  · rw [if_neg h1] at hv
    rw [if_neg h1, if_neg h1]
    obtain ⟨⟨v1, v2⟩, ⟨v3, v4⟩, v5⟩ := hv
    by_cases h2 : m < 1000
    · obtain ⟨q1, q2, q3⟩ := isMv_1 hm h1 h2
      rw [if_pos h2, if_neg (by decide), if_pos (by decide), if_pos h2, bd1_e (without_e hT hL hC (by omega) v1 v2), bd1_e (without_e hT hL hC (by omega) v3 v4)]
    · obtain ⟨_, q1, q2, q3, _⟩ := isMv_2 hm h1 h2
      obtain ⟨v5, v6⟩ := v5 h2
      rw [if_neg h2, if_neg (by decide), if_neg (by decide), if_neg h2, i21, i21, i21, i2, i2, i2, bd1_e (changed_e hT hL hC (by omega) (by omega) v6 v2), bd1_e (changed_e hT hL hC (by omega) (by omega) v5 v4), bd1_e (changed_e hT hL hC (by omega) (by omega) v1 v3)]
theorem nib_bh (hT : TW tn) (hC : CW tn t) (hm : isMv (nX tn) m = true) (hv : MLV tn t m) {s : Nat} (hs : s < 16) : nib (bh tn t m) s = if s < nS tn then mvf m (nib t s) else 0 := by
  have h7 := hT.x7
  have h14 := hT.s14
  have hlt := isMv_lt hm
  have hn := nib_lt t s
  unfold MLV at hv
  unfold bh wo chg mvf
  by_cases h1 : m < 100
  · have h3 := isMv_0 hm h1
    rw [if_pos h1] at hv
    obtain ⟨v1, v2⟩ := hv
    have b1 := (lv_sp v1 hC (by omega)).2.1
    have b2 := (lv_sp v2 hC (by omega)).2.1
    rw [if_pos h1, if_pos h1, nib_wth _ _ _ _ (by omega) hs (by omega), nib_wth _ _ _ _ (by omega) hs (by omega)]
    by_cases hS : s < nS tn
    · rw [if_pos hS]
      simp only [sp_iff v1 hC (by omega) hS, sp_iff v2 hC (by omega) hS]
      repeat' split
      all_goals omega
    · rw [if_neg hS, if_neg (by omega), if_neg (by omega)]
      exact hC.2.2.1 s (by omega) hs
  · rw [if_neg h1] at hv
    rw [if_neg h1, if_neg h1]
    obtain ⟨⟨v1, v2⟩, ⟨v3, v4⟩, v5⟩ := hv
    by_cases h2 : m < 1000
    · obtain ⟨q1, q2, q3⟩ := isMv_1 hm h1 h2
      have b1 := (lv_sp v1 hC (by omega)).2.1
      have b2 := (lv_sp v2 hC (by omega)).2.1
      have b3 := (lv_sp v3 hC (by omega)).2.1
      have b4 := (lv_sp v4 hC (by omega)).2.1
      rw [if_pos h2, if_pos h2, nib_wth _ _ _ _ (by omega) hs (by omega), nib_wth _ _ _ _ (by omega) hs (by omega), nib_wth _ _ _ _ (by omega) hs (by omega), nib_wth _ _ _ _ (by omega) hs (by omega)]
      by_cases hS : s < nS tn
      · rw [if_pos hS]
        simp only [sp_iff v1 hC (by omega) hS, sp_iff v2 hC (by omega) hS, sp_iff v3 hC (by omega) hS, sp_iff v4 hC (by omega) hS]
        repeat' split
        all_goals omega
      · rw [if_neg hS, if_neg (by omega), if_neg (by omega), if_neg (by omega), if_neg (by omega)]
        exact hC.2.2.1 s (by omega) hs
    · obtain ⟨_, q1, q2, q3, q4, q5, q6⟩ := isMv_2 hm h1 h2
      obtain ⟨v5, v6⟩ := v5 h2
      have b1 := (lv_sp v1 hC (by omega)).2.1
      have b2 := (lv_sp v2 hC (by omega)).2.1
      have b3 := (lv_sp v3 hC (by omega)).2.1
      have b4 := (lv_sp v4 hC (by omega)).2.1
      have b5 := (lv_sp v5 hC (by omega)).2.1
      have b6 := (lv_sp v6 hC (by omega)).2.1
      rw [if_neg h2, if_neg h2, nib_wth _ _ _ _ (by omega) hs (by omega), nib_wth _ _ _ _ (by omega) hs (by omega), nib_wth _ _ _ _ (by omega) hs (by omega), nib_wth _ _ _ _ (by omega) hs (by omega), nib_wth _ _ _ _ (by omega) hs (by omega), nib_wth _ _ _ _ (by omega) hs (by omega)]
      by_cases hS : s < nS tn
      · rw [if_pos hS]
        simp only [sp_iff v1 hC (by omega) hS, sp_iff v2 hC (by omega) hS, sp_iff v3 hC (by omega) hS, sp_iff v4 hC (by omega) hS, sp_iff v5 hC (by omega) hS, sp_iff v6 hC (by omega) hS]
        generalize m / 10 % 10 = x at *
        generalize m % 10 = y at *
        generalize m / 100 % 10 = z at *
        repeat' split
        all_goals omega
      · rw [if_neg hS, if_neg (by omega), if_neg (by omega), if_neg (by omega), if_neg (by omega), if_neg (by omega), if_neg (by omega)]
        exact hC.2.2.1 s (by omega) hs
end BEHIND
