/-! who holds whom -/
def hxv (to : ToS) (l : Nat) : Nat := cl (To_handAt to (2 * l))
def hyv (to : ToS) (l : Nat) : Nat := cl (To_handAt to (2 * l + 1))
def hlv (to : ToS) (h : Nat) : Nat := cl (To_linkIn to h)
def mtv (to : ToS) (h : Nat) : Nat := if hxv to (hlv to h) = h then hyv to (hlv to h) else hxv to (hlv to h)
/-- every hand holds one of somebody else's -/
def HF (to : ToS) (P : Nat) : Prop :=
  (∀ l, l < P → (To_handAt to (2 * l) = nI (hxv to l) ∧ To_handAt to (2 * l + 1) = nI (hyv to l)) ∧ hxv to l < 2 * P ∧ hyv to l < 2 * P ∧ hxv to l / 2 ≠ hyv to l / 2 ∧ hlv to (hxv to l) = l ∧ hlv to (hyv to l) = l) ∧
  (∀ h, h < 2 * P → To_linkIn to h = nI (hlv to h) ∧ hlv to h < P ∧ (h = hxv to (hlv to h) ∨ h = hyv to (hlv to h)))
section HANDS
variable {to : ToS} {rd : TnS} {P X : Nat} {ri : RiS}
theorem TB.hf (hT : TB to rd P P X) : HF to P := by
  obtain ⟨⟨hP8, _, hX7⟩, n1, n2, n3, n4, n5, n6, n7⟩ := hT.1
  obtain ⟨l1, l2, l3, l4, l5⟩ := hT.2.2.2.2.1
  have hall := hT.hands.2.mp rfl
  refine ⟨fun l hl => ?_, fun h hh => ?_⟩
  · obtain ⟨x, y, ⟨g1, g2, g3⟩, ⟨g4, g5⟩, _, g6, g7⟩ := l1 l hl
    have e1 : hxv to l = x := by unfold hxv; rw [g4, cl_I (by omega)]
    have e2 : hyv to l = y := by unfold hyv; rw [g5, cl_I (by omega)]
    have e3 : hlv to x = l := by unfold hlv; rw [g6, cl_I (by omega)]
    have e4 : hlv to y = l := by unfold hlv; rw [g7, cl_I (by omega)]
    rw [e1, e2]
    exact ⟨⟨g4, g5⟩, g1, g2, g3, e3, e4⟩
  · rcases l2 h (by omega) with g | ⟨l, hl, g1, g2⟩
    · exact absurd g (hall h hh)
    · have e3 : hlv to h = l := by unfold hlv; rw [g1, cl_I (by omega)]
      rw [e3]
      refine ⟨g1, hl, ?_⟩
      unfold hxv hyv
      rcases g2 with g2 | g2
      · exact Or.inl (by rw [g2, cl_I (by omega)])
      · exact Or.inr (by rw [g2, cl_I (by omega)])
theorem HF.mt (h : HF to P) {a : Nat} (ha : a < 2 * P) : mtv to a < 2 * P ∧ mtv to (mtv to a) = a ∧ mtv to a / 2 ≠ a / 2 ∧ hlv to (mtv to a) = hlv to a := by
  obtain ⟨e1, e2, e3⟩ := h.2 a ha
  obtain ⟨_, f1, f2, f3, f4, f5⟩ := h.1 _ e2
  have key : (a = hxv to (hlv to a) ∧ mtv to a = hyv to (hlv to a)) ∨ (a = hyv to (hlv to a) ∧ mtv to a = hxv to (hlv to a)) := by
    unfold mtv
    rcases e3 with e | e
    · exact Or.inl ⟨e, by rw [if_pos e.symm]⟩
    · refine Or.inr ⟨e, ?_⟩
      rw [if_neg]
      intro e'
      exact f3 (by rw [← e, e'])
  rcases key with ⟨k1, k2⟩ | ⟨k1, k2⟩
  · rw [k2]
    refine ⟨f2, ?_, ?_, f5⟩
    · unfold mtv
      rw [f5, if_neg (fun e => f3 (by rw [e])), ← k1]
    · intro e; exact f3 (by rw [e, ← k1])
  · rw [k2]
    refine ⟨f1, ?_, ?_, f4⟩
    · unfold mtv
      rw [f4, if_pos rfl, ← k1]
    · intro e; exact f3 (by rw [e, ← k1])
/-- what traceHands has done to a link -/
def HD (to : ToS) (ri : RiS) (l : Nat) : Prop :=
  Ri_partner ri (hxv to l) = nI (hyv to l) ∧ Ri_partner ri (hyv to l) = nI (hxv to l) ∧
  ∃ g, g < 8 ∧ Ri_linkGoer ri l = nI g ∧ g = (if (To_talls to (min (hxv to l / 2) (hyv to l / 2))) ≤ (To_talls to (max (hxv to l / 2) (hyv to l / 2))) then min (hxv to l / 2) (hyv to l / 2) else max (hxv to l / 2) (hyv to l / 2)) ∧
    Ri_linkFits ri l = if Ri_tall ri < To_talls to g then 0 else 1
/-- what traceHands leaves -/
def HK0' (ri ri' : RiS) : Prop :=
  (Ri_people ri' = Ri_people ri ∧ Ri_links ri' = Ri_links ri ∧ Ri_crossings ri' = Ri_crossings ri ∧ Ri_standings ri' = Ri_standings ri ∧ Ri_count ri' = Ri_count ri ∧ Ri_tall ri' = Ri_tall ri ∧ Ri_once ri' = Ri_once ri ∧ Ri_key ri' = Ri_key ri) ∧
  (Ri_linkIn ri' = Ri_linkIn ri ∧ Ri_linkRing ri' = Ri_linkRing ri)
theorem HK0'.trans {a b c : RiS} (h : HK0' a b) (k : HK0' b c) : HK0' a c := by
  obtain ⟨⟨h1, h2, h3, h4, h5, h6, h7, h8⟩, h9, h10⟩ := h
  obtain ⟨⟨k1, k2, k3, k4, k5, k6, k7, k8⟩, k9, k10⟩ := k
  exact ⟨⟨k1.trans h1, k2.trans h2, k3.trans h3, k4.trans h4, k5.trans h5, k6.trans h6, k7.trans h7, k8.trans h8⟩, k9.trans h9, k10.trans h10⟩
theorem hands_1 (hF : HF to P) (hP : P ≤ 8) {l : Nat} (hl : l < P) : Ok (f_X6_traceHands ri to (nI l)) (fun ri' => HK0' ri ri' ∧ HD to ri' l ∧ ∀ k, k < l → HD to ri k → HD to ri' k) := by
  obtain ⟨⟨e1, e2⟩, f1, f2, f3, f4, f5⟩ := hF.1 l hl
  have hne : hxv to l ≠ hyv to l := fun e => f3 (by rw [e])
  unfold f_X6_traceHands
  rw [i2, nI_1, ckI (show 2 * l < 16 by omega) (by decide), nI_clamp (by omega), lt1_e, ckI (show 2 * l + 1 < 16 by omega) (by decide), nI_clamp (show 2 * l + 1 < 2 ^ 31 by omega), lt1_e, e1, e2, ckI (show hxv to l < 16 by omega) (by decide), lt1_e, ckI (show hyv to l < 16 by omega) (by decide), lt1_e, li_2, nI_div (by omega) (by omega), nI_div (by omega) (by omega), nI_clamp (show hxv to l < 2 ^ 31 by omega), nI_clamp (show hyv to l < 2 ^ 31 by omega)]
  have emin : (if nI (hyv to l / 2) < nI (hxv to l / 2) then nI (hyv to l / 2) else nI (hxv to l / 2)) = nI (min (hxv to l / 2) (hyv to l / 2)) := by
    by_cases c : hyv to l / 2 < hxv to l / 2
    · rw [if_pos (nI_lt c (by omega)), Nat.min_eq_right (by omega)]
    · rw [if_neg (nI_nlt (by omega) (by omega)), Nat.min_eq_left (by omega)]
  have emax : (if nI (hxv to l / 2) < nI (hyv to l / 2) then nI (hyv to l / 2) else nI (hxv to l / 2)) = nI (max (hxv to l / 2) (hyv to l / 2)) := by
    by_cases c : hxv to l / 2 < hyv to l / 2
    · rw [if_pos (nI_lt c (by omega)), Nat.max_eq_right (by omega)]
    · rw [if_neg (nI_nlt (by omega) (by omega)), Nat.max_eq_left (by omega)]
  have hmin : min (hxv to l / 2) (hyv to l / 2) < 8 := by omega
  have hmax : max (hxv to l / 2) (hyv to l / 2) < 8 := by omega
  rw [emin, emax, lt1_e, lt1_e, ckI hmax (by decide), ckI hmin (by decide), nI_clamp (show min (hxv to l / 2) (hyv to l / 2) < 2 ^ 31 by omega), nI_clamp (show max (hxv to l / 2) (hyv to l / 2) < 2 ^ 31 by omega)]
  have key : ∀ g, g < 8 → g = (if (To_talls to (min (hxv to l / 2) (hyv to l / 2))) ≤ (To_talls to (max (hxv to l / 2) (hyv to l / 2))) then min (hxv to l / 2) (hyv to l / 2) else max (hxv to l / 2) (hyv to l / 2)) →
      Ok (f_X6_traceHands_L90 (nI l) (nI l) (nI g) (Ri_partner' (Ri_partner' ri (upd (Ri_partner ri) (hxv to l) (nI (hyv to l)))) (upd (Ri_partner (Ri_partner' ri (upd (Ri_partner ri) (hxv to l) (nI (hyv to l))))) (hyv to l) (nI (hxv to l)))) to) (fun ri' => HK0' ri ri' ∧ HD to ri' l ∧ ∀ k, k < l → HD to ri k → HD to ri' k) := by
    intro g hg8 hg
    unfold f_X6_traceHands_L90 f_X6_traceHands_L119
    simp only [ckI (show l < 8 by omega) (show 8 < 2 ^ 31 by decide), nI_clamp (show l < 2 ^ 31 by omega), lt1_e, GR_linkGoer, GR_partner, upd_at, ckI hg8 (show 8 < 2 ^ 31 by decide), nI_clamp (show g < 2 ^ 31 by omega)]
    have fin : ∀ (c : Prop) [Decidable c] (t : Int32), t = (if Ri_tall ri < To_talls to g then 0 else 1) → vp_nar .boolean t = t → HK0' ri (Ri_linkFits' (Ri_linkGoer' (Ri_partner' (Ri_partner' ri (upd (Ri_partner ri) (hxv to l) (nI (hyv to l)))) (upd (upd (Ri_partner ri) (hxv to l) (nI (hyv to l))) (hyv to l) (nI (hxv to l)))) (upd (Ri_linkGoer ri) l (nI g))) (upd (Ri_linkFits ri) l (vp_nar .boolean t))) ∧ HD to (Ri_linkFits' (Ri_linkGoer' (Ri_partner' (Ri_partner' ri (upd (Ri_partner ri) (hxv to l) (nI (hyv to l)))) (upd (upd (Ri_partner ri) (hxv to l) (nI (hyv to l))) (hyv to l) (nI (hxv to l)))) (upd (Ri_linkGoer ri) l (nI g))) (upd (Ri_linkFits ri) l (vp_nar .boolean t))) l ∧ ∀ k, k < l → HD to ri k → HD to (Ri_linkFits' (Ri_linkGoer' (Ri_partner' (Ri_partner' ri (upd (Ri_partner ri) (hxv to l) (nI (hyv to l)))) (upd (upd (Ri_partner ri) (hxv to l) (nI (hyv to l))) (hyv to l) (nI (hxv to l)))) (upd (Ri_linkGoer ri) l (nI g))) (upd (Ri_linkFits ri) l (vp_nar .boolean t))) k := by
      intro c _ t ht hn
      rw [hn]
      refine ⟨?_, ?_, fun k hk hd => ?_⟩
      · unfold HK0'
        simp only [GR_linkFits, GR_linkGoer, GR_partner, and_self]
      · unfold HD
        simp only [GR_linkFits, GR_linkGoer, GR_partner, upd_at]
        refine ⟨by rw [upd_ne hne, upd_at], trivial, g, hg8, rfl, hg, ht⟩
      · obtain ⟨_, k1, k2, k3, k4, k5⟩ := hF.1 k (by omega)
        have d1 : hxv to k ≠ hxv to l := fun e => by rw [e, f4] at k4; omega
        have d2 : hxv to k ≠ hyv to l := fun e => by rw [e, f5] at k4; omega
        have d3 : hyv to k ≠ hxv to l := fun e => by rw [e, f4] at k5; omega
        have d4 : hyv to k ≠ hyv to l := fun e => by rw [e, f5] at k5; omega
        unfold HD at hd ⊢
        simp only [GR_linkFits, GR_linkGoer, GR_partner]
        rw [upd_ne d2, upd_ne d1, upd_ne d4, upd_ne d3, upd_ne (by omega), upd_ne (by omega)]
        exact hd
    by_cases ct : Ri_tall ri < To_talls to g
    · rw [if_pos ct, Ok_some]
      exact fin True 0 (by rw [if_pos ct]) rfl
    · rw [if_neg ct, Ok_some]
      exact fin True 1 (by rw [if_neg ct]) rfl
  by_cases c : To_talls to (min (hxv to l / 2) (hyv to l / 2)) ≤ To_talls to (max (hxv to l / 2) (hyv to l / 2))
  · rw [if_pos c]
    exact key _ hmin (by rw [if_pos c])
  · rw [if_neg c]
    exact key _ hmax (by rw [if_neg c])
end HANDS
