section TWIST
variable {tn : TnS} {pt : Option Nat} {t : Int64} {lf : Int32} {a : Nat}
theorem prB_same {u v a : Nat} : prB u v a a = (decide (u = a) && decide (v = a)) := by
  unfold prB
  cases decide (u = a) <;> cases decide (v = a) <;> rfl
theorem rtwist_e (hT : TW tn) (hD : DW tn pt t) {md0 : MdS} (hp : Md_parted md0 = ptv pt) (hn0 : Md_now md0 = t) (hl : Md_lifted md0 = lf) (ha : a < nR tn) : Ok (f_X13_twist_L23 FU (nI a) 0 0 md0 tn) (fun q => q.1 = sbs tn lf t a a (nX tn) ∧ ∃ md1, Lk md0 md1 ∧ q.2 = gd md1) := by
  have h7 := hT.x7
  have h8 := hT.r8
  have hL8 := hT.l8
  have key : ∀ rem n i md, i + rem = nX tn → rem < n → Lk md0 md → Ok (f_X13_twist_L23 n (nI a) (sbs tn lf t a a i) (nI i) md tn) (fun q => q.1 = sbs tn lf t a a (nX tn) ∧ ∃ md1, Lk md0 md1 ∧ q.2 = gd md1) := by
    intro rem
    induction rem with
    | zero =>
      intro n i md hi hn hk
      cases n with
      | zero => omega
      | succ n =>
        rw [f_X13_twist_L23, hT.X, if_pos (nI_le (by omega) (by omega)), good_e, bd2_e rfl, Ok_some]
        rw [show i = nX tn by omega]
        exact ⟨rfl, md, hk, rfl⟩
    | succ rem ih =>
      intro n i md hi hn hk
      cases n with
      | zero => omega
      | succ n =>
        have hi2 : i < nX tn := by omega
        obtain ⟨c1, c2, c3, c4, c5⟩ := hT.cr hi2
        have hro := hT.lrR c2
        have hru := hT.lrR c4
        rw [f_X13_twist_L23, hT.X, if_neg (nI_ge hi2 (by omega))]
        unfold f_X13_twist_L92
        simp only [ckI (show i < 7 by omega) (show 7 < 2 ^ 31 by decide), nI_clamp (show i < 2 ^ 31 by omega), c1, c3, ckI (show ov tn i < 8 by omega) (show 8 < 2 ^ 31 by decide), ckI (show un tn i < 8 by omega) (show 8 < 2 ^ 31 by decide), nI_clamp (show ov tn i < 2 ^ 31 by omega), nI_clamp (show un tn i < 2 ^ 31 by omega), hT.elr c2, hT.elr c4, lt1_e, nI_1]
        have es : sbt tn lf t a a i = if (spt tn t (2 * i)).isSome && (decide (lr tn (ov tn i) = a) && decide (lr tn (un tn i) = a)) then sgnk tn lf i else 0 := by
          unfold sbt
          rw [prB_same]
        have skip : sbt tn lf t a a i = 0 → Ok (f_X13_twist_L23 n (nI a) (sbs tn lf t a a i) (nI (i + 1)) md tn) (fun q => q.1 = sbs tn lf t a a (nX tn) ∧ ∃ md1, Lk md0 md1 ∧ q.2 = gd md1) := by
          intro e
          have hI := ih n (i + 1) md (by omega) (by omega) hk
          rw [sbs, e, Int32.add_zero] at hI
          exact hI
        have q : ∀ {u v : Nat}, u < nR tn → v < nR tn → (nI u = nI v ↔ u = v) := fun h1 h2 => ⟨fun e => nI_inj e (by omega) (by omega), fun e => by rw [e]⟩
        by_cases d1 : lr tn (ov tn i) = a
        · rw [if_pos ((q hro ha).mpr d1)]
          by_cases d2 : lr tn (un tn i) = a
          · rw [if_pos ((q hru ha).mpr d2), Ok_bd2]
            refine (risLeft_e hT hD (hk.parted.trans hp) (hk.now.trans hn0) hi2).mono (fun r hr => ?_)
            have hI := ih n (i + 1) r.2 (by omega) (by omega) (hk.trans hr.2.1)
            rw [decide_eq_true d1, decide_eq_true d2, Bool.and_true, Bool.and_true] at es
            rw [sbs, es] at hI
            rw [hr.1]
            revert hI
            cases (spt tn t (2 * i)).isSome
            · intro hI
              rw [if_pos (show bI false = 0 from rfl)]
              rw [if_neg (show ¬ (false = true) by decide), Int32.add_zero] at hI
              exact hI
            · intro hI
              rw [if_neg (show ¬ (bI true = 0) by decide), bd1_e (signNow_e hT hi2), (hk.trans hr.2.1).lifted, hl]
              exact hI
          · rw [if_neg (fun e => d2 ((q hru ha).mp e))]
            exact skip (by rw [es, decide_eq_false d2, Bool.and_false, Bool.and_false]; rfl)
        · rw [if_neg (fun e => d1 ((q hro ha).mp e))]
          exact skip (by rw [es, decide_eq_false d1, Bool.false_and, Bool.and_false]; rfl)
  exact key (nX tn) FU 0 md0 (by omega) (by rw [FU_e]; omega) (Lk.refl md0)
end TWIST
