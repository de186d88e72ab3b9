section SIGNS2
variable {tn : TnS} {pt : Option Nat} {t : Int64} {lf : Int32} {a b : Nat}
theorem rhang_e (hT : TW tn) (hD : DW tn pt t) {md0 : MdS} (hp : Md_parted md0 = ptv pt) (hn0 : Md_now md0 = t) (hl : Md_lifted md0 = lf) (ha : a < nR tn) (hb : b < nR tn) : Ok (f_X13_hangNow md0 tn (nI a) (nI b)) (fun q => q.1 = sbs tn lf t a b (nX tn) ∧ Lk md0 q.2) := by
  have h7 := hT.x7
  have h8 := hT.r8
  have hL8 := hT.l8
  have key : ∀ rem n i md, i + rem = nX tn → rem < n → Lk md0 md → Ok (f_X13_hangNow_L5 n (nI a) (nI b) (sbs tn lf t a b i) (nI i) md tn) (fun q => q.1 = sbs tn lf t a b (nX tn) ∧ Lk md0 q.2) := by
    intro rem
    induction rem with
    | zero =>
      intro n i md hi hn hk
      cases n with
      | zero => omega
      | succ n =>
        rw [f_X13_hangNow_L5, hT.X, if_pos (nI_le (by omega) (by omega)), Ok_some]
        rw [show i = nX tn by omega]
        exact ⟨rfl, hk⟩
    | succ rem ih =>
      intro n i md hi hn hk
      cases n with
      | zero => omega
      | succ n =>
        have hi2 : i < nX tn := by omega
        obtain ⟨c1, c2, c3, c4, c5⟩ := hT.cr hi2
        have hro := hT.lrR c2
        have hru := hT.lrR c4
        rw [f_X13_hangNow_L5, hT.X, if_neg (nI_ge hi2 (by omega))]
        simp only [ckI (show i < 7 by omega) (show 7 < 2 ^ 31 by decide), nI_clamp (show i < 2 ^ 31 by omega), c1, c3, ckI (show ov tn i < 8 by omega) (show 8 < 2 ^ 31 by decide), ckI (show un tn i < 8 by omega) (show 8 < 2 ^ 31 by decide), nI_clamp (show ov tn i < 2 ^ 31 by omega), nI_clamp (show un tn i < 2 ^ 31 by omega), hT.elr c2, hT.elr c4, lt1_e]
        have skip : sbt tn lf t a b i = 0 → Ok (f_X13_hangNow_L103 (nI a) (nI b) (sbs tn lf t a b i) (nI i) md tn (fun y0 y1 y2 y3 y4 y5 => f_X13_hangNow_L5 n y0 y1 y2 y3 y4 y5)) (fun q => q.1 = sbs tn lf t a b (nX tn) ∧ Lk md0 q.2) := by
          intro e
          have hI := ih n (i + 1) md (by omega) (by omega) hk
          rw [sbs, e, Int32.add_zero] at hI
          unfold f_X13_hangNow_L103
          rw [lt1_e, nI_1]
          exact hI
        have add : prB (lr tn (ov tn i)) (lr tn (un tn i)) a b = true → Ok (f_X13_hangNow_L81 (nI a) (nI b) (sbs tn lf t a b i) (nI i) md tn (fun y0 y1 y2 y3 y4 y5 => f_X13_hangNow_L5 n y0 y1 y2 y3 y4 y5)) (fun q => q.1 = sbs tn lf t a b (nX tn) ∧ Lk md0 q.2) := by
          intro e
          unfold f_X13_hangNow_L81 f_X13_hangNow_L101 f_X13_hangNow_L103
          rw [Ok_bd2]
          refine (risLeft_e hT hD (hk.parted.trans hp) (hk.now.trans hn0) hi2).mono (fun q hq => ?_)
          have hI := ih n (i + 1) q.2 (by omega) (by omega) (hk.trans hq.2.1)
          rw [sbs] at hI
          have es : sbt tn lf t a b i = if (spt tn t (2 * i)).isSome then sgnk tn lf i else 0 := by
            unfold sbt
            rw [e, Bool.and_true]
          rw [es] at hI
          rw [hq.1]
          revert hI
          cases (spt tn t (2 * i)).isSome
          · intro hI
            rw [if_pos (show bI false = 0 from rfl), lt1_e, lt1_e, nI_1]
            exact hI
          · intro hI
            rw [if_neg (show ¬ (bI true = 0) by decide), bd1_e (signNow_e hT hi2), lt1_e, lt1_e, nI_1, (hk.trans hq.2.1).lifted, hl]
            exact hI
        have q : ∀ {u v : Nat}, u < nR tn → v < nR tn → (nI u = nI v ↔ u = v) := fun h1 h2 => ⟨fun e => nI_inj e (by omega) (by omega), fun e => by rw [e]⟩
        have zero : ¬ (prB (lr tn (ov tn i)) (lr tn (un tn i)) a b = true) → sbt tn lf t a b i = 0 := by
          intro e
          unfold sbt
          rw [Bool.not_eq_true] at e
          rw [e, Bool.and_false]
          rfl
        have l60 : ¬ (lr tn (ov tn i) = a ∧ lr tn (un tn i) = b) → Ok (f_X13_hangNow_L69 (nI a) (nI b) (sbs tn lf t a b i) (nI i) (nI (lr tn (ov tn i))) (nI (lr tn (un tn i))) md tn (fun y0 y1 y2 y3 y4 y5 => f_X13_hangNow_L5 n y0 y1 y2 y3 y4 y5)) (fun q => q.1 = sbs tn lf t a b (nX tn) ∧ Lk md0 q.2) := by
          intro hno
          unfold f_X13_hangNow_L69
          by_cases d1 : lr tn (ov tn i) = b
          · rw [if_pos ((q hro hb).mpr d1)]
            by_cases d2 : lr tn (un tn i) = a
            · rw [if_pos ((q hru ha).mpr d2)]
              exact add (by unfold prB; rw [decide_eq_true d1, decide_eq_true d2]; simp)
            · rw [if_neg (fun e => d2 ((q hru ha).mp e))]
              refine skip (zero (fun e => ?_))
              simp only [prB, Bool.or_eq_true, Bool.and_eq_true, decide_eq_true_eq] at e
              exact e.elim hno (fun e => d2 e.2)
          · rw [if_neg (fun e => d1 ((q hro hb).mp e))]
            refine skip (zero (fun e => ?_))
            simp only [prB, Bool.or_eq_true, Bool.and_eq_true, decide_eq_true_eq] at e
            exact e.elim hno (fun e => d1 e.1)
        by_cases d1 : lr tn (ov tn i) = a
        · rw [if_pos ((q hro ha).mpr d1)]
          by_cases d2 : lr tn (un tn i) = b
          · rw [if_pos ((q hru hb).mpr d2)]
            exact add (by unfold prB; rw [decide_eq_true d1, decide_eq_true d2]; simp)
          · rw [if_neg (fun e => d2 ((q hru hb).mp e))]
            exact l60 (fun e => d2 e.2)
        · rw [if_neg (fun e => d1 ((q hro ha).mp e))]
          exact l60 (fun e => d1 e.1)
  unfold f_X13_hangNow
  exact key (nX tn) FU 0 md0 (by omega) (by rw [FU_e]; omega) (Lk.refl md0)
end SIGNS2
