section SIGNS
variable {ri : RiS} {tn : TnS} {pt : Option Nat} {t kc : Int64} {lf plus : Int32} {bo : BoS} {a b : Nat}
def prB (u v a b : Nat) : Bool := (decide (u = a) && decide (v = b)) || (decide (u = b) && decide (v = a))
theorem prB_sym (u v a b : Nat) : prB u v a b = prB v u a b := by
  unfold prB
  cases decide (u = a) <;> cases decide (v = b) <;> cases decide (u = b) <;> cases decide (v = a) <;> rfl
def sbt (tn : TnS) (lf : Int32) (t : Int64) (a b x : Nat) : Int32 := if (spt tn t (2 * x)).isSome && prB (lr tn (ov tn x)) (lr tn (un tn x)) a b then sgnk tn lf x else 0
def sbs (tn : TnS) (lf : Int32) (t : Int64) (a b : Nat) : Nat → Int32
  | 0 => 0
  | n + 1 => sbs tn lf t a b n + sbt tn lf t a b n
theorem risLeft_e (hT : TW tn) (hD : DW tn pt t) {md : MdS} (hp : Md_parted md = ptv pt) (hn : Md_now md = t) {x : Nat} (hx : x < nX tn) : Ok (f_X13_isLeft md tn (nI x)) (fun q => q.1 = bI (spt tn t (2 * x)).isSome ∧ Lk md q.2 ∧ Looked q.2 tn pt t) := by
  have h7 := hT.x7
  have h14 := hT.s14
  unfold f_X13_isLeft
  rw [Ok_bd1, hn]
  refine (rLooks hT hD.1 hD.pt hp).mono (fun md1 h => ?_)
  rw [i2, ckI (by omega) (by decide), nI_clamp (by omega), h.2.1 _ (by omega)]
  cases e : spt tn t (2 * x) with
  | none =>
    rw [if_pos (show oI none = -1 from rfl), Ok_some]
    exact ⟨rfl, h.1, h.2⟩
  | some s =>
    have hs : s < nS tn := ((spt_some hD.1 (by omega)).mp e).1
    rw [if_neg (show ¬ (oI (some s) = -1) by show ¬ (nI s = -1); rw [nI_neg1 (by omega)]; exact id), Ok_some]
    exact ⟨rfl, h.1, h.2⟩
theorem csign_e (hT : TW tn) (hG : GB tn pt lf t bo) {x : Nat} (hx : x < nX tn) : f_X0_signOf bo (nI x) = some (if (spt tn t (2 * x)).isSome then sgnk tn lf x else 0) := by
  have h7 := hT.x7
  unfold f_X0_signOf
  rw [bd1_e (isLeft_e hT hG hx), has_e _ _ (by omega)]
  cases (spt tn t (2 * x)).isSome
  · rfl
  · rw [if_neg (show ¬ (bI true = 0) by decide), bd1_e rfl]
    have h1 := hG.2.2 x hx
    have h2 := (sgn_e (lf := lf) hT hx).2
    revert h1
    cases bitB (Bo_plus bo) x
    · intro h1
      rw [if_pos (show bI false = 0 from rfl)]
      rcases h2 with h2 | h2
      · exact absurd (h1.mpr h2) (by decide)
      · rw [h2]; rfl
    · intro h1
      rw [if_neg (show ¬ (bI true = 0) by decide), h1.mp rfl]
      rfl
theorem cring_e (hT : TW tn) (hR : TR ri tn) (hC : CW tn t) (hG : GB tn pt lf t bo) {p s : Nat} (hp : p < 2 * nX tn) (hs : spt tn t p = some s) : f_X0_ringOfPass bo ri (nI p) = some (nI (rg tn s)) := by
  have h7 := hT.x7
  have h14 := hT.s14
  have h8 := hT.l8
  have hs2 : s < nS tn := ((spt_some hC (by omega)).mp hs).1
  have hl := hT.lkL hs2
  unfold f_X0_ringOfPass
  rw [ckI (by omega) (by decide), nI_clamp (by omega), hG.1 p hp, hs, show oI (some s) = nI s from rfl, ckI (by omega) (by decide), nI_clamp (by omega), hR.2.1 s hs2, ckI (by omega) (by decide), nI_clamp (by omega), hR.2.2.1 _ hl]
  rfl
theorem csigns_e (hT : TW tn) (hR : TR ri tn) (hD : DW tn pt t) (hG : GB tn pt lf t bo) (ha : a < nR tn) (hb : b < nR tn) : f_X0_signsBetween bo ri (nI a) (nI b) = some (sbs tn lf t a b (nX tn)) := by
  have h7 := hT.x7
  have h8 := hT.r8
  have key : ∀ rem n i, i + rem = nX tn → rem < n → f_X0_signsBetween_L5 n (nI a) (nI b) (sbs tn lf t a b i) (nI i) bo ri = some (sbs tn lf t a b (nX tn)) := by
    intro rem
    induction rem with
    | zero =>
      intro n i hi hn
      cases n with
      | zero => omega
      | succ n =>
        rw [f_X0_signsBetween_L5, hR.X, if_pos (nI_le (by omega) (by omega))]
        rw [show i = nX tn by omega]
    | succ rem ih =>
      intro n i hi hn
      cases n with
      | zero => omega
      | succ n =>
        have hi2 : i < nX tn := by omega
        have hI := ih n (i + 1) (by omega) (by omega)
        rw [sbs] at hI
        rw [f_X0_signsBetween_L5, hR.X, if_neg (nI_ge hi2 (by omega)), bd1_e (isLeft_e hT hG hi2)]
        have skip : sbt tn lf t a b i = 0 → f_X0_signsBetween_L81 (nI a) (nI b) (sbs tn lf t a b i) (nI i) bo ri (fun y0 y1 y2 y3 y4 y5 => f_X0_signsBetween_L5 n y0 y1 y2 y3 y4 y5) = some (sbs tn lf t a b (nX tn)) := by
          intro e
          unfold f_X0_signsBetween_L81
          rw [lt1_e, nI_1]
          rw [e, Int32.add_zero] at hI
          exact hI
        cases el : spt tn t (2 * i) with
        | none =>
          rw [if_pos (show bI (none : Option Nat).isSome = 0 from rfl)]
          refine skip ?_
          unfold sbt
          rw [el]
          rfl
        | some s =>
          rw [if_neg (show ¬ (bI (some s).isSome = 0) from (show ¬ (bI true = 0) by decide))]
          have hs := (spt_some hD.1 (by omega)).mp el
          obtain ⟨k, hk, ek⟩ := (hD.1.2.2.2 i hi2).mp ⟨s, hs⟩
          have ek2 : spt tn t (2 * i + 1) = some k := (spt_some hD.1 (by omega)).mpr ⟨hk, ek⟩
          have hrs := hT.rgR hs.1
          have hrk := hT.rgR hk
          have hpr : prB (rg tn s) (rg tn k) a b = prB (lr tn (ov tn i)) (lr tn (un tn i)) a b := by
            rcases hD.2.2.2 i hi2 s k hs.1 hk hs.2 ek with ⟨e1, e2⟩ | ⟨e1, e2⟩
            · rw [e1, e2]; exact prB_sym _ _ _ _
            · rw [e1, e2]
          have hsb : sbt tn lf t a b i = if prB (rg tn s) (rg tn k) a b = true then sgnk tn lf i else 0 := by
            unfold sbt
            rw [el, hpr]
            rfl
          have add : prB (rg tn s) (rg tn k) a b = true → f_X0_signsBetween_L72 (nI a) (nI b) (sbs tn lf t a b i) (nI i) bo ri (fun y0 y1 y2 y3 y4 y5 => f_X0_signsBetween_L5 n y0 y1 y2 y3 y4 y5) = some (sbs tn lf t a b (nX tn)) := by
            intro e
            unfold f_X0_signsBetween_L72 f_X0_signsBetween_L81
            rw [bd1_e (csign_e hT hG hi2), el, lt1_e, lt1_e, nI_1]
            rw [hsb, if_pos e] at hI
            exact hI
          rw [i2, bd1_e (cring_e hT hR hD.1 hG (by omega) el), nI_1, bd1_e (cring_e hT hR hD.1 hG (by omega) ek2)]
          have q : ∀ {u v : Nat}, u < nR tn → v < nR tn → (nI u = nI v ↔ u = v) := fun h1 h2 => ⟨fun e => nI_inj e (by omega) (by omega), fun e => by rw [e]⟩
          have l60 : ¬ (rg tn s = a ∧ rg tn k = b) → f_X0_signsBetween_L60 (nI a) (nI b) (sbs tn lf t a b i) (nI i) (nI (rg tn s)) (nI (rg tn k)) bo ri (fun y0 y1 y2 y3 y4 y5 => f_X0_signsBetween_L5 n y0 y1 y2 y3 y4 y5) = some (sbs tn lf t a b (nX tn)) := by
            intro hno
            unfold f_X0_signsBetween_L60
            by_cases c1 : rg tn s = b
            · rw [if_pos ((q hrs hb).mpr c1)]
              by_cases c2 : rg tn k = a
              · rw [if_pos ((q hrk ha).mpr c2)]
                exact add (by unfold prB; rw [decide_eq_true c1, decide_eq_true c2]; simp)
              · rw [if_neg (fun e => c2 ((q hrk ha).mp e))]
                refine skip ?_
                rw [hsb]
                refine if_neg (fun e => ?_)
                simp only [prB, Bool.or_eq_true, Bool.and_eq_true, decide_eq_true_eq] at e
                exact e.elim hno (fun e => c2 e.2)
            · rw [if_neg (fun e => c1 ((q hrs hb).mp e))]
              refine skip ?_
              rw [hsb]
              refine if_neg (fun e => ?_)
              simp only [prB, Bool.or_eq_true, Bool.and_eq_true, decide_eq_true_eq] at e
              exact e.elim hno (fun e => c1 e.1)
          by_cases c1 : rg tn s = a
          · rw [if_pos ((q hrs ha).mpr c1)]
            by_cases c2 : rg tn k = b
            · rw [if_pos ((q hrk hb).mpr c2)]
              exact add (by unfold prB; rw [decide_eq_true c1, decide_eq_true c2]; simp)
            · rw [if_neg (fun e => c2 ((q hrk hb).mp e))]
              exact l60 (fun e => c2 e.2)
          · rw [if_neg (fun e => c1 ((q hrs ha).mp e))]
            exact l60 (fun e => c1 e.1)
  unfold f_X0_signsBetween
  exact key (nX tn) FU 0 (by omega) (by rw [FU_e]; omega)
end SIGNS
