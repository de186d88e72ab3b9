section TRIES2
variable {tn : TnS} {t : Int64} {pt : Option Nat} {lf : Int32}
/-- what is left of the reference's state when it answers -/
noncomputable def gd (md : MdS) : MdS := Md_where' (Md_trouble' md 0) (-1)
theorem good_e (md : MdS) (v : Int32) : f_X13_good md v = some (v, gd md) := rfl
theorem lots_DW (hT : TW tn) : ∀ d q, q.2 < 65537 → DW tn pt q.1 → (lots tn pt lf d q).2 < 65537 := by
  intro d
  induction d with
  | zero => intro q h _; exact h
  | succ d ih => intro q h hq; have := lotV_DW (lf := lf) hT (q := q) hq h; exact ih _ this.2 this.1
theorem rtries_L (hT : TW tn) (hD : DW tn pt t) {md0 : MdS} (hp0 : Md_parted md0 = ptv pt) (hl0 : Md_lifted md0 = lf) (hn0 : Md_now md0 = t) {nn d : Nat} (hnn : nn ≤ 20) (hd : d ≤ 20) :
    ∀ rem n i sd c md, i + rem = nn → rem < n → sd < 65537 → c ≤ i → Md_drawn md = nI sd → Sc md0 md → Ok (f_X13_tries_L66 n (nI nn) (nI d) (nI c) (nI i) md tn) (fun q => q.1 = nI (trs tn pt lf t d rem sd c) ∧ ∃ md1, Sc md0 md1 ∧ q.2 = gd md1) := by
  intro rem
  induction rem with
  | zero =>
    intro n i sd c md hi hn hs hc hdr hsc
    cases n with
    | zero => omega
    | succ n =>
      rw [f_X13_tries_L66, if_pos (nI_le (by omega) (by omega)), good_e, Ok_bd2, Ok_some, Ok_some]
      exact ⟨rfl, md, hsc, rfl⟩
  | succ rem ih =>
    intro n i sd c md hi hn hs hc hdr hsc
    cases n with
    | zero => omega
    | succ n =>
      rw [f_X13_tries_L66, if_neg (nI_ge (show i < nn by omega) (by omega)), lt1_e, hsc.now.trans hn0]
      refine rtry_d hT hd _ _ hp0 hl0 d FU 0 t sd md (by omega) (by rw [FU_e]; omega) hD hs hdr hsc (fun md' h1 h2 => ?_)
      refine ih n (i + 1) _ _ md' (by omega) (by omega) (lots_DW hT d (t, sd) hs hD) ?_ h2 h1
      split <;> omega
theorem rtries_e (hT : TW tn) (hD : DW tn pt t) {md0 : MdS} (hp0 : Md_parted md0 = ptv pt) (hl0 : Md_lifted md0 = lf) (hn0 : Md_now md0 = t) {nn d sd : Nat} (hnn : nn ≤ 20) (hd : d ≤ 20) (hsd : sd < 65537) :
    Ok (f_X13_tries_L66 FU (nI nn) (nI d) (0 : Int32) (0 : Int32) (Md_drawn' md0 (nI sd)) tn) (fun q => q.1 = nI (trs tn pt lf t d nn sd 0) ∧ ∃ md1, Sc md0 md1 ∧ q.2 = gd md1) :=
  rtries_L hT hD hp0 hl0 hn0 hnn hd nn FU 0 sd 0 _ (by omega) (by rw [FU_e]; omega) hsd (by omega) (gs_drawn md0 (nI sd)) (Sc.u_drawn md0 (nI sd))
end TRIES2
