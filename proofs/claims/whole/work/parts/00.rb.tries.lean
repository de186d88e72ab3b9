section TRIES
variable {ri : RiS} {tn : TnS} {pt : Option Nat} {lf plus : Int32} {t kc : Int64} {bo : BoS}
noncomputable def lotV (tn : TnS) (pt : Option Nat) (lf : Int32) (q : Int64 × Nat) : Int64 × Nat := if MR (mayB tn pt lf q.1) 0 = [] then q else (bh tn q.1 ((MR (mayB tn pt lf q.1) 0).getD (sdn q.2 % (MR (mayB tn pt lf q.1) 0).length) 0), sdn q.2)
noncomputable def lots (tn : TnS) (pt : Option Nat) (lf : Int32) : Nat → Int64 × Nat → Int64 × Nat
  | 0, q => q
  | d + 1, q => lots tn pt lf d (lotV tn pt lf q)
theorem getD_mem {l : List Nat} {i : Nat} (h : i < l.length) : l[i]? = some (l.getD i 0) := by
  rw [List.getD_eq_getElem?_getD, List.getElem?_eq_getElem h]; rfl
theorem lotV_DW (hT : TW tn) {q : Int64 × Nat} (hD : DW tn pt q.1) (hs : q.2 < 65537) : DW tn pt (lotV tn pt lf q).1 ∧ (lotV tn pt lf q).2 < 65537 := by
  unfold lotV
  by_cases h : MR (mayB tn pt lf q.1) 0 = []
  · rw [if_pos h]; exact ⟨hD, hs⟩
  · rw [if_neg h]
    have hpos : 0 < (MR (mayB tn pt lf q.1) 0).length := List.length_pos_iff.mpr h
    have hm := List.mem_of_getElem? (getD_mem (Nat.mod_lt (sdn q.2) hpos))
    obtain ⟨m1, m2⟩ := mayB_can (MR_mem.mp hm).2.2
    exact ⟨hD.bh hT m1 m2, sdn_lt _⟩
theorem lots_fix {q : Int64 × Nat} (h : MR (mayB tn pt lf q.1) 0 = []) : ∀ d, lots tn pt lf d q = q := by
  intro d
  induction d with
  | zero => rfl
  | succ d ih =>
    have : lotV tn pt lf q = q := by unfold lotV; rw [if_pos h]
    rw [lots, this, ih]
/-- what is loose can't move -/
theorem loose_none (hT : TW tn) (hD : DW tn pt t) (h : lft tn t = 0) : MR (mayB tn pt lf t) 0 = [] := by
  apply List.eq_nil_iff_forall_not_mem.mpr
  intro m hm
  obtain ⟨m1, m2⟩ := mayB_can (MR_mem.mp hm).2.2
  have hc : cnt tn t = 0 := by have := hD.2.1; unfold lft at h; omega
  have hd : ∀ s, s < nS tn → nib t s = 15 := fun s hs => by
    unfold cnt at hc
    rw [List.countP_eq_zero] at hc
    exact Classical.byContradiction (fun hn => hc s (List.mem_range.mpr hs) (lvB_t.mpr hn))
  have h7 := hT.x7
  have hv := m2.lv
  unfold MLV at hv
  by_cases h1 : m < 100
  · have := isMv_0 m1 h1
    rw [if_pos h1] at hv
    obtain ⟨s, hs, e⟩ := hv.1
    rw [hd s hs] at e
    omega
  · rw [if_neg h1] at hv
    obtain ⟨s, hs, e⟩ := hv.2.1.1
    rw [hd s hs] at e
    have : m % 10 < 7 := by
      by_cases h2 : m < 1000
      · have := isMv_1 m1 h1 h2; omega
      · have := isMv_2 m1 h1 h2; omega
    omega
theorem RL.drawn {md : MdS} (h : RL tn pt lf t md) (v : Int32) : RL tn pt lf t (Md_drawn' md v) := by
  refine ⟨?_, (Sc.u_drawn _ _).parted.trans h.2.1, (Sc.u_drawn _ _).lifted.trans h.2.2⟩
  unfold Looked
  rw [gn_spotOf_drawn, gn_nextOf_drawn]
  exact h.1
theorem rlot_sel (hT : TW tn) (hD : DW tn pt t) : ∀ n a j k md, k < n → a ≤ 2000 → fst1 (mayB tn pt lf t) a j → k < (MR (mayB tn pt lf t) a).length → RL tn pt lf t md → f_X13_lotFrom_L79 n t (nI j) (nI k) md tn = some (bh tn t ((MR (mayB tn pt lf t) a).getD k 0), md) := by
  intro n
  induction n with
  | zero => intro a j k md h; omega
  | succ n ih =>
    intro a j k md hn ha hf hk hL
    have hkl : (MR (mayB tn pt lf t) a).length ≤ 2000 := by
      unfold MR
      exact Nat.le_trans (List.length_filter_le _ _) (by rw [List.length_range']; omega)
    rcases hf with ⟨h1, h2⟩ | ⟨h1, h2, h3, h4⟩
    · rw [h1] at hk; cases hk
    · obtain ⟨m1, m2⟩ := mayB_can h3
      rw [f_X13_lotFrom_L79]
      cases k with
      | zero =>
        rw [if_pos (by decide), bd1_e (behind_e hT hL.1 hD.1 m1 m2.lv), h4]
        rfl
      | succ k =>
        obtain ⟨i, e1, hi⟩ := nextMay_e (v := nI j) hT hD.1 hL.1 (nI_1 j) (by omega)
        rw [hL.2.2] at hi
        have e2 : nI (k + 1) + (-1 : Int32) = nI k := by
          rw [← nI_pred k, Int32.sub_eq_add_neg]
        rw [if_neg (nI_nle (by omega) (by omega)), bd1_e e1, lt1_e, e2, h4]
        rw [h4] at hk
        rw [ih (j + 1) i k md (by omega) (by omega) hi (by simpa using hk) hL]
        rfl
theorem rlot_e (hT : TW tn) (hD : DW tn pt t) {md : MdS} (hp : Md_parted md = ptv pt) (hl : Md_lifted md = lf) {sd : Nat} (hsd : sd < 65537) (hdr : Md_drawn md = nI sd) : Ok (f_X13_lotFrom md tn t) (fun q => q.1 = (lotV tn pt lf (t, sd)).1 ∧ Md_drawn q.2 = nI (lotV tn pt lf (t, sd)).2 ∧ Sc md q.2) := by
  have hlen : (MR (mayB tn pt lf t) 0).length ≤ 238 := N238 hT
  unfold f_X13_lotFrom
  rw [Ok_bd1]
  refine (rLooks hT hD.1 hD.pt hp).mono (fun md1 h => ?_)
  obtain ⟨h1, h2⟩ := h
  have hL : RL tn pt lf t md1 := ⟨h2, h1.parted.trans hp, h1.lifted.trans hl⟩
  have hdr1 := h1.drawn.trans hdr
  have key : ∀ n a j c, 2000 - a < n → a ≤ 2000 → fst1 (mayB tn pt lf t) a j → c + (MR (mayB tn pt lf t) a).length = (MR (mayB tn pt lf t) 0).length → Ok (f_X13_lotFrom_L14 n t (nI c) (nI j) md1 tn) (fun q => q.1 = (lotV tn pt lf (t, sd)).1 ∧ Md_drawn q.2 = nI (lotV tn pt lf (t, sd)).2 ∧ Sc md q.2) := by
    intro n
    induction n with
    | zero => intro a j c h; omega
    | succ n ih =>
      intro a j c hn ha hf hc
      rw [f_X13_lotFrom_L14, li_2000]
      rcases hf with ⟨k1, k2⟩ | ⟨k1, k2, k3, k4⟩
      · rw [k1, List.length_nil, Nat.add_zero] at hc
        rw [if_pos (by rw [k2]; decide)]
        by_cases c0 : c = 0
        · have hnil : MR (mayB tn pt lf t) 0 = [] := List.length_eq_zero_iff.mp (by omega)
          have e : lotV tn pt lf (t, sd) = (t, sd) := by unfold lotV; rw [if_pos hnil]
          rw [if_pos (by rw [c0]; rfl), Ok_some, e]
          exact ⟨rfl, hdr1, h1.sc⟩
        · have hnn : MR (mayB tn pt lf t) 0 ≠ [] := fun h => by rw [h] at hc; exact c0 hc
          have e : lotV tn pt lf (t, sd) = (bh tn t ((MR (mayB tn pt lf t) 0).getD (sdn sd % (MR (mayB tn pt lf t) 0).length) 0), sdn sd) := by unfold lotV; rw [if_neg hnn]
          have hs := sdn_lt sd
          rw [if_neg (nI_ne0 (by omega) (by omega)), lt1_e, hdr1, rseed_e hsd]
          have hL2 := hL.drawn (nI (sdn sd))
          obtain ⟨i, e1, hi⟩ := nextMay_e (v := -1) (a := 0) hT hD.1 hL2.1 (by decide) (by omega)
          rw [hL2.2.2] at hi
          rw [bd1_e e1, nz_i (nI_ne0 (by omega) (by omega)), lt1_e, gs_drawn, nI_rem (by omega) (by omega), Ok_eq (rlot_sel hT hD FU 0 i (sdn sd % c) _ (by have := Nat.mod_lt (sdn sd) (show 0 < c by omega); rw [FU_e]; omega) (by omega) hi (by rw [← hc]; exact Nat.mod_lt _ (by omega)) hL2), e, hc]
          exact ⟨rfl, gs_drawn _ _, h1.sc.trans (Sc.u_drawn _ _)⟩
      · obtain ⟨i, e1, hi⟩ := nextMay_e (v := nI j) hT hD.1 hL.1 (nI_1 j) (by omega)
        rw [hL.2.2] at hi
        rw [if_neg (nI_ge k1 (by omega)), lt1_e, nI_1, bd1_e e1]
        rw [k4, List.length_cons] at hc
        exact ih (j + 1) i (c + 1) (by omega) (by omega) hi (by omega)
  obtain ⟨i, e1, hi⟩ := nextMay_e (v := -1) (a := 0) hT hD.1 h2 (by decide) (by omega)
  rw [hL.2.2] at hi
  rw [bd1_e e1]
  exact key FU 0 i 0 (by rw [FU_e]; omega) (by omega) hi (by omega)
/-- so many tries, of so many lots each -/
noncomputable def trs (tn : TnS) (pt : Option Nat) (lf : Int32) (t : Int64) (d : Nat) : Nat → Nat → Nat → Nat
  | 0, _, c => c
  | n + 1, sd, c => trs tn pt lf t d n (lots tn pt lf d (t, sd)).2 (c + (if lft tn (lots tn pt lf d (t, sd)).1 = 0 then 1 else 0))
theorem rtry_d (hT : TW tn) {nn d came i : Nat} (hd : d ≤ 20) (K : Int32 → Int32 → Int32 → Int32 → MdS → TnS → Option (Int32 × MdS)) (Q : Int32 × MdS → Prop) {md0 : MdS} (hp0 : Md_parted md0 = ptv pt) (hl0 : Md_lifted md0 = lf) :
    ∀ rem n j t sd md, j + rem = d → rem < n → DW tn pt t → sd < 65537 → Md_drawn md = nI sd → Sc md0 md →
    (∀ md', Sc md0 md' → Md_drawn md' = nI (lots tn pt lf rem (t, sd)).2 → Ok (K (nI nn) (nI d) (nI (came + (if lft tn (lots tn pt lf rem (t, sd)).1 = 0 then 1 else 0))) (nI (i + 1)) md' tn) Q) →
    Ok (f_X13_tries_L81 n (nI nn) (nI d) (nI came) (nI i) t (nI j) md tn K) Q := by
  have fin : ∀ t sd md, Md_drawn md = nI sd → Sc md0 md → (∀ md', Sc md0 md' → Md_drawn md' = nI sd → Ok (K (nI nn) (nI d) (nI (came + (if lft tn t = 0 then 1 else 0))) (nI (i + 1)) md' tn) Q) → Ok (f_X13_tries_L110 (nI nn) (nI d) (nI came) (nI i) t md tn K) Q := by
    intro t sd md hdr hsc hK
    have hb := lft7 hT t
    unfold f_X13_tries_L110 f_X13_tries_L126
    rw [bd1_e (leftIn_e hT)]
    by_cases c : lft tn t = 0
    · rw [if_pos (by rw [c]; rfl), lt1_e, lt1_e, nI_1, nI_1]
      have := hK md hsc hdr
      rw [if_pos c] at this
      exact this
    · rw [if_neg (nI_ne0 (by omega) (by omega)), lt1_e, lt1_e, nI_1, Int32.add_zero]
      have := hK md hsc hdr
      rw [if_neg c] at this
      exact this
  intro rem
  induction rem with
  | zero =>
    intro n j t sd md hj hn hD hsd hdr hsc hK
    cases n with
    | zero => omega
    | succ n =>
      rw [f_X13_tries_L81, if_pos (nI_le (by omega) (by omega))]
      exact fin t sd md hdr hsc hK
  | succ rem ih =>
    intro n j t sd md hj hn hD hsd hdr hsc hK
    cases n with
    | zero => omega
    | succ n =>
      have hb := lft7 hT t
      rw [f_X13_tries_L81, if_neg (nI_ge (show j < d by omega) (by omega)), bd1_e (leftIn_e hT)]
      by_cases c : lft tn t = 0
      · rw [if_pos (by rw [c]; decide)]
        rw [lots_fix (q := (t, sd)) (loose_none hT hD c) (rem + 1)] at hK
        exact fin t sd md hdr hsc hK
      · rw [if_neg (nI_nle (by omega) (by omega)), Ok_bd2]
        refine (rlot_e hT hD (hsc.parted.trans hp0) (hsc.lifted.trans hl0) hsd hdr).mono (fun q hq => ?_)
        obtain ⟨q1, q2, q3⟩ := hq
        have hDW := lotV_DW (lf := lf) hT (q := (t, sd)) hD hsd
        rw [lt1_e, nI_1, q1]
        rw [lots] at hK
        generalize lotV tn pt lf (t, sd) = z at *
        obtain ⟨z1, z2⟩ := z
        exact ih n (j + 1) z1 z2 q.2 (by omega) (by omega) hDW.1 hDW.2 q2 (hsc.trans q3) hK
theorem ctry_d (hT : TW tn) (hR : TR ri tn) (hP : PLS tn plus lf) {now : MoS} {nn d came i : Nat} (hd : d ≤ 20) (K : Int32 → Int32 → Int32 → Int32 → Int32 → BoS → MoS → RiS → Option (Int32 × BoS)) (Q : Int32 × BoS → Prop) :
    ∀ rem n j t kc sd wb, j + rem = d → rem < n → DW tn pt t → sd < 65537 → KR tn kc t → BO ri tn pt lf kc t plus wb →
    (∀ wb', Ok (K (nI nn) (nI d) (nI (lots tn pt lf rem (t, sd)).2) (nI (came + (if lft tn (lots tn pt lf rem (t, sd)).1 = 0 then 1 else 0))) (nI (i + 1)) wb' now ri) Q) →
    Ok (f_X10_looseTries_L26 n (nI nn) (nI d) (nI sd) (nI came) (nI i) (nI j) wb now ri K) Q := by
  have fin : ∀ t kc sd wb, BO ri tn pt lf kc t plus wb → (∀ wb', Ok (K (nI nn) (nI d) (nI sd) (nI (came + (if lft tn t = 0 then 1 else 0))) (nI (i + 1)) wb' now ri) Q) → Ok (f_X10_looseTries_L72 (nI nn) (nI d) (nI sd) (nI came) (nI i) wb now ri K) Q := by
    intro t kc sd wb hB hK
    have hb := lft7 hT t
    unfold f_X10_looseTries_L72 f_X10_looseTries_L89
    rw [hB.2.2.2.1]
    have := hK wb
    by_cases c : lft tn t = 0
    · rw [if_pos (by rw [c]; rfl), lt1_e, lt1_e, nI_1, nI_1]
      rw [if_pos c] at this
      exact this
    · rw [if_neg (nI_ne0 (by omega) (by omega)), lt1_e, lt1_e, nI_1, Int32.add_zero]
      rw [if_neg c] at this
      exact this
  intro rem
  induction rem with
  | zero =>
    intro n j t kc sd wb hj hn hD hsd hK hB hKK
    cases n with
    | zero => omega
    | succ n =>
      rw [f_X10_looseTries_L26, if_pos (nI_le (by omega) (by omega))]
      exact fin t kc sd wb hB hKK
  | succ rem ih =>
    intro n j t kc sd wb hj hn hD hsd hK hB hKK
    cases n with
    | zero => omega
    | succ n =>
      have hN := N238 (pt := pt) (lf := lf) (t := t) hT
      have hNI := hB.2.2.2.2.2.2.2
      rw [f_X10_looseTries_L26, if_neg (nI_ge (show j < d by omega) (by omega)), hNI.1]
      by_cases c : MR (mayB tn pt lf t) 0 = []
      · rw [if_pos (by rw [c]; decide)]
        rw [lots_fix (q := (t, sd)) c (rem + 1)] at hKK
        exact fin t kc sd wb hB hKK
      · have hpos : 0 < (MR (mayB tn pt lf t) 0).length := List.length_pos_iff.mpr c
        have hs := sdn_lt sd
        have hml := Nat.mod_lt (sdn sd) hpos
        have hm := getD_mem hml
        have hmay := (MR_mem.mp (List.mem_of_getElem? hm)).2.2
        obtain ⟨m1, m2⟩ := mayB_can hmay
        have ev : lotV tn pt lf (t, sd) = (bh tn t ((MR (mayB tn pt lf t) 0).getD (sdn sd % (MR (mayB tn pt lf t) 0).length) 0), sdn sd) := by unfold lotV; rw [if_neg c]
        rw [if_neg (nI_nle hpos (by omega)), bd1_e (cseed_e hsd)]
        have ed : f_X0_drawn wb (nI (sdn sd)) = some (nI ((MR (mayB tn pt lf t) 0).getD (sdn sd % (MR (mayB tn pt lf t) 0).length) 0)) := by
          unfold f_X0_drawn
          rw [hNI.1, if_neg (nI_ne0 hpos (by omega)), nz_i (nI_ne0 hpos (by omega)), nI_rem (by omega) (by omega), ckI (by omega) (by decide), nI_clamp (by omega), hNI.2 _ _ hm]
        rw [bd1_e ed, Ok_bd1]
        unfold f_X0_make
        rw [Ok_bd1]
        refine (after_e hT hD.1 hB.2.2.2.2.1 hB.1 hK m1 m2.lv).mono (fun k' hK' => ?_)
        rw [hB.2.1, hB.2.2.1, Ok_bd1]
        refine (layOut_e hT hR (hD.bh hT m1 m2) hK' hP wb).mono (fun wb2 hB2 => ?_)
        rw [Ok_some, lt1_e, nI_1]
        refine ih n (j + 1) _ k' _ wb2 (by omega) (by omega) (hD.bh hT m1 m2) hs hK' hB2 (fun wb' => ?_)
        have := hKK wb'
        rw [lots, ev] at this
        exact this
theorem ctries_e (hT : TW tn) (hR : TR ri tn) (hD : DW tn pt t) {now : MoS} (hK : KR tn (Mo_key now) t) (hpl : Mo_plus now = plus) (hP : PLS tn plus lf) (hpa : Mo_parted now = ptv pt) {wb : BoS} {sd nn d : Nat} (hsd : sd < 65537) (hnn : nn ≤ 20) (hd : d ≤ 20) : Ok (f_X10_looseTries wb now ri (nI sd) (nI nn) (nI d)) (fun q => q.1 = nI (trs tn pt lf t d nn sd 0)) := by
  have lots_lt : ∀ d q, q.2 < 65537 → DW tn pt q.1 → (lots tn pt lf d q).2 < 65537 := by
    intro d
    induction d with
    | zero => intro q h _; exact h
    | succ d ih => intro q h hq; have := lotV_DW (lf := lf) hT (q := q) hq h; exact ih _ this.2 this.1
  have key : ∀ rem n i sd c wb, i + rem = nn → rem < n → sd < 65537 → c ≤ i → Ok (f_X10_looseTries_L9 n (nI nn) (nI d) (nI sd) (nI c) (nI i) wb now ri) (fun q => q.1 = nI (trs tn pt lf t d rem sd c)) := by
    intro rem
    induction rem with
    | zero =>
      intro n i sd c wb hi hn hs hc
      cases n with
      | zero => omega
      | succ n =>
        rw [f_X10_looseTries_L9, if_pos (nI_le (by omega) (by omega)), Ok_some]
        rfl
    | succ rem ih =>
      intro n i sd c wb hi hn hs hc
      cases n with
      | zero => omega
      | succ n =>
        rw [f_X10_looseTries_L9, if_neg (nI_ge (show i < nn by omega) (by omega))]
        unfold f_X0_lay
        rw [Ok_bd1, hpl, hpa, Ok_bd1]
        refine (layOut_e hT hR hD hK hP wb).mono (fun wb2 hB2 => ?_)
        rw [Ok_some]
        refine ctry_d hT hR hP hd _ _ d FU 0 t _ sd wb2 (by omega) (by rw [FU_e]; omega) hD hs hK hB2 (fun wb' => ?_)
        refine ih n (i + 1) _ _ wb' (by omega) (by omega) (lots_lt d (t, sd) hs hD) ?_
        split <;> omega
  unfold f_X10_looseTries
  exact key nn FU 0 sd 0 wb (by omega) (by rw [FU_e]; omega) hsd (by omega)
end TRIES
