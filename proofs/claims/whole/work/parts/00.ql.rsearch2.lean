noncomputable def SUC (tn : TnS) (pt : Option Nat) (lf : Int32) (t : Int64) : List Int64 := (MR (mayB tn pt lf t) 0).map (bh tn t)
noncomputable def lvl (tn : TnS) (pt : Option Nat) (lf : Int32) (t0 : Int64) : Nat → Option (List Int64 × Nat)
  | 0 => some ([t0], 0)
  | k + 1 => match lvl tn pt lf t0 k with
    | none => none
    | some (seen, fr) => match addAll seen ((seen.drop fr).flatMap (SUC tn pt lf)) with
      | none => none
      | some s' => some (s', seen.length)
def lsB (tn : TnS) (t : Int64) : Bool := lft tn t == 0
noncomputable def fewG (tn : TnS) (pt : Option Nat) (lf : Int32) (t0 : Int64) : Nat → Nat → Int32
  | rem, k => match lvl tn pt lf t0 k with
    | none => -9
    | some (seen, fr) => if (seen.drop fr).any (lsB tn) = true then nI k else match rem with
      | 0 => -2
      | rem + 1 => fewG tn pt lf t0 rem (k + 1)
section RS2
variable {tn : TnS} {pt : Option Nat} {lf : Int32} {t t0 : Int64}
theorem RS.lk {md md' : MdS} {seen : List Int64} (h : RS tn md seen) (k : Lk md md') : RS tn md' seen := by
  obtain ⟨s1, s2, s3, s4, s5, s6⟩ := h
  have e : rtb md' = rtb md := by unfold rtb; rw [k.table]
  refine ⟨k.many.trans s1, s2, s3, fun i u hi => ?_, s5, by rw [e]; exact s6⟩
  rw [k.come]; exact s4 i u hi
/-- a tangle is looked at, parted and lifted as told -/
def RL (tn : TnS) (pt : Option Nat) (lf : Int32) (t : Int64) (md : MdS) : Prop := Looked md tn pt t ∧ Md_parted md = ptv pt ∧ Md_lifted md = lf
theorem RL.of {md : MdS} (h : RL tn pt lf t md) (f g : Nat → Int64) (k : Int32) : RL tn pt lf t (Md_many' (Md_come' (Md_table' md f) g) k) := by
  refine ⟨?_, ?_, ?_⟩
  · unfold Looked
    rw [gn_spotOf_many, gn_spotOf_come, gn_spotOf_table, gn_nextOf_many, gn_nextOf_come, gn_nextOf_table]
    exact h.1
  · rw [((Sc.u_many _ _)).parted, (Sc.u_come _ _).parted, (Sc.u_table _ _).parted]; exact h.2.1
  · rw [((Sc.u_many _ _)).lifted, (Sc.u_come _ _).lifted, (Sc.u_table _ _).lifted]; exact h.2.2
theorem sc3 (md : MdS) (f g : Nat → Int64) (k : Int32) : Sc md (Md_many' (Md_come' (Md_table' md f) g) k) := ((Sc.u_table _ _).trans (Sc.u_come _ _)).trans (Sc.u_many _ _)
theorem mayB_can {m : Nat} (h : mayB tn pt lf t m = true) : isMv (nX tn) m = true ∧ CAN tn pt lf t m := ⟨(mayB_t.mp h).1, (mayB_t.mp h).2.1⟩
theorem SUC_DW (hT : TW tn) (hD : DW tn pt t) {u : Int64} (h : u ∈ SUC tn pt lf t) : DW tn pt u := by
  unfold SUC at h
  obtain ⟨m, hm, rfl⟩ := List.mem_map.mp h
  obtain ⟨h1, h2⟩ := mayB_can (MR_mem.mp hm).2.2
  exact hD.bh hT h1 h2
def postA (tn : TnS) (md : MdS) (o : Option (List Int64)) (q : Int32 × MdS) : Prop := Sc md q.2 ∧ match o with
  | none => q.1 = 0
  | some s' => q.1 = 1 ∧ RS tn q.2 s'
theorem goes_L (hT : TW tn) (hD : DW tn pt t) : ∀ n a j md seen, 2000 - a < n → a ≤ 2000 → fst1 (mayB tn pt lf t) a j → RL tn pt lf t md → RS tn md seen → Ok (f_X13_goesOnFrom_L11 n t (nI j) md tn) (postA tn md (addAll seen ((MR (mayB tn pt lf t) a).map (bh tn t)))) := by
  have h14 := hT.s14
  intro n
  induction n with
  | zero => intro a j md seen h; omega
  | succ n ih =>
    intro a j md seen hn ha hf hL hS
    rw [f_X13_goesOnFrom_L11, li_2000]
    rcases hf with ⟨h1, h2⟩ | ⟨h1, h2, h3, h4⟩
    · rw [if_pos (by rw [h2]; decide), Ok_some, h1]
      exact ⟨Sc.refl md, rfl, hS⟩
    · obtain ⟨m1, m2⟩ := mayB_can h3
      have hDb := hD.bh hT m1 m2
      rw [if_neg (nI_ge h1 (by omega)), bd1_e (behind_e hT hL.1 hD.1 m1 m2.lv), Ok_bd2]
      refine (comes_e h14 hS hDb.1).mono (fun q hq => ?_)
      have e : (MR (mayB tn pt lf t) a).map (bh tn t) = bh tn t j :: (MR (mayB tn pt lf t) (j + 1)).map (bh tn t) := by rw [h4]; rfl
      rw [e, addAll]
      rcases hq with ⟨q1, q2, q3⟩ | ⟨q1, q2, q3, q4⟩ | ⟨q1, q2, q3, q4, f, g, k, q5⟩
      · rw [if_neg (by rw [q1]; decide), if_pos q2, q3]
        obtain ⟨i, e1, hi⟩ := nextMay_e (v := nI j) hT hD.1 hL.1 (nI_1 j) (by omega)
        rw [hL.2.2] at hi
        rw [bd1_e e1]
        exact ih (j + 1) i md seen (by omega) (by omega) hi hL hS
      · rw [if_pos q1, Ok_some, if_neg q2, if_pos q3, q4]
        exact ⟨Sc.refl md, rfl⟩
      · have hL' : RL tn pt lf t q.2 := by rw [q5]; exact hL.of f g k
        rw [if_neg (by rw [q1]; decide), if_neg q2, if_neg (by omega)]
        obtain ⟨i, e1, hi⟩ := nextMay_e (v := nI j) hT hD.1 hL'.1 (nI_1 j) (by omega)
        rw [hL'.2.2] at hi
        rw [bd1_e e1]
        refine (ih (j + 1) i q.2 _ (by omega) (by omega) hi hL' q4).mono (fun z hz => ⟨?_, hz.2⟩)
        have : Sc md q.2 := by rw [q5]; exact sc3 md f g k
        exact this.trans hz.1
theorem goes_e (hT : TW tn) (hD : DW tn pt t) {md : MdS} {seen : List Int64} (hp : Md_parted md = ptv pt) (hl : Md_lifted md = lf) (hS : RS tn md seen) : Ok (f_X13_goesOnFrom md tn t) (postA tn md (addAll seen (SUC tn pt lf t))) := by
  unfold f_X13_goesOnFrom
  rw [Ok_bd1]
  refine (rLooks hT hD.1 hD.pt hp).mono (fun md1 h => ?_)
  obtain ⟨h1, h2⟩ := h
  have hL : RL tn pt lf t md1 := ⟨h2, h1.parted.trans hp, h1.lifted.trans hl⟩
  obtain ⟨i, e1, hi⟩ := nextMay_e (v := -1) (a := 0) hT hD.1 h2 (by decide) (by omega)
  rw [hL.2.2] at hi
  rw [bd1_e e1]
  refine (goes_L hT hD FU 0 i md1 seen (by rw [FU_e]; omega) (by omega) hi hL (hS.lk h1)).mono (fun z hz => ⟨h1.sc.trans hz.1, hz.2⟩)
/-- the row with all that can be come to from some of it -/
def RD (tn : TnS) (pt : Option Nat) (lf : Int32) (md : MdS) (seen : List Int64) : Prop := RS tn md seen ∧ (∀ u, u ∈ seen → DW tn pt u) ∧ Md_parted md = ptv pt ∧ Md_lifted md = lf
theorem RD.add (hT : TW tn) {md md' : MdS} {seen cur s' : List Int64} {u : Int64} (h : RD tn pt lf md cur) (hu : DW tn pt u) (ha : addAll cur (SUC tn pt lf u) = some s') (hS : RS tn md' s') (hsc : Sc md md') : RD tn pt lf md' s' := by
  obtain ⟨h1, h2, h3, h4⟩ := h
  refine ⟨hS, fun x hx => ?_, hsc.parted.trans h3, hsc.lifted.trans h4⟩
  rcases ((addAll_nd _ _ _ ha h1.2.2.1 h1.2.1).2.2.1 x).mp hx with h | h
  · exact h2 x h
  · exact SUC_DW hT hu h
theorem exp_L (hT : TW tn) {d k : Int32} {seen : List Int64} (K : Int32 → Int32 → Int32 → MdS → TnS → Option (Int32 × MdS)) (Q : Int32 × MdS → Prop) :
    ∀ n q md cur, seen.length - q < n → q ≤ seen.length → (∃ e, cur = seen ++ e) → RD tn pt lf md cur →
    (∀ md' s', addAll cur ((seen.drop q).flatMap (SUC tn pt lf)) = some s' → RD tn pt lf md' s' → Sc md md' → Ok (K d (nI seen.length) (k + 1) md' tn) Q) →
    (∀ md', addAll cur ((seen.drop q).flatMap (SUC tn pt lf)) = none → Sc md md' → Q (-9, md')) →
    Ok (f_X13_fewestFrom_L101 n d k (nI seen.length) (nI q) md tn K) Q := by
  intro n
  induction n with
  | zero => intro q md cur h; omega
  | succ n ih =>
    intro q md cur hn hq he hR hK hN
    have hlen : seen.length ≤ 4000 := by
      obtain ⟨e, he⟩ := he
      have := hR.1.2.1
      rw [he, List.length_append] at this
      omega
    rw [f_X13_fewestFrom_L101]
    by_cases c : q = seen.length
    · rw [if_pos (by rw [c]; exact nI_le (Nat.le_refl _) (by omega)), lt1_e]
      rw [c, List.drop_length] at hK
      exact hK md cur rfl hR (Sc.refl md)
    · have hq2 : q < seen.length := by omega
      obtain ⟨u, hu⟩ : ∃ u, seen[q]? = some u := ⟨seen[q], List.getElem?_eq_getElem hq2⟩
      have hcome : Md_come md q = u := hR.1.2.2.2.1 q u (by
        obtain ⟨e, he⟩ := he
        rw [he, List.getElem?_append_left hq2]; exact hu)
      have hmem : u ∈ cur := by
        obtain ⟨e, he⟩ := he
        rw [he]
        exact List.mem_append_left _ (List.mem_of_getElem? hu)
      have hdrop : seen.drop q = u :: seen.drop (q + 1) := by
        rw [List.drop_eq_getElem_cons hq2]
        congr 1
        rw [List.getElem?_eq_getElem hq2] at hu
        exact Option.some.inj hu
      have hDu := hR.2.1 u hmem
      rw [if_neg (nI_ge hq2 (by omega)), ckI (by omega) (by decide), nI_clamp (by omega), hcome, Ok_bd2]
      rw [hdrop, List.flatMap_cons, addAll_append] at hK hN
      refine (goes_e hT hDu hR.2.2.1 hR.2.2.2 hR.1).mono (fun z hz => ?_)
      obtain ⟨z1, z2⟩ := hz
      cases ha : addAll cur (SUC tn pt lf u) with
      | none =>
        rw [ha] at z2 hN
        rw [if_pos z2, Ok_some]
        exact hN z.2 rfl z1
      | some s' =>
        rw [ha] at z2 hN hK
        rw [if_neg (by rw [z2.1]; decide), lt1_e, nI_1]
        have hR' := RD.add (seen := seen) hT hR hDu ha z2.2 z1
        refine ih (q + 1) z.2 s' (by omega) (by omega) ?_ hR' (fun md' s2 h1 h2 h3 => hK md' s2 h1 h2 (z1.trans h3)) (fun md' h1 h2 => hN md' h1 (z1.trans h2))
        obtain ⟨e, he⟩ := he
        obtain ⟨e2, he2⟩ := (addAll_nd _ _ _ ha hR.1.2.2.1 hR.1.2.1).2.2.2
        exact ⟨e ++ e2, by rw [he2, he, List.append_assoc]⟩
theorem chk_L (hT : TW tn) {d k : Int32} {seen : List Int64} {fr : Nat} {md : MdS} (hR : RD tn pt lf md seen) (K : Int32 → Int32 → Int32 → MdS → TnS → Option (Int32 × MdS)) (Q : Int32 × MdS → Prop) :
    ∀ n q, seen.length - q < n → q ≤ seen.length →
    ((seen.drop q).any (lsB tn) = true → Q (k, md)) →
    (¬ (seen.drop q).any (lsB tn) = true → (k = d → Q (-2, md)) ∧ (¬ k = d → Ok (f_X13_fewestFrom_L101 FU d k (nI seen.length) (nI fr) md tn K) Q)) →
    Ok (f_X13_fewestFrom_L58 n d (nI fr) k (nI seen.length) (nI q) md tn K) Q := by
  intro n
  have hlen := hR.1.2.1
  induction n with
  | zero => intro q h; omega
  | succ n ih =>
    intro q hn hq h1 h2
    rw [f_X13_fewestFrom_L58]
    by_cases c : q = seen.length
    · rw [if_pos (by rw [c]; exact nI_le (Nat.le_refl _) (by omega))]
      rw [c, List.drop_length] at h2
      obtain ⟨a, b⟩ := h2 (by simp)
      by_cases e : k = d
      · rw [if_pos e, Ok_some]; exact a e
      · rw [if_neg e]; exact b e
    · have hq2 : q < seen.length := by omega
      obtain ⟨u, hu⟩ : ∃ u, seen[q]? = some u := ⟨seen[q], List.getElem?_eq_getElem hq2⟩
      have hcome : Md_come md q = u := hR.1.2.2.2.1 q u hu
      have hdrop : seen.drop q = u :: seen.drop (q + 1) := by
        rw [List.drop_eq_getElem_cons hq2]
        congr 1
        rw [List.getElem?_eq_getElem hq2] at hu
        exact Option.some.inj hu
      have hll : lft tn u ≤ 14 := by
        have := cnt_le tn u
        have := hT.s14
        unfold lft; omega
      rw [hdrop, List.any_cons] at h1 h2
      rw [if_neg (nI_ge hq2 (by omega)), ckI (by omega) (by decide), nI_clamp (by omega), hcome, bd1_e (leftIn_e hT)]
      by_cases c2 : lft tn u = 0
      · have : lsB tn u = true := by unfold lsB; simp [c2]
        rw [if_pos (by rw [c2]; rfl), Ok_some]
        exact h1 (by rw [this]; rfl)
      · have : lsB tn u = false := by unfold lsB; simp [c2]
        rw [this, Bool.false_or] at h1 h2
        rw [if_neg (nI_ne0 (by omega) (by omega)), lt1_e, nI_1]
        exact ih (q + 1) (by omega) (by omega) h1 h2
theorem few_L (hT : TW tn) {d : Nat} (hd : d ≤ 8) {md0 : MdS} :
    ∀ rem n k md seen fr, k + rem = d → rem + 1 < n → lvl tn pt lf t0 k = some (seen, fr) → fr ≤ seen.length → RD tn pt lf md seen → Sc md0 md → Ok (f_X13_fewestFrom_L42 n (nI d) (nI fr) (nI k) md tn) (fun q => q.1 = fewG tn pt lf t0 rem k ∧ Sc md0 q.2) := by
  intro rem
  induction rem with
  | zero =>
    intro n k md seen fr hk hn hl hfr hR hsc
    cases n with
    | zero => omega
    | succ n =>
      have hlen := hR.1.2.1
      rw [f_X13_fewestFrom_L42, if_neg (nI_nlt (by omega) (by omega)), lt1_e, hR.1.1]
      refine chk_L hT hR _ _ FU fr (by rw [FU_e]; omega) hfr (fun h => ?_) (fun h => ⟨fun _ => ?_, fun h2 => absurd (by rw [show k = d by omega]) h2⟩)
      · rw [fewG, hl]
        exact ⟨(if_pos h).symm, hsc⟩
      · rw [fewG, hl]
        exact ⟨(if_neg h).symm, hsc⟩
  | succ rem ih =>
    intro n k md seen fr hk hn hl hfr hR hsc
    cases n with
    | zero => omega
    | succ n =>
      have hlen := hR.1.2.1
      rw [f_X13_fewestFrom_L42, if_neg (nI_nlt (by omega) (by omega)), lt1_e, hR.1.1]
      refine chk_L hT hR _ _ FU fr (by rw [FU_e]; omega) hfr (fun h => ?_) (fun h => ⟨fun h2 => absurd (nI_inj h2 (by omega) (by omega)) (by omega), fun h2 => ?_⟩)
      · rw [fewG, hl]
        exact ⟨(if_pos h).symm, hsc⟩
      · refine exp_L hT _ _ FU fr md seen (by rw [FU_e]; omega) hfr ⟨[], by simp⟩ hR (fun md' s' h3 h4 h5 => ?_) (fun md' h3 h5 => ?_)
        · have hl2 : lvl tn pt lf t0 (k + 1) = some (s', seen.length) := by
            rw [lvl, hl]
            show (match addAll seen ((seen.drop fr).flatMap (SUC tn pt lf)) with | none => none | some s' => some (s', seen.length)) = _
            rw [h3]
          rw [nI_1]
          have hle : seen.length ≤ s'.length := by
            obtain ⟨e, he⟩ := (addAll_nd _ _ _ h3 hR.1.2.2.1 hR.1.2.1).2.2.2
            rw [he, List.length_append]; omega
          refine (ih n (k + 1) md' s' seen.length (by omega) (by omega) hl2 hle h4 (hsc.trans h5)).mono (fun q hq => ⟨?_, hq.2⟩)
          rw [hq.1]
          conv => rhs; rw [fewG, hl]
          exact (if_neg h).symm
        · have hl2 : lvl tn pt lf t0 (k + 1) = none := by
            rw [lvl, hl]
            show (match addAll seen ((seen.drop fr).flatMap (SUC tn pt lf)) with | none => none | some s' => some (s', seen.length)) = _
            rw [h3]
          refine ⟨?_, hsc.trans h5⟩
          rw [fewG, hl]
          show (-9 : Int32) = if _ then _ else _
          rw [if_neg h]
          show (-9 : Int32) = fewG tn pt lf t0 rem (k + 1)
          cases rem <;> rw [fewG, hl2]
end RS2
