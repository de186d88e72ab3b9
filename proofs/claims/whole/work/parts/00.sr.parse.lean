section PARSE
variable {b : Nat → Nat} {n : Nat} {ps : List Nat} {ta : TaS} {re : ReS} {md md' md0 : MdS} {p : Nat} {to : ToS} {rd : TnS} {P L X : Nat}
theorem TB.b01 (hT : TB to rd P L X) : (To_begun to = 0 ∧ Tn_height rd = -1 ∧ P = 0 ∧ L = 0 ∧ X = 0) ∨ To_begun to = 1 := by
  rcases hT.2.1.1 with ⟨g1, g2, g3, g4, g5, _⟩ | ⟨g, _⟩
  · exact Or.inl ⟨g1, g2, g3, g4, g5⟩
  · exact Or.inr g
theorem lb_lg (hX : TX b n ps ta) {t : Int32} {r : MdS × TnS} (h : (t = 1 ∧ LB b n ps md0 re to r.1 r.2) ∨ (t = 0 ∧ BADQ md0 re r.1)) : Ok (f_X5_readsLine_L94 t re to ta) (fun c => (c.1 = 1 ∧ LG b n ps md0 c.2.1 c.2.2 r.1 r.2) ∨ (c.1 = 0 ∧ BADQ md0 c.2.1 r.1)) := by
  unfold f_X5_readsLine_L94
  rcases h with ⟨rfl, P, L, X, q, h1, h2, h3, h4, h5⟩ | ⟨rfl, h⟩
  · obtain ⟨re1, a0, a1, _⟩ := adv_e hX h4
    rw [if_neg (show ¬ ((1 : Int32) = 0) by decide), bd1_e a0, zb_i (Or.inr rfl), Ok_some]
    exact Or.inl ⟨rfl, P, L, X, q, h1, h2, h3, a1, h5⟩
  · rw [if_pos rfl, zb_i (Or.inl rfl), Ok_some]
    exact Or.inr ⟨rfl, h⟩
theorem line_c (hX : TX b n ps ta) (hT : TB to rd P L X) (hz : TBz rd) (h : PBf b n ps re md p) (hsc : Sc md0 md) :
    Ok (f_X13_readLine md rd) (fun r => Ok (f_X5_readsLine re ta to) (fun c => (c.1 = 1 ∧ LG b n ps md0 c.2.1 c.2.2 r.1 r.2) ∨ (c.1 = 0 ∧ BADQ md0 c.2.1 r.1))) := by
  obtain ⟨re1, a0, a1, _⟩ := adv_e hX h
  have w0 : f_X5_isWord re1 ta (0 : Int32) = _ := isWord_c hX a1 (w := 0) (by omega)
  have w1 : f_X5_isWord re1 ta (1 : Int32) = _ := isWord_c hX a1 (w := 1) (by omega)
  have w2 : f_X5_isWord re1 ta (2 : Int32) = _ := isWord_c hX a1 (w := 2) (by omega)
  have w3 : f_X5_isWord re1 ta (3 : Int32) = _ := isWord_c hX a1 (w := 3) (by omega)
  obtain ⟨⟨hP8, hL8, hX7⟩, n1, n2, n3, n4, n5, n6, n7⟩ := hT.1
  unfold f_X13_readLine f_X5_readsLine
  rw [bd1_e (isWord_r h.at wo_tangle), bd1_e (isWord_r h.at wo_person), bd1_e (isWord_r h.at wo_hold), bd1_e (isWord_r h.at wo_cross), bd1_e a0, bd1_e w0, bd1_e w1, bd1_e w2, bd1_e w3]
  have six : ∀ (f : Option (MdS × TnS)) (hf : ∀ md', f_X13_flaw md 6 = some md' → Md_sort md' = 5 → f = some (md', rd)), Ok f (fun r => Ok (bd2 (f_X5_isFaulty re1 ta 6) fun r_20 re_21 => zb r_20 (some (r_20, re_21, to))) (fun c => (c.1 = 1 ∧ LG b n ps md0 c.2.1 c.2.2 r.1 r.2) ∨ (c.1 = 0 ∧ BADQ md0 c.2.1 r.1))) := by
    intro f hf
    obtain ⟨md', e0, c, c0, c1, c2⟩ := bad_e hX a1 hsc 6 (k := 6) rfl (by omega) (by omega)
    rw [hf md' e0 c2.s5, Ok_some, bd2_e (a := c.1) (b := c.2) c0, c1, zb_i (Or.inl rfl), Ok_some]
    exact Or.inr ⟨rfl, c2⟩
  have bs : ∀ o : Option (MdS × TnS), (bd2 o fun m r => some (m, r)) = o := fun o => by cases o <;> rfl
  simp only [bs]
  cases c0 : isW b n p 0 with
  | true =>
    rw [if_neg (show ¬ (bI true = 0) by decide)]
    simp only [if_neg (show ¬ (bI true = 0) by decide), Ok_bd3]
    refine (line_tangle hX hT hz a1 (isW_k c0) hsc).mono (fun r hr => hr.mono (fun c hc => ?_))
    rcases hc with ⟨e, hc⟩ | ⟨e, hc⟩
    · rw [e, zb_i (Or.inr rfl), Ok_some]; exact Or.inl ⟨rfl, hc⟩
    · rw [e, zb_i (Or.inl rfl), Ok_some]; exact Or.inr ⟨rfl, hc⟩
  | false =>
    rw [if_pos (show bI false = 0 from rfl)]
    simp only [if_pos (show bI false = 0 from rfl)]
    unfold f_X5_readsLine_L51
    cases c1 : isW b n p 1 with
    | true =>
      rw [if_neg (show ¬ (bI true = 0) by decide)]
      simp only [if_neg (show ¬ (bI true = 0) by decide)]
      rcases hT.b01 with ⟨g1, g2, g3, g4, g5⟩ | g
      · simp only [if_pos g1]
        refine six _ (fun md' e h5 => ov_person hT (begins_6 ?_ g2 e h5) h5)
        rw [n2, g3]; decide
      · simp only [if_neg (show ¬ (To_begun to = 0) by rw [g]; decide), Ok_bd3]
        exact (line_person hX hT hz g a1 (isW_k c1) hsc).mono (fun r hr => hr.mono (fun c hc => lb_lg hX hc))
    | false =>
      rw [if_pos (show bI false = 0 from rfl)]
      simp only [if_pos (show bI false = 0 from rfl)]
      cases c2 : isW b n p 2 with
      | true =>
        rw [if_neg (show ¬ (bI true = 0) by decide)]
        simp only [if_neg (show ¬ (bI true = 0) by decide)]
        rcases hT.b01 with ⟨g1, g2, g3, g4, g5⟩ | g
        · simp only [if_pos g1]
          refine six _ (fun md' e h5 => ov_hold hT (begins_6 ?_ g2 e h5) h5)
          rw [n4, g4]; decide
        · simp only [if_neg (show ¬ (To_begun to = 0) by rw [g]; decide), Ok_bd3]
          exact (line_hold hX hT hz g a1 (isW_k c2) hsc).mono (fun r hr => hr.mono (fun c hc => lb_lg hX hc))
      | false =>
        rw [if_pos (show bI false = 0 from rfl)]
        simp only [if_pos (show bI false = 0 from rfl)]
        cases c3 : isW b n p 3 with
        | true =>
          rw [if_neg (show ¬ (bI true = 0) by decide)]
          simp only [if_neg (show ¬ (bI true = 0) by decide)]
          rcases hT.b01 with ⟨g1, g2, g3, g4, g5⟩ | g
          · simp only [if_pos g1]
            refine six _ (fun md' e h5 => ov_cross hT (begins_6 ?_ g2 e h5) h5)
            rw [n6, g5]; decide
          · simp only [if_neg (show ¬ (To_begun to = 0) by rw [g]; decide), Ok_bd3]
            exact (line_cross hX hT hz g a1 (isW_k c3) hsc).mono (fun r hr => hr.mono (fun c hc => lb_lg hX hc))
        | false =>
          rw [if_pos (show bI false = 0 from rfl), Ok_bd1]
          simp only [if_pos (show bI false = 0 from rfl)]
          refine (bad_e hX a1 hsc 1 (k := 1) rfl (by omega) (by omega)).mono (fun md' h1 => ?_)
          obtain ⟨c, c0, c1, c2⟩ := h1
          rw [Ok_some, bd2_e (a := c.1) (b := c.2) c0, c1, zb_i (Or.inl rfl), Ok_some]
          exact Or.inr ⟨rfl, c2⟩
/-- hands: all held if and only if there are as many links as people -/
theorem TB.hands (hT : TB to rd P L X) : L ≤ P ∧ (L = P ↔ ∀ h, h < 2 * P → To_linkIn to h ≠ -1) := by
  obtain ⟨⟨hP8, hL8, hX7⟩, n1, n2, n3, n4, n5, n6, n7⟩ := hT.1
  obtain ⟨l1, l2, l3, l4, l5⟩ := hT.2.2.2.2.1
  have e1 : (List.range 16).countP (hdB to) = (List.range (2 * P)).countP (hdB to) := by
    rw [range_split (show 2 * P ≤ 16 by omega), List.countP_append]
    have : (List.range' (2 * P) (16 - 2 * P)).countP (hdB to) = 0 := by
      rw [List.countP_eq_zero]
      intro h hh
      rw [List.mem_range'_1] at hh
      unfold hdB
      rw [l4 h (by omega) (by omega)]
      decide
    omega
  rw [e1] at l5
  have hle : (List.range (2 * P)).countP (hdB to) ≤ (List.range (2 * P)).length := List.countP_le_length
  rw [List.length_range] at hle
  refine ⟨by omega, fun e => ?_, fun hh => ?_⟩
  · have hall : ∀ a, a ∈ List.range (2 * P) → hdB to a = true := by
      rw [← List.countP_eq_length, List.length_range]; omega
    intro h hh e
    have := hall h (List.mem_range.mpr hh)
    unfold hdB at this
    rw [e] at this
    exact absurd this (by decide)
  · have hall : (List.range (2 * P)).countP (hdB to) = (List.range (2 * P)).length := by
      rw [List.countP_eq_length]
      intro a ha
      unfold hdB
      rw [decide_eq_false (hh a (List.mem_range.mp ha))]
      rfl
    rw [List.length_range] at hall
    omega
theorem lacks_L (hT : TB to rd P L X) : ∀ f i, 2 * P - i < f → i ≤ 2 * P → (∀ h, h < i → To_linkIn to h ≠ -1) → f_X9_lacksSomething_L2 f (nI i) to = some (if P = 0 ∨ ¬ L = P then 1 else 0) := by
  obtain ⟨⟨hP8, hL8, hX7⟩, n1, n2, n3, n4, n5, n6, n7⟩ := hT.1
  have hh := hT.hands
  intro f
  induction f with
  | zero => intro i h; omega
  | succ f ih =>
    intro i hf hi hno
    rw [f_X9_lacksSomething_L2, n1, i2]
    by_cases c : i = 2 * P
    · have eL : L = P := hh.2.mpr (fun h h1 => hno h (by omega))
      rw [if_pos (nI_le (by omega) (by omega))]
      by_cases c0 : P = 0
      · rw [if_pos (by rw [c0]; rfl), if_pos (Or.inl c0)]
      · rw [if_neg (nI_ne0 (by omega) (by omega)), if_neg (by omega)]
    · rw [if_neg (nI_ge (show i < 2 * P by omega) (by omega)), bd1_e (held_e (show i < 16 by omega))]
      by_cases d : To_linkIn to i = -1
      · rw [if_pos d, if_pos rfl]
        have nL : ¬ L = P := fun e => hh.2.mp e i (by omega) d
        rw [if_pos (Or.inr nL)]
      · rw [if_neg d, if_neg (show ¬ ((1 : Int32) = 0) by decide), lt1_e, nI_1]
        refine ih (i + 1) (by omega) (by omega) (fun h h1 => ?_)
        by_cases e : h = i
        · rw [e]; exact d
        · exact hno h (by omega)
theorem lacks_e (hT : TB to rd P L X) : f_X9_lacksSomething to = some (if P = 0 ∨ ¬ L = P then 1 else 0) := by
  have := hT.1.1
  exact lacks_L hT FU 0 (by rw [FU_e]; omega) (by omega) (fun h h1 => absurd h1 (by omega))
/-- what reading leaves -/
def PEND (md0 : MdS) (ta : TaS) (f0 : Int32) (r : MdS × TnS) (c : Int32 × ReS × TaS × ToS) : Prop :=
  c.2.2.1 = ta ∧ ((c.1 = 1 ∧ Re_fault c.2.1 = f0 ∧ ∃ P X, 1 ≤ P ∧ TB c.2.2.2 r.2 P P X ∧ TBz r.2 ∧ To_begun c.2.2.2 = 1 ∧ Sc md0 r.1) ∨ (c.1 = 0 ∧ BADQ md0 c.2.1 r.1))
theorem AT.s1 (h : AT b n p md) : (Md_sort md = 1 ↔ tkK b n p = 0) ∧ (Md_sort md = 4 ↔ tkK b n p = 3) := by
  have h4 := tkK_le b n p
  rw [h.2.1]
  unfold srt
  repeat' split
  all_goals refine ⟨⟨fun e => ?_, fun e => ?_⟩, ⟨fun e => ?_, fun e => ?_⟩⟩
  all_goals first
    | omega
    | exact absurd e (by decide)
    | rfl
theorem reads_L (hX : TX b n ps ta) : ∀ f g i re md to rd j p P L X, ps.length - j < f → ps.length - j < g → i ≤ j → Re_token re + 1 = nI j → ps[j]? = some p → AT b n p md → RT0 b n md → TB to rd P L X → TBz rd → Sc md0 md →
    Ok (f_X13_readAll_L2 f 1 md rd) (fun r => Ok (f_X5_reads_L32 g (nI i) re ta to) (PEND md0 ta (Re_fault re) r)) := by
  intro f
  induction f with
  | zero => intro g i re md to rd j p P L X h; omega
  | succ f ih =>
    intro g i re md to rd j p P L X hf hg hij hj hp hA hR hT hz hsc
    have hjl : j < ps.length := (List.getElem?_eq_some_iff.mp hp).1
    have hlen := hX.2.2.1
    have h : PBf b n ps re md p := ⟨j, hj, hp, hA, hR⟩
    cases g with
    | zero => omega
    | succ g =>
      rw [f_X13_readAll_L2, if_neg (show ¬ ((1 : Int32) = 0) by decide), f_X5_reads_L32, hX.1.1, if_neg (nI_ge (show i < ps.length by omega) (by omega)), Ok_bd2]
      refine (line_c hX hT hz h hsc).mono (fun r hr => ?_)
      obtain ⟨c, c0, hc⟩ := hr
      have cm := m_line (to := to) (show f_X5_advance re ta = some (Re_token' re (nI j)) from ?_) c c0
      · rw [bd3_e (a := c.1) (b := c.2.1) (c := c.2.2) c0]
        rcases hc with ⟨e1, P', L', X', q, hT', hz', hb', ⟨j', k1, k2, k3, k4⟩, sc'⟩ | ⟨e1, hbd⟩
        · have hA' : PAt b n ps c.2.1 r.1 q := ⟨j', k1, k2, k3, k4⟩
          have hjl' : j' < ps.length := (List.getElem?_eq_some_iff.mp k2).1
          have hfw := cm (by rw [e1]; decide)
          have hjj : j ≤ j' := by
            have := hfw.1
            unfold tI at this
            rw [k1, show Re_token (Re_token' re (nI j)) = nI j from rfl, nI_toInt (by omega), nI_toInt (by omega)] at this
            omega
          have hfl : Re_fault c.2.1 = Re_fault re := hfw.2
          have h4 := tkK_le b n q
          rw [e1, if_neg (show ¬ ((1 : Int32) = 0) by decide), bd1_e (kind_e2 hX hA'), bd1_e (kind_e2 hX hA')]
          unfold f_X13_eatsSemicolon f_X13_eatsSemicolon_L13
          obtain ⟨⟨hP8, hL8, hX7⟩, n1, n2, n3, n4, n5, n6, n7⟩ := hT'.1
          by_cases cE : tkK b n q = 0
          · have s1 : Md_sort r.1 = 1 := k3.s1.1.mpr cE
            have n4' : ¬ (Md_sort r.1 = 4) := fun e => by have := k3.s1.2.mp e; omega
            rw [if_neg n4', if_pos rfl, zb_i (Or.inl rfl), bd2_e rfl, if_pos (by rw [cE]; rfl), bd1_e (lacks_e hT')]
            cases f with
            | zero => omega
            | succ f =>
              rw [f_X13_readAll_L2, if_pos rfl, if_pos s1]
              unfold f_X13_readAll_L31 f_X13_readAll_L69
              rw [if_neg (hT'.hgt hb'), n2, n4]
              have hh := hT'.hands
              have bad : Ok (bd1 (f_X13_flaw r.1 6) fun md_6 => some (md_6, r.2)) (fun r => Ok (bd2 (f_X5_isFaulty c.2.1 ta 6) fun r_17 re_18 => if r_17 = 0 then some ((0 : Int32), re_18, ta, c.2.2) else some ((1 : Int32), re_18, ta, c.2.2)) (PEND md0 ta (Re_fault re) r)) := by
                rw [Ok_bd1]
                refine (bad_e hX hA' sc' 6 (k := 6) rfl (by omega) (by omega)).mono (fun md' h1 => ?_)
                obtain ⟨d, d0, d1, d2⟩ := h1
                rw [Ok_some, bd2_e (a := d.1) (b := d.2) d0, d1, if_pos rfl, Ok_some]
                exact ⟨rfl, Or.inr ⟨rfl, d2⟩⟩
              by_cases z0 : P' = 0
              · rw [if_pos (by rw [z0]; rfl), if_pos (Or.inl z0), if_neg (show ¬ ((1 : Int32) = 0) by decide)]
                exact bad
              · rw [if_neg (nI_ne0 (by omega) (by omega))]
                by_cases zL : L' = P'
                · subst zL
                  rw [if_pos (nI_le (Nat.le_refl _) (by omega)), show (if L' = 0 ∨ ¬ L' = L' then (1 : Int32) else 0) = 0 from if_neg (by omega), if_pos rfl, Ok_some, Ok_some]
                  exact ⟨rfl, Or.inl ⟨rfl, hfl, L', X', by omega, hT', hz', hb', sc'⟩⟩
                · rw [if_neg (nI_ge (show L' < P' by omega) (by omega)), if_pos (Or.inr zL), if_neg (show ¬ ((1 : Int32) = 0) by decide)]
                  exact bad
          · have s1 : ¬ (Md_sort r.1 = 1) := fun e => cE (k3.s1.1.mp e)
            rw [if_neg (show ¬ (nI (tkK b n q) = 0) from nI_ne0 (by omega) (by omega))]
            by_cases cS : tkK b n q = 3
            · rw [if_pos (k3.s1.2.mpr cS), if_neg (show ¬ ((1 : Int32) = 0) by decide), if_pos (by rw [cS]; rfl), lt1_e, nI_1, Ok_bd2, Ok_bd1]
              refine (step_e hX hA' (by omega) (by omega)).mono (fun md5 h5 => ?_)
              obtain ⟨pm5, q5, j5, g1, g2, g3, g4⟩ := h5
              have hj5 : j5 = j' + 1 := by
                rw [k1, nI_1] at g1
                have : j5 < ps.length := (List.getElem?_eq_some_iff.mp g2).1
                exact (nI_inj g1 (by omega) (by omega)).symm
              rw [zb_i (Or.inr rfl), Ok_some]
              refine (ih g (i + 1) c.2.1 md5 c.2.2 r.2 j5 q5 P' L' X' (by omega) (by omega) (by omega) g1 g2 g3 g4 hT' hz' (sc'.trans pm5.1)).mono (fun r hr => hr.mono (fun c' hc' => ?_))
              rw [hfl] at hc'
              exact hc'
            · have n4' : ¬ (Md_sort r.1 = 4) := fun e => cS (k3.s1.2.mp e)
              rw [if_neg n4', if_pos rfl, zb_i (Or.inl rfl), bd2_e rfl, if_neg (show ¬ (nI (tkK b n q) = 3) from fun e => cS (nI_inj (b := 3) e (by omega) (by omega)))]
              cases f with
              | zero => omega
              | succ f =>
                rw [f_X13_readAll_L2, if_pos rfl, if_neg s1, Ok_bd1]
                refine (bad_e hX hA' sc' 1 (k := 1) rfl (by omega) (by omega)).mono (fun md' h1 => ?_)
                obtain ⟨d, d0, d1, d2⟩ := h1
                unfold f_X13_readAll_L31 f_X13_readAll_L69
                rw [bd1_e (ov_flaw d2.s5 6), ite_self, ite_self, ite_self, Ok_some, bd2_e (a := d.1) (b := d.2) d0, d1, zb_i (Or.inl rfl), Ok_some]
                exact ⟨rfl, Or.inr ⟨rfl, d2⟩⟩
        · rw [e1, if_pos rfl, bd2_e (ov_semi hbd.s5)]
          cases f with
          | zero => omega
          | succ f =>
            unfold f_X13_readAll_L2 f_X13_readAll_L31 f_X13_readAll_L69
            rw [if_pos rfl, if_neg (show ¬ (Md_sort r.1 = 1) by rw [hbd.s5]; decide), bd1_e (ov_flaw hbd.s5 1), bd1_e (ov_flaw hbd.s5 6), ite_self, ite_self, ite_self, Ok_some, Ok_some]
            exact ⟨rfl, Or.inr ⟨rfl, hbd⟩⟩
      · obtain ⟨re1, a0, ⟨jj, a1, a2, a3, a4⟩, _⟩ := adv_e hX h
        unfold f_X5_advance at a0 ⊢
        split at a0
        · rename_i hcnt
          exfalso
          cases a0
          rw [hX.1.1] at hcnt
          have e : Re_token re = nI j - 1 := by rw [← hj]; exact (Int32.add_sub_cancel _ _).symm
          rw [e, show ps.length = (ps.length - 1) + 1 by omega, nI_pred] at hcnt
          cases j with
          | zero =>
            have e0 : nI 0 - 1 = (-1 : Int32) := by decide
            rw [e0, Int32.le_iff_toInt_le, nI_toInt (by omega)] at hcnt
            have e2 : (-1 : Int32).toInt = -1 := by decide
            omega
          | succ j => rw [nI_pred] at hcnt; exact (nI_ge (a := j) (show j < ps.length - 1 by omega) (by omega)) hcnt
        · rename_i hcnt
          rw [if_neg hcnt, lt1_e, hj]
end PARSE
