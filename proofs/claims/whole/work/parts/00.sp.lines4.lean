section LINES4
variable {b : Nat → Nat} {n : Nat} {ps : List Nat} {ta : TaS} {re : ReS} {md md' md0 : MdS} {p : Nat} {to to2 : ToS} {rd : TnS} {P L X : Nat}
theorem isPlace_e {l q : Nat} (hl : l < 8) (hq : q < 10) : f_X9_isPlace (nI l) (nI q) = some 1 := by
  have q0 : ¬ (nI l < nI 0) := nI_nlt (by omega) (by omega)
  have q1 : ¬ (nI 8 ≤ nI l) := nI_ge hl (by omega)
  have q2 : ¬ (nI q < nI 0) := nI_nlt (by omega) (by omega)
  have q3 : ¬ (nI 10 ≤ nI q) := nI_ge hq (by omega)
  unfold f_X9_isPlace
  rw [if_neg (show ¬ (nI l < 0) from q0), if_neg (show ¬ ((8 : Int32) ≤ nI l) from q1), if_neg (show ¬ (nI q < 0) from q2), if_neg (show ¬ ((10 : Int32) ≤ nI q) from q3)]
theorem passOn_e {l q : Nat} (hl : l < 8) (hq : q < 10) : f_X9_passOn to (nI l) (nI q) = some (To_passes to (10 * l + q)) := by
  unfold f_X9_passOn
  rw [bd1_e (isPlace_e hl hq), if_neg (show ¬ ((1 : Int32) = 0) by decide), show (10 : Int32) * nI l + nI q = nI (10 * l + q) by rw [li_10, nI_mul, nI_add], ckI (by omega) (by decide), nI_clamp (by omega)]
def addO (to : ToS) (X l q : Nat) : ToS := To_linkOver' (To_passes' to (upd (To_passes to) (10 * l + q) (nI (2 * X + 2)))) (upd (To_linkOver to) X (nI l))
def addU (to : ToS) (X l q : Nat) : ToS := To_linkUnder' (To_passes' to (upd (To_passes to) (10 * l + q) (nI (2 * X + 1)))) (upd (To_linkUnder to) X (nI l))
theorem addO_e (hX : To_crossings to = nI X) (h7 : X < 7) {l q : Nat} (hl : l < 8) (hq : q < 10) : f_X9_addPass to (nI l) (nI q) 1 = some (addO to X l q) := by
  have q7 : ¬ (nI 7 ≤ nI X) := nI_ge h7 (by omega)
  unfold f_X9_addPass f_X9_addPass_L42 addO
  rw [bd1_e (isPlace_e hl hq), if_neg (show ¬ ((1 : Int32) = 0) by decide), hX, if_neg (show ¬ ((7 : Int32) ≤ nI X) from q7), if_neg (show ¬ ((1 : Int32) = 0) by decide), show (10 : Int32) * nI l + nI q = nI (10 * l + q) by rw [li_10, nI_mul, nI_add], ckI (by omega) (by decide), nI_clamp (by omega), lt1_e, if_neg (show ¬ ((1 : Int32) = 0) by decide)]
  simp only [GO_passes, hX, ckI h7 (show 7 < 2 ^ 31 by decide), nI_clamp (show X < 2 ^ 31 by omega), lt1_e]
  rw [show (2 : Int32) * nI X + 2 = nI (2 * X + 2) by rw [i2, li_2, nI_add]]
theorem addU_e (hX : To_crossings to = nI X) (h7 : X < 7) {l q : Nat} (hl : l < 8) (hq : q < 10) : f_X9_addPass to (nI l) (nI q) 0 = some (addU to X l q) := by
  have q7 : ¬ (nI 7 ≤ nI X) := nI_ge h7 (by omega)
  unfold f_X9_addPass f_X9_addPass_L42 addU
  rw [bd1_e (isPlace_e hl hq), if_neg (show ¬ ((1 : Int32) = 0) by decide), hX, if_neg (show ¬ ((7 : Int32) ≤ nI X) from q7), if_pos rfl, show (10 : Int32) * nI l + nI q = nI (10 * l + q) by rw [li_10, nI_mul, nI_add], ckI (by omega) (by decide), nI_clamp (by omega), lt1_e, if_pos rfl]
  simp only [GO_passes, hX, ckI h7 (show 7 < 2 ^ 31 by decide), nI_clamp (show X < 2 ^ 31 by omega), lt1_e]
  rw [i21]
theorem pass_c (hX : TX b n ps ta) (hT : TB to rd P L X) (h : PBf b n ps re md p) (hsc : Sc md0 md) (hto : To_linkNames to2 = To_linkNames to ∧ To_links to2 = To_links to) {but : Int32 → Int32} (hbut : ∀ l q, l < L → 1 ≤ q → q ≤ 9 → ((nI q = but (nI l) ∨ bitB (Tn_usedAt rd l) q = true) ↔ To_passes to2 (10 * l + q) ≠ 0)) {ov : Int32} {A : Nat → Nat → ToS} (hadd : ∀ l q, l < L → q ≤ 9 → f_X9_addPass to2 (nI l) (nI q) ov = some (A l q))
    {F : Int32 → Int32 → MdS → Option (MdS × TnS)} {Q : MdS × TnS → Int32 × ReS × ToS → Prop}
    (hg : ∀ re' md' l q z, l < L → 1 ≤ q → q ≤ 9 → To_passes to2 (10 * l + q) = 0 → PBf b n ps re' md' z → Pm md md' → Ok (F (nI l) (nI q) md') (fun r => Q r (1, re', A l q)))
    (hb : ∀ re' md' l q, BADQ md0 re' md' → Ok (F l q md') (fun r => Q r (0, re', to2))) :
    Ok (bd2 (f_X13_known md rd 1) fun r2 md3 => bd1 (f_X13_goesOn md3) fun md4 => bd2 (f_X13_readPlace md4 rd r2 (but r2)) fun r5 md6 => F r2 r5 md6) (fun r => Ok (f_X5_takesPass re ta to2 ov) (Q r)) := by
  have hn8 := hT.1.1
  unfold f_X5_takesPass
  rw [Ok_bd2]
  refine (link_c hX hT h hsc hto).mono (fun r hr => ?_)
  obtain ⟨c, c0, hc⟩ := hr
  rw [bd2_e (a := c.1) (b := c.2) c0]
  rcases hc with ⟨e1, ⟨l, hl, e2, e3⟩, e4, e5, e6⟩ | ⟨e1, hbd, e2⟩
  · rw [e1, if_neg (show ¬ ((1 : Int32) = 0) by decide), lt1_e, e2, e3, e4, Ok_bd1]
    refine (step_e hX e5 (by omega) (by omega)).mono (fun md4 h4 => ?_)
    obtain ⟨pm4, q4, hq4⟩ := h4
    have sc4 := hsc.trans pm4.1
    unfold f_X13_readPlace
    rw [Ok_bd2, Ok_bd2]
    refine (bounded_c (lo := 1) (hi := 9) hX hq4 sc4 (by omega) (by omega)).mono (fun s hs => ?_)
    obtain ⟨d, d0, hd⟩ := hs
    have d0 : f_X5_takesWhole c.2 ta 1 9 = some (d.1, d.2) := d0
    rw [bd2_e d0]
    rcases hd with ⟨f1, ⟨q, v1, v2, v3, v4⟩, v5, v6, v7, v8⟩ | ⟨f1, hbd, v3⟩
    · rw [f1, if_neg (show ¬ ((1 : Int32) = 0) by decide), v3, v4, v5, if_neg hq4.at.n5, bd1_e (passOn_e (show l < 8 by omega) (show q < 10 by omega))]
      have hq := hbut l q hl v1 v2
      unfold f_X13_readPlace_L38 f_X13_readPlace_L43
      rw [ckI (show l < 8 by omega) (by decide), nI_clamp (by omega), shr_1 _ _ (by omega)]
      by_cases ct : To_passes to2 (10 * l + q) = 0
      · have hn : ¬ (nI q = but (nI l) ∨ bitB (Tn_usedAt rd l) q = true) := fun e => hq.mp e ct
        have hbf : bitB (Tn_usedAt rd l) q = false := by
          cases e : bitB (Tn_usedAt rd l) q with
          | false => rfl
          | true => exact absurd (Or.inr e) hn
        rw [if_neg (fun e => hn (Or.inl e)), hbf, if_neg (show ¬ (bI false = 1) by decide), if_pos ct, bd1_e (hadd l q hl v2), Ok_bd1]
        refine (step_e hX v6 (by omega) (by omega)).mono (fun md6 h6 => ?_)
        obtain ⟨pm6, q6, hq6⟩ := h6
        rw [Ok_some]
        refine (hg d.2 md6 l q q6 hl v1 v2 ct hq6 (pm4.trans pm6)).mono (fun r hr => ?_)
        rw [Ok_some]
        exact hr
      · rw [if_neg ct]
        have bad : Ok (bd1 (f_X13_flaw md4 3) fun md_4 => bd1 (f_X13_goesOn md_4) fun md_3 => some (nI q, md_3)) (fun a => Ok (F (nI l) a.1 a.2) (fun r => Ok (bd2 (f_X5_isFaulty d.2 ta 3) fun r_8 re_9 => zb r_8 (some (r_8, re_9, to2))) (Q r))) := by
          rw [Ok_bd1]
          refine (bad_e hX v6 sc4 3 (k := 3) rfl (by omega) (by omega)).mono (fun md' h1 => ?_)
          obtain ⟨c, c0, c1, c2⟩ := h1
          rw [bd1_e (ov_goes c2.s5), Ok_some]
          refine (hb c.2 md' (nI l) (nI q) c2).mono (fun r hr => ?_)
          rw [bd2_e (a := c.1) (b := c.2) c0, c1, zb_i (Or.inl rfl), Ok_some]
          exact hr
        by_cases c1 : nI q = but (nI l)
        · rw [if_pos c1]; exact bad
        · have hbt : bitB (Tn_usedAt rd l) q = true := (hq.mpr ct).elim (fun e => absurd e c1) id
          rw [if_neg c1, hbt, if_pos (show bI true = 1 from rfl)]
          exact bad
    · unfold f_X13_readPlace_L43
      rw [f1, if_pos rfl, if_pos hbd.s5, bd1_e (ov_goes hbd.s5), Ok_some]
      refine (hb d.2 s.2 _ _ hbd).mono (fun r hr => ?_)
      rw [Ok_some]
      exact hr
  · rw [e1, if_pos rfl, bd1_e (ov_goes hbd.s5), bd2_e (ov_place hbd.s5 _ _)]
    refine (hb c.2 r.2 _ _ hbd).mono (fun r hr => ?_)
    rw [Ok_some]
    exact hr
theorem line_cross (hX : TX b n ps ta) (hT : TB to rd P L X) (hz : TBz rd) (hb : To_begun to = 1) (h : PAt b n ps re md p) (hk : tkK b n p = 1) (hsc : Sc md0 md) :
    Ok (f_X13_readCross md rd) (fun r => Ok (f_X5_readsCross re ta to) (fun c => (c.1 = 1 ∧ LB b n ps md0 c.2.1 c.2.2 r.1 r.2) ∨ (c.1 = 0 ∧ BADQ md0 c.2.1 r.1))) := by
  obtain ⟨⟨hP8, hL8, hX7⟩, n1, n2, n3, n4, n5, n6, n7⟩ := hT.1
  have x4 := hT.2.2.2.2.2.2.2.2
  unfold f_X5_readsCross
  rw [n5]
  by_cases c7 : X = 7
  · have q : ¬ (nI X < nI 7) := nI_nlt (by omega) (by omega)
    rw [if_neg (show ¬ (nI X < (7 : Int32)) from q)]
    obtain ⟨md', e0, c, c0, c1, c2⟩ := bad_e hX h hsc 5 (k := 5) rfl (by omega) (by omega)
    rw [ov_cross hT (begins_5 (by rw [n6, c7]; rfl) e0 c2.s5) c2.s5, Ok_some, bd2_e (a := c.1) (b := c.2) c0, c1, zb_i (Or.inl rfl), Ok_some]
    exact Or.inr ⟨rfl, c2⟩
  · have q : nI X < nI 7 := nI_lt (by omega) (by omega)
    have qn : ¬ (Tn_crossings rd = 7) := by rw [n6]; exact fun e => c7 (nI_inj (b := 7) e (by omega) (by omega))
    have h7 : X < 7 := by omega
    rw [if_pos (show nI X < (7 : Int32) from q)]
    unfold f_X13_readCross
    rw [begins_g qn (hT.hgt hb), Ok_bd1, Ok_bd1]
    refine (step_e hX h (by omega) (by omega)).mono (fun md1 h1 => ?_)
    obtain ⟨pm1, q1, hq1⟩ := h1
    have sc1 := hsc.trans pm1.1
    rw [Ok_some]
    simp only [Ok_bd3]
    refine pass_c (to2 := to) (but := fun _ => -1) (A := addO to X) hX hT hq1 sc1 ⟨rfl, rfl⟩ (fun l q hl h1 h2 => ?_) (fun l q hl hq => addO_e n5 h7 (by omega) (by omega)) (fun re2 md2 lo po z hlo p1 p2 hp0 hz2 pm2 => ?_) (fun re2 md2 lo po hbd => ?_)
    · rw [x4 l q (by omega) (by omega)]
      exact ⟨fun e => e.elim (fun e => absurd e (by rw [nI_neg1 (by omega)]; exact id)) id, Or.inr⟩
    · have sc2 := sc1.trans pm2.1
      have nc2 : To_crossings (addO to X lo po) = nI X := by unfold addO; simp only [GO_linkOver, GO_passes, n5]
      rw [Ok_bd1]
      simp only [if_neg (show ¬ ((1 : Int32) = 0) by decide)]
      refine (needs_c hX hz2 sc2 (k := 20) (w := 8) (by omega) wo_over).mono (fun md3 h3 => ?_)
      obtain ⟨c, c0, hc⟩ := h3
      have c0 : f_X5_takesWord re2 ta (8 : Int32) = some (c.1, c.2) := c0
      simp only [bd2_e c0]
      rcases hc with ⟨e1, ⟨⟨q3, hq3⟩, pm3⟩, _, _⟩ | ⟨e1, hbd⟩
      · have sc3 := sc2.trans pm3.1
        simp only [e1, if_neg (show ¬ ((1 : Int32) = 0) by decide), Ok_bd3]
        have efn : ∀ (r8 : Int32) (md10 : MdS), (if r8 = nI lo then f_X13_readCross_L59 (nI lo) (nI po) r8 r8 (nI po) md10 rd else f_X13_readCross_L59 (nI lo) (nI po) r8 r8 (-1 : Int32) md10 rd) = bd2 (f_X13_readPlace md10 rd r8 (if r8 = nI lo then nI po else -1)) fun r11 md12 => bd1 (f_X13_isWord md12 21) fun r13 => if r13 = 0 then bd1 (f_X13_isWord md12 22) fun r14 => if r14 = 0 then bd1 (f_X13_flaw md12 1) fun md15 => f_X13_readCross_L93 (nI lo) (nI po) r8 r11 r13 md15 rd else f_X13_readCross_L93 (nI lo) (nI po) r8 r11 r13 md12 rd else f_X13_readCross_L93 (nI lo) (nI po) r8 r11 r13 md12 rd := by
          intro r8 md10
          by_cases e : r8 = nI lo
          · rw [if_pos e, if_pos e]; rfl
          · rw [if_neg e, if_neg e]; rfl
        simp only [efn]
        refine pass_c (to := to) (to2 := addO to X lo po) (but := fun r8 => if r8 = nI lo then nI po else -1) (A := addU (addO to X lo po) X) hX hT hq3 sc3 ⟨by unfold addO; simp only [GO_linkOver, GO_passes], by unfold addO; simp only [GO_linkOver, GO_passes]⟩ (fun l q hl h1 h2 => ?_) (fun l q hl hq => addU_e nc2 h7 (by omega) (by omega)) (fun re4 md4 lu pu z hlu u1 u2 hu0 hz4 pm4 => ?_) (fun re2 md2 l q hbd => ?_)
        · have ep : To_passes (addO to X lo po) = upd (To_passes to) (10 * lo + po) (nI (2 * X + 2)) := by unfold addO; simp only [GO_linkOver, GO_passes]
          rw [x4 l q (by omega) (by omega), ep]
          by_cases el : l = lo
          · subst el
            rw [if_pos rfl]
            by_cases eq : q = po
            · subst eq
              rw [upd_at]
              exact ⟨fun _ => nI_ne0 (by omega) (by omega), fun _ => Or.inl rfl⟩
            · rw [upd_ne (by omega)]
              exact ⟨fun e => e.elim (fun e => absurd (nI_inj e (by omega) (by omega)) eq) id, Or.inr⟩
          · rw [if_neg (fun e => el (nI_inj e (by omega) (by omega))), upd_ne (by omega)]
            exact ⟨fun e => e.elim (fun e => absurd e (by rw [nI_neg1 (by omega)]; exact id)) id, Or.inr⟩
        · have sc4 := sc3.trans pm4.1
          have ep : To_passes (addO to X lo po) = upd (To_passes to) (10 * lo + po) (nI (2 * X + 2)) := by unfold addO; simp only [GO_linkOver, GO_passes]
          have hne : ¬ (lo = lu ∧ po = pu) := by
            rintro ⟨rfl, rfl⟩
            rw [ep, upd_at] at hu0
            exact absurd hu0 (nI_ne0 (by omega) (by omega))
          have hu1 : To_passes to (10 * lu + pu) = 0 := by
            rw [ep, upd_ne (by omega)] at hu0
            exact hu0
          obtain ⟨re9, a0, a1, a2, a3, a4⟩ := adv_e hX hz4
          simp only [if_neg (show ¬ ((1 : Int32) = 0) by decide), bd1_e a0, show f_X5_isWord re9 ta (9 : Int32) = _ from isWord_c hX a1 (w := 9) (by omega), show f_X5_isWord re9 ta (10 : Int32) = _ from isWord_c hX a1 (w := 10) (by omega)]
          rw [bd1_e (isWord_r hz4.at wo_minus), bd1_e (isWord_r hz4.at wo_plus)]
          simp only [bd1_e rfl]
          have fin : ∀ pl : Bool, tkK b n z = 1 → isW b n z 9 = pl → Ok (f_X13_readCross_L93 (nI lo) (nI po) (nI lu) (nI pu) (bI (!pl)) md4 rd) (fun r => Ok (f_X5_readsCross_L73 re9 (addU (addO to X lo po) X lu pu) ta) (fun c => (c.1 = 1 ∧ LB b n ps md0 c.2.1 c.2.2 r.1 r.2) ∨ (c.1 = 0 ∧ BADQ md0 c.2.1 r.1))) := by
            intro pl hkz hpl
            unfold f_X13_readCross_L93 f_X5_readsCross_L73
            rw [Ok_bd1]
            refine (step_e hX a1 (by omega) (by omega)).mono (fun md5 h5 => ?_)
            obtain ⟨pm5, q5, hq5⟩ := h5
            have sc5 := sc4.trans pm5.1
            have nc3 : To_crossings (addU (addO to X lo po) X lu pu) = nI X := by unfold addU; simp only [GO_linkUnder, GO_passes, nc2]
            have q7 : ¬ (nI 7 ≤ nI X) := nI_ge h7 (by omega)
            have hclass : ∃ to5, f_X9_addCrossing (addU (addO to X lo po) X lu pu) (bI pl) = some to5 ∧ True ∧ (toK to to5) ∧ (To_people to5 = To_people to ∧ To_links to5 = To_links to ∧ To_crossings to5 = nI (X + 1) ∧ To_personNames to5 = To_personNames to ∧ To_linkNames to5 = To_linkNames to ∧ To_talls to5 = To_talls to ∧ To_handAt to5 = To_handAt to ∧ To_linkIn to5 = To_linkIn to) ∧ (To_linkOver to5 = upd (To_linkOver to) X (nI lo) ∧ To_linkUnder to5 = upd (To_linkUnder to) X (nI lu) ∧ To_passes to5 = upd (upd (To_passes to) (10 * lo + po) (nI (2 * X + 2))) (10 * lu + pu) (nI (2 * X + 1)) ∧ To_plus to5 = if pl then To_plus to ||| ((1 : Int32) <<< (nI X &&& 31)) else To_plus to) := by
              unfold f_X9_addCrossing f_X9_addCrossing_L28
              rw [nc3, if_neg (show ¬ ((7 : Int32) ≤ nI X) from q7)]
              cases pl with
              | false =>
                rw [if_pos (show bI false = 0 from rfl), lt1_e, nI_1]
                refine ⟨_, rfl, trivial, ?_⟩
                unfold addU addO toK
                simp only [GO_crossings, GO_linkUnder, GO_linkOver, GO_passes, and_self]
                simp
              | true =>
                rw [if_neg (show ¬ (bI true = 0) by decide), lt1_e, lt1_e]
                simp only [GO_plus, nc3, nI_1]
                refine ⟨_, rfl, trivial, ?_⟩
                unfold addU addO toK
                simp only [GO_crossings, GO_plus, GO_linkUnder, GO_linkOver, GO_passes, and_self]
                simp
            obtain ⟨to5, t0, _, t1, t2, t3⟩ := hclass
            rw [if_neg hq5.at.n5, lt1_e, n6]
            simp only [lt1_e, ckI h7 (show 7 < 2 ^ 31 by decide), nI_clamp (show X < 2 ^ 31 by omega)]
            unfold f_X13_readCross_L179
            simp only [lt1_e, ckI h7 (show 7 < 2 ^ 31 by decide), ckI (show lo < 8 by omega) (show 8 < 2 ^ 31 by decide), ckI (show lu < 8 by omega) (show 8 < 2 ^ 31 by decide), nI_clamp (show X < 2 ^ 31 by omega), nI_clamp (show lo < 2 ^ 31 by omega), nI_clamp (show lu < 2 ^ 31 by omega), GT_over, GT_overAt, GT_under, GT_underAt, GT_sign, GT_usedAt, n6, nI_1, show f_X5_isWord re9 ta (9 : Int32) = some (bI pl) from by rw [← hpl]; exact isWord_c hX a1 (w := 9) (by omega), bd1_e rfl, bd1_e t0]
            cases pl with
            | false =>
              rw [if_neg (show ¬ (bI (!false) = 0) by decide), Ok_some, Ok_some]
              refine Or.inl ⟨rfl, P, L, X + 1, q5, ?_, ?_, t1.1.trans hb, ?_, sc5⟩
              · refine hT.cross h7 hb hlo hlu ⟨p1, p2⟩ ⟨u1, u2⟩ hp0 hu1 hne false t1 ⟨?_, ?_⟩ t2 t3 ⟨?_, ?_, ?_, ?_, ?_, ?_, ?_, ?_⟩ ⟨?_, ?_, ?_, ?_, ?_⟩ ⟨?_, ?_, ?_, ?_, ?_, ?_⟩
                all_goals simp only [GT_crossings, GT_over, GT_overAt, GT_under, GT_underAt, GT_sign, GT_usedAt]
                all_goals rfl
              · unfold TBz
                simp only [GT_crossings, GT_over, GT_overAt, GT_under, GT_underAt, GT_sign, GT_usedAt, hz.1, hz.2.1, hz.2.2, and_self]
              · exact hq5
            | true =>
              rw [if_pos (show bI (!true) = 0 from rfl), Ok_some, Ok_some]
              refine Or.inl ⟨rfl, P, L, X + 1, q5, ?_, ?_, t1.1.trans hb, ?_, sc5⟩
              · refine hT.cross h7 hb hlo hlu ⟨p1, p2⟩ ⟨u1, u2⟩ hp0 hu1 hne true t1 ⟨?_, ?_⟩ t2 t3 ⟨?_, ?_, ?_, ?_, ?_, ?_, ?_, ?_⟩ ⟨?_, ?_, ?_, ?_, ?_⟩ ⟨?_, ?_, ?_, ?_, ?_, ?_⟩
                all_goals simp only [GT_crossings, GT_over, GT_overAt, GT_under, GT_underAt, GT_sign, GT_usedAt]
                all_goals rfl
              · unfold TBz
                simp only [GT_crossings, GT_over, GT_overAt, GT_under, GT_underAt, GT_sign, GT_usedAt, hz.1, hz.2.1, hz.2.2, and_self]
              · exact hq5
          cases cm : isW b n z 10 with
          | true =>
            have cp : isW b n z 9 = false := isW_ne (u := 10) (by omega) (by omega) (by omega) cm
            rw [if_neg (show ¬ (bI true = 0) by decide)]
            simp only [cp, if_pos (show bI false = 0 from rfl), if_neg (show ¬ (bI true = 0) by decide)]
            exact fin false (isW_k cm) cp
          | false =>
            rw [if_pos (show bI false = 0 from rfl)]
            cases cp : isW b n z 9 with
            | true =>
              rw [if_neg (show ¬ (bI true = 0) by decide)]
              simp only [if_neg (show ¬ (bI true = 0) by decide)]
              exact fin true (isW_k cp) cp
            | false =>
              rw [if_pos (show bI false = 0 from rfl), Ok_bd1]
              simp only [if_pos (show bI false = 0 from rfl)]
              refine (bad_e hX a1 sc4 1 (k := 1) rfl (by omega) (by omega)).mono (fun md' h1 => ?_)
              obtain ⟨c, c0, c1, c2⟩ := h1
              unfold f_X13_readCross_L93
              rw [bd1_e (ov_goes c2.s5), if_pos c2.s5, Ok_some, bd2_e (a := c.1) (b := c.2) c0, c1, zb_i (Or.inl rfl), Ok_some]
              exact Or.inr ⟨rfl, c2⟩
        · unfold f_X13_readCross_L93
          simp only [bd1_e (ov_isWord hbd.s5 21), bd1_e (ov_isWord hbd.s5 22), bd1_e (ov_flaw hbd.s5 1), bd1_e (ov_goes hbd.s5), if_pos hbd.s5, ite_true, if_true, ite_self]
          rw [Ok_some]
          simp only [if_true, Ok_some]
          exact Or.inr ⟨trivial, hbd⟩
      · rw [bd2_e (ov_known hT hbd.s5 1), bd1_e (ov_goes hbd.s5)]
        simp only [ov_cross59 hbd.s5, ite_self, e1, if_true]
        rw [Ok_some, Ok_some]
        exact Or.inr ⟨rfl, hbd⟩
    · rw [bd1_e (ov_needs hbd.s5 20), bd2_e (ov_known hT hbd.s5 1), bd1_e (ov_goes hbd.s5)]
      simp only [ov_cross59 hbd.s5, ite_self, if_true]
      rw [Ok_some, Ok_some]
      exact Or.inr ⟨rfl, hbd⟩
end LINES4
