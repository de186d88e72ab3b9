section LIFTF
variable {ri : RiS} {tn : TnS} {hk : HKS} {now tr : MoS} {bo sb : BoS} {md : MdS} {se : SeS} {t u u' : Int64} {lf : Int32} {d : Nat} {pt : Option Nat}
def xbit (x : Nat) : Int32 := (1 : Int32) <<< (nI x &&& 31)
noncomputable def lvl1 (tn : TnS) (pt : Option Nat) (lf : Int32) (t : Int64) (d x : Nat) : Int32 := if (spt tn t (2 * x)).isSome then fewG tn pt (lf ^^^ xbit x) (chg tn t t (2 * x) (2 * x + 1)) d 0 else -2
theorem left_lv2 (hT : TW tn) (hC : CW tn t) {x : Nat} (hx : x < nX tn) (h : (spt tn t (2 * x)).isSome = true) : LV tn t (2 * x) ∧ LV tn t (2 * x + 1) := left_lv hC hx hT.x7 h
/-- how one more is taken into account, by the reference -/
theorem lift_133 {v : Nat → Int32} {i N : Nat} {x2 x3 x4 : Int32} (hd : d ≤ 8) (hv : ∀ i, i < N → VL v d i) (hi : i < N) (hI : RI3 v d i x2 x3 x4) (hN : N ≤ 8) {md3 : MdS} {K : Int32 → Int32 → Int32 → Int32 → Int32 → MdS → TnS → Option (Int32 × MdS)} {Q : Int32 × MdS → Prop}
    (hK : ∀ x2 x3 x4, RI3 v d (i + 1) x2 x3 x4 → Ok (K (nI d) x2 x3 x4 (nI (i + 1)) md3 tn) Q) :
    Ok (if x4 = 0 then if v i = (-9 : Int32) then f_X13_lift_L128 (nI d) x2 x3 (nI i) (v i) md3 tn K else f_X13_lift_L133 (nI d) x2 x3 (nI i) (v i) (0 : Int32) md3 tn K else f_X13_lift_L128 (nI d) x2 x3 (nI i) (v i) md3 tn K) Q := by
  unfold f_X13_lift_L128 f_X13_lift_L133 f_X13_lift_L155 f_X13_lift_L161
  simp only [lt1_e, nI_1]
  rcases hI with ⟨h4, h9, h2, h3⟩ | ⟨h4, j, hj, h9⟩
  · rw [if_pos h4]
    by_cases c9 : v i = -9
    · rw [if_pos c9, if_pos (by rw [c9]; decide)]
      exact hK _ _ _ (Or.inr ⟨rfl, i, by omega, c9⟩)
    · rw [if_neg c9]
      have h9' : ∀ j, j < i + 1 → v j ≠ -9 := fun j hj => by
        by_cases e : j = i
        · rw [e]; exact c9
        · exact h9 j (by omega)
      rcases hv i hi with e | e | ⟨k, hk, e⟩
      · exact absurd e c9
      · rw [if_pos (by rw [e]; decide)]
        refine hK _ _ _ (Or.inl ⟨rfl, h9', ?_, ?_⟩)
        · rw [bst_neg (Or.inr e)]; exact h2
        · rw [bst_neg (Or.inr e)]; exact h3
      · rw [e, if_neg (nI8 k (by omega)).2.2.2]
        have hb := bst_pos (i := i) hd hk e
        cases eb : bst v d i with
        | none =>
          rw [eb] at hb h2
          rw [if_pos (show k < bl d none by show k < d + 1; omega)] at hb
          rw [if_pos (show x2 = -2 from h2)]
          refine hK _ _ _ (Or.inl ⟨rfl, h9', by rw [hb]; rfl, fun b l hbl => ?_⟩)
          rw [hb] at hbl; cases hbl; rfl
        | some q =>
          obtain ⟨b, l⟩ := q
          have hin := bst_in hd hv i (by omega) b l eb
          rw [eb] at hb h2
          rw [if_neg (by rw [h2]; show ¬ nI b = -2; exact (nI8 b (by omega)).2.2.1), h3 b l eb]
          by_cases c : k < l
          · rw [if_pos (show k < bl d (some (b, l)) from c)] at hb
            rw [if_pos (nI_lt c (by omega))]
            refine hK _ _ _ (Or.inl ⟨rfl, h9', by rw [hb]; rfl, fun b' l' hbl => ?_⟩)
            rw [hb] at hbl; cases hbl; rfl
          · rw [if_neg (show ¬ (k < bl d (some (b, l))) from c)] at hb
            rw [if_neg (nI_nlt (by omega) (by omega))]
            refine hK _ _ _ (Or.inl ⟨rfl, h9', by rw [hb]; exact h2, fun b' l' hbl => ?_⟩)
            rw [hb] at hbl; cases hbl; rfl
  · have h1 : RI3 v d (i + 1) x2 x3 1 := Or.inr ⟨rfl, j, by omega, h9⟩
    have h1' : RI3 v d (i + 1) (nI i) (v i) 1 := Or.inr ⟨rfl, j, by omega, h9⟩
    rw [if_neg (by rw [h4]; decide)]
    by_cases c1 : v i < 0
    · rw [if_pos c1]; exact hK _ _ _ h1
    · rw [if_neg c1]
      by_cases c2 : x2 = -2
      · rw [if_pos c2]; exact hK _ _ _ h1'
      · rw [if_neg c2]
        by_cases c3 : v i < x3
        · rw [if_pos c3]; exact hK _ _ _ h1'
        · rw [if_neg c3]; exact hK _ _ _ h1
theorem xx_cancel (a b : Int32) : a ^^^ b ^^^ b = a := by
  refine i32_ext (fun z hz => ?_)
  rw [bit_xor, bit_xor]
  cases bitB a z <;> cases bitB b z <;> rfl
theorem rlift_L (hT : TW tn) (hD : DW tn pt t) (hd : d ≤ 8) {md0 : MdS} (hn0 : Md_now md0 = t) (hp0 : Md_parted md0 = ptv pt) (hl0 : Md_lifted md0 = lf) (hv : ∀ i, i < nX tn → VL (lvl1 tn pt lf t d) d i) :
    ∀ rem n i md x2 x3 x4, i + rem = nX tn → rem < n → RI3 (lvl1 tn pt lf t d) d i x2 x3 x4 → Sc md0 md → Ok (f_X13_lift_L45 n (nI d) x2 x3 x4 (nI i) md tn) (RO3 (lvl1 tn pt lf t d) d (nX tn) md0) := by
  have h8 := hT.x7
  intro rem
  induction rem with
  | zero =>
    intro n i md x2 x3 x4 hi hn hI hsc
    cases n with
    | zero => omega
    | succ n =>
      have ei : i = nX tn := by omega
      subst ei
      rw [f_X13_lift_L45, hT.X, if_pos (nI_le (by omega) (by omega))]
      rcases hI with ⟨h4, h9, h2, h3⟩ | ⟨h4, h9⟩
      · rw [if_pos h4, good_t, bd2_e rfl, Ok_some, h2]
        exact ⟨md, hsc, Or.inr ⟨h9, rfl⟩⟩
      · rw [if_neg (by rw [h4]; decide), refused_t, bd2_e rfl, Ok_some]
        exact ⟨md, hsc, Or.inl ⟨h9, rfl⟩⟩
  | succ rem ih =>
    intro n i md x2 x3 x4 hi hn hI hsc
    cases n with
    | zero => omega
    | succ n =>
      have hil : i < nX tn := by omega
      rw [f_X13_lift_L45, hT.X, if_neg (nI_ge hil (by omega)), Ok_bd2]
      refine (risLeft_e (md := md) (x := i) hT hD (hsc.parted.trans hp0) (hsc.now.trans hn0) hil).mono (fun q hq => ?_)
      obtain ⟨q1, q2, q3⟩ := hq
      have sc2 := hsc.trans q2.sc
      rw [q1]
      cases el : (spt tn t (2 * i)).isSome with
      | false =>
        have e2 : lvl1 tn pt lf t d i = -2 := by unfold lvl1; rw [el]; rfl
        rw [if_pos (show bI false = 0 from rfl)]
        unfold f_X13_lift_L161
        rw [lt1_e, nI_1]
        refine ih n (i + 1) _ _ _ _ (by omega) (by omega) ?_ sc2
        rcases hI with ⟨h4, h9, h2, h3⟩ | ⟨h4, j, hj, h9⟩
        · refine Or.inl ⟨h4, fun j hj => ?_, by rw [bst_neg (Or.inr e2)]; exact h2, by rw [bst_neg (Or.inr e2)]; exact h3⟩
          by_cases e : j = i
          · rw [e, e2]; decide
          · exact h9 j (by omega)
        · exact Or.inr ⟨h4, j, by omega, h9⟩
      | true =>
        obtain ⟨l0, l1⟩ := left_lv2 hT hD.1 hil el
        have en : Md_now q.2 = t := sc2.now.trans hn0
        have elf : Md_lifted q.2 = lf := sc2.lifted.trans hl0
        have hDc := (LD_chg hT hD.1 hil l0 l1).DW hT hD hil
        rw [if_neg (show ¬ (bI true = 0) by decide), en, bd1_e (lifted_e hT hD.1 q3 hil l0 l1), lt1_e, elf, Ok_bd2]
        refine (few_e (md := Md_lifted' q.2 (lf ^^^ ((1 : Int32) <<< (nI i &&& 31)))) (pt := pt) (lf := lf ^^^ xbit i) hT hd hDc (by rw [gn_parted_lifted, sc2.parted, hp0]) (gs_lifted _ _)).mono (fun r hr => ?_)
        obtain ⟨r1, r2⟩ := hr
        have er : r.1 = lvl1 tn pt lf t d i := by rw [r1]; unfold lvl1; rw [el]; rfl
        rw [lt1_e, er, show Md_lifted r.2 = lf ^^^ ((1 : Int32) <<< (nI i &&& 31)) from r2.lifted.trans (gs_lifted _ _), xx_cancel]
        exact lift_133 hd hv hil hI (by omega) (fun y2 y3 y4 hy => ih n (i + 1) _ y2 y3 y4 (by omega) (by omega) hy (sc2.lback r2 hl0))
theorem clift_L (hT : TW tn) (hR : TR ri tn) (hd : d ≤ 8) (hD : DW tn pt t) (hK : KR tn (Mo_key now) t) (hP : PLS tn (Mo_plus now) lf) (hpa : Mo_parted now = ptv pt) (hG : GB tn pt lf t bo) (hv : ∀ i, i < nX tn → VL (lvl1 tn pt lf t d) d i) :
    ∀ rem n i se sb tr, i + rem = nX tn → rem < n → (∃ ks, CT1 se ks) → (∀ j, j < i → lvl1 tn pt lf t d j ≠ -9) → Ok (f_X11_bestLift_L10 n (nI d) (bq (bst (lvl1 tn pt lf t d) d i)) (nI (bl d (bst (lvl1 tn pt lf t d) d i))) (nI i) se sb tr bo now ri) (fun c => CO3 (lvl1 tn pt lf t d) d (nX tn) c.2.1 c.1) := by
  have h8 := hT.x7
  intro rem
  induction rem with
  | zero =>
    intro n i se sb tr hi hn hS h9
    cases n with
    | zero => omega
    | succ n =>
      have ei : i = nX tn := by omega
      subst ei
      rw [f_X11_bestLift_L10, hR.X, if_pos (nI_le (by omega) (by omega)), Ok_some]
      exact ⟨hS, Or.inr ⟨h9, rfl⟩⟩
  | succ rem ih =>
    intro n i se sb tr hi hn hS h9
    cases n with
    | zero => omega
    | succ n =>
      have hil : i < nX tn := by omega
      rw [f_X11_bestLift_L10, hR.X, if_neg (nI_ge hil (by omega)), bd1_e (isLeft_e hT hG hil)]
      unfold f_X11_bestLift_L99
      simp only [lt1_e, nI_1]
      have h9n : lvl1 tn pt lf t d i ≠ -9 → ∀ j, j < i + 1 → lvl1 tn pt lf t d j ≠ -9 := fun hne j hj => by
        by_cases e : j = i
        · rw [e]; exact hne
        · exact h9 j (by omega)
      cases el : (spt tn t (2 * i)).isSome with
      | false =>
        have e2 : lvl1 tn pt lf t d i = -2 := by unfold lvl1; rw [el]; rfl
        rw [if_pos (show bI false = 0 from rfl), ← bst_neg (d := d) (Or.inr e2)]
        exact ih n (i + 1) _ _ _ (by omega) (by omega) hS (h9n (by rw [e2]; decide))
      | true =>
        obtain ⟨l0, l1⟩ := left_lv2 hT hD.1 hil el
        have LDc := LD_chg hT hD.1 hil l0 l1
        have hDc := LDc.DW hT hD hil
        have ev : lvl1 tn pt lf t d i = fewG tn pt (lf ^^^ xbit i) (chg tn t t (2 * i) (2 * i + 1)) d 0 := by unfold lvl1; rw [el]; rfl
        have eb : f_X4_become tr now = some (Mo_seed' (Mo_parted' (Mo_plus' (Mo_key' tr (Mo_key now)) (Mo_plus now)) (Mo_parted now)) (Mo_seed now)) := rfl
        rw [if_neg (show ¬ (bI true = 0) by decide), bd1_e eb, Ok_bd1]
        refine (turnOver_e (t := t) hT hil (mo := Mo_seed' (Mo_parted' (Mo_plus' (Mo_key' tr (Mo_key now)) (Mo_plus now)) (Mo_parted now)) (Mo_seed now)) hK).mono (fun tr3 h3 => ?_)
        obtain ⟨t1, t2, t3, t4⟩ := h3
        rw [Ok_bd3]
        refine (grow_e (sb := sb) (pt := pt) (lf := lf ^^^ xbit i) hT hR t1 (hP.lift hT hil) (t3.trans hpa) hd hS (t4 _ LDc) hDc).mono (fun r hr => ?_)
        have hvi := hv i hil
        rcases hr with ⟨r1, r2, r3⟩ | ⟨r1, r2, r3⟩ | ⟨k, L, fr, hk, r1, r2, r3, r4, r5⟩
        · rw [r1, if_pos rfl, Ok_some]
          exact ⟨r3, Or.inl ⟨⟨i, hil, ev.trans r2⟩, rfl⟩⟩
        · have e2 : lvl1 tn pt lf t d i = -2 := ev.trans r2
          rw [r1, if_neg (by decide), if_pos (by decide), ← bst_neg (d := d) (Or.inr e2)]
          exact ih n (i + 1) _ _ _ (by omega) (by omega) r3 (h9n (by rw [e2]; decide))
        · have e2 : lvl1 tn pt lf t d i = nI k := ev.trans r2
          have hb := bst_pos (i := i) hd hk e2
          have hbl := bl_le hd hv (show i ≤ nX tn by omega)
          have hn2 := ih n (i + 1) r.2.1 r.2.2 tr3 (by omega) (by omega) r4.ct (h9n (by rw [e2]; exact (nI8 k (by omega)).1))
          rw [r1, if_neg (nI8 k (by omega)).2.1, if_neg (nI8 k (by omega)).2.2.2]
          by_cases c : k < bl d (bst (lvl1 tn pt lf t d) d i)
          · rw [if_pos c] at hb
            rw [hb] at hn2
            rw [if_neg (nI_ge c (by omega))]
            exact hn2
          · rw [if_neg c] at hb
            rw [hb] at hn2
            rw [if_pos (nI_le (by omega) (by omega))]
            exact hn2
theorem a_lift (h : IVt tn ri now bo md) (ht : HK_there hk = 1) (hS : ∃ ks, CT1 se ks) (v : Int32) : Ok (f_X13_lift md tn v) (fun q => Ok (f_X11_lift hk se bo sb tr now ri v) (fun c => AN hk md c.1 c.2.1 q ∧ ∃ ks, CT1 c.2.2.1 ks)) := by
  obtain ⟨pt, s, hT, hR, hD, hp, _, _, hK, hP, hpa, _, hB⟩ := h
  have h8 := hT.x7
  unfold f_X13_lift f_X11_lift
  rw [lt1_e, if_neg (show ¬ (HK_there hk = 0) by rw [ht]; decide)]
  rcases b_depth v with ⟨d, hd, rfl, e1, e2⟩ | ⟨e1, e2⟩
  · rw [bd1_e e2, bd1_e e1, if_neg (show ¬ ((1 : Int32) = 0) by decide), if_neg (show ¬ ((1 : Int32) = 0) by decide)]
    have hv : ∀ i, i < nX tn → VL (lvl1 tn pt (Md_lifted md) (Md_now md) d) d i := by
      intro i hi
      cases el : (spt tn (Md_now md) (2 * i)).isSome with
      | false => exact Or.inr (Or.inl (by unfold lvl1; rw [el]; rfl))
      | true =>
        obtain ⟨l0, l1⟩ := left_lv2 hT hD.1 hi el
        have LDc := LD_chg hT hD.1 hi l0 l1
        have ev : lvl1 tn pt (Md_lifted md) (Md_now md) d i = fewG tn pt (Md_lifted md ^^^ xbit i) (chg tn (Md_now md) (Md_now md) (2 * i) (2 * i + 1)) d 0 := by unfold lvl1; rw [el]; rfl
        obtain ⟨tr3, _, t1, t2, t3, t4⟩ := turnOver_e (t := Md_now md) hT hi (mo := now) hK
        obtain ⟨r, _, hr⟩ := grow_e (sb := sb) (pt := pt) (lf := Md_lifted md ^^^ xbit i) hT hR t1 (hP.lift hT hi) (t3.trans hpa) hd hS (t4 _ LDc) (LDc.DW hT hD hi)
        rcases hr with ⟨r1, r2, r3⟩ | ⟨r1, r2, r3⟩ | ⟨k, L, fr, hk, r1, r2, r3, r4, r5⟩
        · exact Or.inl (ev.trans r2)
        · exact Or.inr (Or.inl (ev.trans r2))
        · exact Or.inr (Or.inr ⟨k, hk, ev.trans r2⟩)
    refine (rlift_L (md0 := Md_thrown' md 0) (lf := Md_lifted md) hT hD hd (gn_now_thrown _ _) ((gn_parted_thrown _ _).trans hp) (gn_lifted_thrown _ _) hv (nX tn) FU 0 _ _ _ _ (by omega) (by rw [FU_e]; omega) (Or.inl ⟨rfl, fun j hj => absurd hj (by omega), rfl, fun b l hb => by cases hb⟩) (Sc.refl _)).mono (fun q hq => ?_)
    obtain ⟨md1, sc1, hq⟩ := hq
    have hc := clift_L (lf := Md_lifted md) hT hR hd hD hK hP hpa hB.2.2.2.2.1 hv (nX tn) FU 0 se sb tr (by omega) (by rw [FU_e]; omega) hS (fun j hj => absurd hj (by omega))
    unfold f_X11_bestLift
    rw [Ok_bd4, lt1_e, nI_1]
    refine hc.mono (fun c hc => ?_)
    obtain ⟨c1, c2⟩ := hc
    rcases hq with ⟨⟨j, hj, h9⟩, rfl⟩ | ⟨h9, rfl⟩
    · rcases c2 with ⟨_, c3⟩ | ⟨h9', _⟩
      · rw [c3, if_pos rfl, refuse_t, bd2_e rfl, Ok_some]
        exact ⟨AN.mk (by decide) sc1, c1⟩
      · exact absurd h9 (h9' j hj)
    · rcases c2 with ⟨⟨j, hj, h9'⟩, _⟩ | ⟨_, c3⟩
      · exact absurd h9' (h9 j hj)
      · have hne : ¬ (bq (bst (lvl1 tn pt (Md_lifted md) (Md_now md) d) d (nX tn)) = -3) := by
          cases e : bst (lvl1 tn pt (Md_lifted md) (Md_now md) d) d (nX tn) with
          | none => decide
          | some w =>
            obtain ⟨b, l⟩ := w
            have := bst_in hd hv _ (Nat.le_refl _) b l e
            exact (nI8 b (by omega)).2.1
        rw [c3, if_neg hne, grant_t, bd2_e rfl, Ok_some]
        exact ⟨AN.mk (by decide) sc1, c1⟩
  · rw [bd1_e e2, bd1_e e1, if_pos rfl, if_pos rfl, refused_t, refuse_t, bd2_e rfl, bd2_e rfl, Ok_some, Ok_some]
    exact ⟨AN.mk (by decide) (Sc.refl _), hS⟩
end LIFTF
