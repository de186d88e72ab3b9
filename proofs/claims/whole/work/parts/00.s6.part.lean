/-! which to part, which to lift -/
def bl (d : Nat) (o : Option (Nat × Nat)) : Nat := match o with
  | none => d + 1
  | some (_, l) => l
def bq (o : Option (Nat × Nat)) : Int32 := match o with
  | none => -2
  | some (b, _) => nI b
def bst (v : Nat → Int32) (d : Nat) : Nat → Option (Nat × Nat)
  | 0 => none
  | i + 1 => if v i < 0 then bst v d i else if cl (v i) < bl d (bst v d i) then some (i, cl (v i)) else bst v d i
def VL (v : Nat → Int32) (d i : Nat) : Prop := v i = -9 ∨ v i = -2 ∨ ∃ k, k ≤ d ∧ v i = nI k
section BST
variable {v : Nat → Int32} {d : Nat}
theorem bst_neg {i : Nat} (h : v i = -9 ∨ v i = -2) : bst v d (i + 1) = bst v d i := by
  rw [bst, if_pos]
  rcases h with h | h <;> rw [h] <;> decide
theorem bst_pos {i k : Nat} (hd : d ≤ 8) (hk : k ≤ d) (h : v i = nI k) : bst v d (i + 1) = if k < bl d (bst v d i) then some (i, k) else bst v d i := by
  rw [bst, if_neg (by rw [h]; exact (nI8 k (by omega)).2.2.2), h, cl_I (by omega)]
theorem bst_in {N : Nat} (hd : d ≤ 8) (hv : ∀ i, i < N → VL v d i) : ∀ i, i ≤ N → ∀ b l, bst v d i = some (b, l) → b < i ∧ l ≤ d := by
  intro i
  induction i with
  | zero => intro _ b l h; cases h
  | succ i ih =>
    intro hi b l h
    have ih' := ih (by omega)
    rcases hv i (by omega) with e | e | ⟨k, hk, e⟩
    · rw [bst_neg (Or.inl e)] at h; have := ih' b l h; omega
    · rw [bst_neg (Or.inr e)] at h; have := ih' b l h; omega
    · rw [bst_pos hd hk e] at h
      by_cases c : k < bl d (bst v d i)
      · rw [if_pos c] at h; cases h; omega
      · rw [if_neg c] at h; have := ih' b l h; omega
theorem bl_le {N : Nat} (hd : d ≤ 8) (hv : ∀ i, i < N → VL v d i) {i : Nat} (hi : i ≤ N) : bl d (bst v d i) ≤ d + 1 := by
  cases e : bst v d i with
  | none => exact Nat.le_refl _
  | some q => obtain ⟨b, l⟩ := q; have := bst_in hd hv i hi b l e; show l ≤ d + 1; omega
end BST
/-- the reference's three while it goes through -/
def RI3 (v : Nat → Int32) (d i : Nat) (x2 x3 x4 : Int32) : Prop :=
  (x4 = 0 ∧ (∀ j, j < i → v j ≠ -9) ∧ x2 = bq (bst v d i) ∧ ∀ b l, bst v d i = some (b, l) → x3 = nI l) ∨ (x4 = 1 ∧ ∃ j, j < i ∧ v j = -9)
def RO3 (v : Nat → Int32) (d N : Nat) (md0 : MdS) (q : Int32 × MdS) : Prop :=
  ∃ md1, Sc md0 md1 ∧ (((∃ j, j < N ∧ v j = -9) ∧ q = (-1, stt md1 3)) ∨ ((∀ j, j < N → v j ≠ -9) ∧ q = (bq (bst v d N), stt md1 0)))
def CO3 (v : Nat → Int32) (d N : Nat) (se : SeS) (r : Int32) : Prop :=
  (∃ ks, CT1 se ks) ∧ (((∃ j, j < N ∧ v j = -9) ∧ r = -3) ∨ ((∀ j, j < N → v j ≠ -9) ∧ r = bq (bst v d N)))
theorem Sc.pback {a b c : MdS} {l w : Int32} (h1 : Sc a b) (h2 : Sc (Md_parted' b l) c) (e : Md_parted a = w) : Sc a (Md_parted' c w) := by
  unfold Sc score
  simp only [GW_parted, h2.thrown, h2.trouble, h2.where, h2.tape, h2.taped, h2.fault, h2.now, h2.lifted, h2.seed, h2.pastNow, h2.keptNow, h2.pastParted, h2.pastSeed, h2.pastLifted, h2.keptParted, h2.keptSeed, h2.keptLifted, h2.acts, h2.marks]
  simp only [h1.thrown, h1.trouble, h1.where, h1.tape, h1.taped, h1.fault, h1.now, h1.lifted, h1.seed, h1.pastNow, h1.keptNow, h1.pastParted, h1.pastSeed, h1.pastLifted, h1.keptParted, h1.keptSeed, h1.keptLifted, h1.acts, h1.marks, e]
theorem Sc.lback {a b c : MdS} {l w : Int32} (h1 : Sc a b) (h2 : Sc (Md_lifted' b l) c) (e : Md_lifted a = w) : Sc a (Md_lifted' c w) := by
  unfold Sc score
  simp only [GW_lifted, h2.thrown, h2.trouble, h2.where, h2.tape, h2.taped, h2.fault, h2.now, h2.parted, h2.seed, h2.pastNow, h2.keptNow, h2.pastParted, h2.pastSeed, h2.pastLifted, h2.keptParted, h2.keptSeed, h2.keptLifted, h2.acts, h2.marks]
  simp only [h1.thrown, h1.trouble, h1.where, h1.tape, h1.taped, h1.fault, h1.now, h1.parted, h1.seed, h1.pastNow, h1.keptNow, h1.pastParted, h1.pastSeed, h1.pastLifted, h1.keptParted, h1.keptSeed, h1.keptLifted, h1.acts, h1.marks, e]
section PARTF
variable {ri : RiS} {tn : TnS} {hk : HKS} {now tr : MoS} {bo sb : BoS} {md : MdS} {se : SeS} {t u u' : Int64} {lf : Int32} {d : Nat}
theorem PD_u {l n : Nat} (h : PD tn t l n u) (h' : PD tn t l n u') : u = u' := by
  refine i64_ext (fun s hs => ?_)
  by_cases c : s < nS tn
  · by_cases g : GO tn t l n (nib t s / 2)
    · rw [h.1 s c g, h'.1 s c g]
    · rw [h.2.1 s c g, h'.2.1 s c g]
  · rw [h.2.2 s (by omega) hs, h'.2.2 s (by omega) hs]
noncomputable def pdU (tn : TnS) (t : Int64) (l : Nat) : Int64 := @dite _ (∃ u, PD tn t l (nS tn) u) (Classical.propDecidable _) (fun h => Classical.choose h) (fun _ => 0)
theorem pdU_e {l : Nat} (h : PD tn t l (nS tn) u) : pdU tn t l = u := by
  unfold pdU
  rw [dif_pos ⟨u, h⟩]
  exact PD_u (Classical.choose_spec (⟨u, h⟩ : ∃ u, PD tn t l (nS tn) u)) h
noncomputable def pvl (tn : TnS) (lf : Int32) (t : Int64) (d l : Nat) : Int32 := fewG tn (some l) lf (pdU tn t l) d 0
/-- how one more is taken into account, by the reference -/
theorem part_122 {v : Nat → Int32} {i N : Nat} {x2 x3 x4 : Int32} (hd : d ≤ 8) (hv : ∀ i, i < N → VL v d i) (hi : i < N) (hI : RI3 v d i x2 x3 x4) (hN : N ≤ 8) {md3 : MdS} {K : Int32 → Int32 → Int32 → Int32 → Int32 → MdS → TnS → Option (Int32 × MdS)} {Q : Int32 × MdS → Prop}
    (hK : ∀ x2 x3 x4, RI3 v d (i + 1) x2 x3 x4 → Ok (K (nI d) x2 x3 x4 (nI (i + 1)) md3 tn) Q) :
    Ok (if x4 = 0 then if v i = (-9 : Int32) then f_X13_part_L117 (nI d) x2 x3 (nI i) (v i) md3 tn K else f_X13_part_L122 (nI d) x2 x3 (nI i) (v i) (0 : Int32) md3 tn K else f_X13_part_L117 (nI d) x2 x3 (nI i) (v i) md3 tn K) Q := by
  unfold f_X13_part_L117 f_X13_part_L122 f_X13_part_L144 f_X13_part_L150
  simp only [lt1_e, nI_1]
  rcases hI with ⟨h4, h9, h2, h3⟩ | ⟨h4, j, hj, h9⟩
  · rw [if_pos h4]
    by_cases c9 : v i = -9
    · rw [if_pos c9, if_pos (by rw [c9]; decide)]
      exact hK _ _ _ (Or.inr ⟨rfl, i, by omega, c9⟩)
    · rw [if_neg c9]
      have h9' : ∀ j, j < i + 1 → v j ≠ -9 := fun j hj => by
        by_cases e : j = i
        · rw [e]; exact c9
        · exact h9 j (by omega)
      rcases hv i hi with e | e | ⟨k, hk, e⟩
      · exact absurd e c9
      · rw [if_pos (by rw [e]; decide)]
        refine hK _ _ _ (Or.inl ⟨rfl, h9', ?_, ?_⟩)
        · rw [bst_neg (Or.inr e)]; exact h2
        · rw [bst_neg (Or.inr e)]; exact h3
      · rw [e, if_neg (nI8 k (by omega)).2.2.2]
        have hb := bst_pos (i := i) hd hk e
        cases eb : bst v d i with
        | none =>
          rw [eb] at hb h2
          rw [if_pos (show k < bl d none by show k < d + 1; omega)] at hb
          rw [if_pos (show x2 = -2 from h2)]
          refine hK _ _ _ (Or.inl ⟨rfl, h9', by rw [hb]; rfl, fun b l hbl => ?_⟩)
          rw [hb] at hbl; cases hbl; rfl
        | some q =>
          obtain ⟨b, l⟩ := q
          have hin := bst_in hd hv i (by omega) b l eb
          rw [eb] at hb h2
          rw [if_neg (by rw [h2]; show ¬ nI b = -2; exact (nI8 b (by omega)).2.2.1), h3 b l eb]
          by_cases c : k < l
          · rw [if_pos (show k < bl d (some (b, l)) from c)] at hb
            rw [if_pos (nI_lt c (by omega))]
            refine hK _ _ _ (Or.inl ⟨rfl, h9', by rw [hb]; rfl, fun b' l' hbl => ?_⟩)
            rw [hb] at hbl; cases hbl; rfl
          · rw [if_neg (show ¬ (k < bl d (some (b, l))) from c)] at hb
            rw [if_neg (nI_nlt (by omega) (by omega))]
            refine hK _ _ _ (Or.inl ⟨rfl, h9', by rw [hb]; exact h2, fun b' l' hbl => ?_⟩)
            rw [hb] at hbl; cases hbl; rfl
  · have h1 : RI3 v d (i + 1) x2 x3 1 := Or.inr ⟨rfl, j, by omega, h9⟩
    have h1' : RI3 v d (i + 1) (nI i) (v i) 1 := Or.inr ⟨rfl, j, by omega, h9⟩
    rw [if_neg (by rw [h4]; decide)]
    by_cases c1 : v i < 0
    · rw [if_pos c1]; exact hK _ _ _ h1
    · rw [if_neg c1]
      by_cases c2 : x2 = -2
      · rw [if_pos c2]; exact hK _ _ _ h1'
      · rw [if_neg c2]
        by_cases c3 : v i < x3
        · rw [if_pos c3]; exact hK _ _ _ h1'
        · rw [if_neg c3]; exact hK _ _ _ h1
theorem rpart_L (hT : TW tn) (hD : DW tn none t) (hd : d ≤ 8) {md0 : MdS} (hn0 : Md_now md0 = t) (hp0 : Md_parted md0 = -2) (hl0 : Md_lifted md0 = lf) (hv : ∀ i, i < nL tn → VL (pvl tn lf t d) d i) :
    ∀ rem n i md x2 x3 x4, i + rem = nL tn → rem < n → RI3 (pvl tn lf t d) d i x2 x3 x4 → Sc md0 md → Ok (f_X13_part_L60 n (nI d) x2 x3 x4 (nI i) md tn) (RO3 (pvl tn lf t d) d (nL tn) md0) := by
  have h8 := hT.l8
  intro rem
  induction rem with
  | zero =>
    intro n i md x2 x3 x4 hi hn hI hsc
    cases n with
    | zero => omega
    | succ n =>
      have ei : i = nL tn := by omega
      subst ei
      rw [f_X13_part_L60, hT.L, if_pos (nI_le (by omega) (by omega))]
      rcases hI with ⟨h4, h9, h2, h3⟩ | ⟨h4, h9⟩
      · rw [if_pos h4, good_t, bd2_e rfl, Ok_some, h2]
        exact ⟨md, hsc, Or.inr ⟨h9, rfl⟩⟩
      · rw [if_neg (by rw [h4]; decide), refused_t, bd2_e rfl, Ok_some]
        exact ⟨md, hsc, Or.inl ⟨h9, rfl⟩⟩
  | succ rem ih =>
    intro n i md x2 x3 x4 hi hn hI hsc
    cases n with
    | zero => omega
    | succ n =>
      rw [f_X13_part_L60, hT.L, if_neg (nI_ge (show i < nL tn by omega) (by omega)), Ok_bd2]
      refine (parted_e (md := md) (pt := none) (t := Md_now md) (l := i) hT (by rw [hsc.now, hn0]; exact hD) (by omega) (hsc.parted.trans hp0)).mono (fun q hq => ?_)
      obtain ⟨q1, q2, q3⟩ := hq
      rw [hsc.now, hn0] at q1
      have eu := pdU_e q1
      have sc2 := hsc.trans q3.sc
      rw [lt1_e, Ok_bd2]
      refine (few_e (md := Md_parted' q.2 (nI i)) (pt := some i) (lf := lf) hT hd q2 (gs_parted _ _) (by rw [gn_lifted_parted, sc2.lifted, hl0])).mono (fun r hr => ?_)
      obtain ⟨r1, r2⟩ := hr
      have er : r.1 = pvl tn lf t d i := by rw [r1, ← eu]; rfl
      rw [lt1_e, er]
      exact part_122 hd hv (by omega) hI h8 (fun y2 y3 y4 hy => ih n (i + 1) _ y2 y3 y4 (by omega) (by omega) hy (sc2.pback r2 hp0))
theorem cpart_L (hT : TW tn) (hR : TR ri tn) (hd : d ≤ 8) (hC : CW tn t) (hK : KR tn (Mo_key now) t) (hP : PLS tn (Mo_plus now) lf) (hU : ∀ l, l < nL tn → PD tn t l (nS tn) (pdU tn t l) ∧ DW tn (some l) (pdU tn t l)) (hv : ∀ i, i < nL tn → VL (pvl tn lf t d) d i) :
    ∀ rem n i se sb tr, i + rem = nL tn → rem < n → (∃ ks, CT1 se ks) → (∀ j, j < i → pvl tn lf t d j ≠ -9) → Ok (f_X11_bestPart_L10 n (nI d) (bq (bst (pvl tn lf t d) d i)) (nI (bl d (bst (pvl tn lf t d) d i))) (nI i) se sb tr now ri) (fun c => CO3 (pvl tn lf t d) d (nL tn) c.2.1 c.1) := by
  have h8 := hT.l8
  intro rem
  induction rem with
  | zero =>
    intro n i se sb tr hi hn hS h9
    cases n with
    | zero => omega
    | succ n =>
      have ei : i = nL tn := by omega
      subst ei
      rw [f_X11_bestPart_L10, hR.L, if_pos (nI_le (by omega) (by omega)), Ok_some]
      exact ⟨hS, Or.inr ⟨h9, rfl⟩⟩
  | succ rem ih =>
    intro n i se sb tr hi hn hS h9
    cases n with
    | zero => omega
    | succ n =>
      have hil : i < nL tn := by omega
      rw [f_X11_bestPart_L10, hR.L, if_neg (nI_ge hil (by omega))]
      have eb : f_X4_become tr now = some (Mo_seed' (Mo_parted' (Mo_plus' (Mo_key' tr (Mo_key now)) (Mo_plus now)) (Mo_parted now)) (Mo_seed now)) := rfl
      rw [bd1_e eb, Ok_bd1]
      refine (letGo_e (t := t) (l := i) hT hR hC hil (mo := Mo_seed' (Mo_parted' (Mo_plus' (Mo_key' tr (Mo_key now)) (Mo_plus now)) (Mo_parted now)) (Mo_seed now)) hK).mono (fun tr3 h3 => ?_)
      obtain ⟨t1, t2, t3, t4⟩ := h3
      rw [Ok_bd3]
      refine (grow_e (sb := sb) (pt := some i) (lf := lf) hT hR t2 hP t1 hd hS (t4 _ (hU i hil).1) (hU i hil).2).mono (fun r hr => ?_)
      unfold f_X11_bestPart_L88
      simp only [lt1_e, nI_1]
      have hvi := hv i hil
      rcases hr with ⟨r1, r2, r3⟩ | ⟨r1, r2, r3⟩ | ⟨k, L, fr, hk, r1, r2, r3, r4, r5⟩
      · rw [r1, if_pos rfl, Ok_some]
        exact ⟨r3, Or.inl ⟨⟨i, hil, r2⟩, rfl⟩⟩
      · have e2 : pvl tn lf t d i = -2 := r2
        have h9' : ∀ j, j < i + 1 → pvl tn lf t d j ≠ -9 := fun j hj => by
          by_cases e : j = i
          · rw [e, e2]; decide
          · exact h9 j (by omega)
        rw [r1, if_neg (by decide), if_pos (by decide), ← bst_neg (d := d) (Or.inr e2)]
        exact ih n (i + 1) _ _ _ (by omega) (by omega) r3 h9'
      · have e2 : pvl tn lf t d i = nI k := r2
        have h9' : ∀ j, j < i + 1 → pvl tn lf t d j ≠ -9 := fun j hj => by
          by_cases e : j = i
          · rw [e, e2]; exact (nI8 k (by omega)).1
          · exact h9 j (by omega)
        have hb := bst_pos (i := i) hd hk e2
        have hbl := bl_le hd hv (show i ≤ nL tn by omega)
        have hn2 := ih n (i + 1) r.2.1 r.2.2 tr3 (by omega) (by omega) r4.ct h9'
        rw [r1, if_neg (nI8 k (by omega)).2.1, if_neg (nI8 k (by omega)).2.2.2]
        by_cases c : k < bl d (bst (pvl tn lf t d) d i)
        · rw [if_pos c] at hb
          rw [hb] at hn2
          rw [if_neg (nI_ge c (by omega))]
          exact hn2
        · rw [if_neg c] at hb
          rw [hb] at hn2
          rw [if_pos (nI_le (by omega) (by omega))]
          exact hn2
theorem a_part (h : IVt tn ri now bo md) (ht : HK_there hk = 1) (hS : ∃ ks, CT1 se ks) (v : Int32) : Ok (f_X13_part md tn v) (fun q => Ok (f_X11_part hk se sb tr now ri v) (fun c => AN hk md c.1 c.2.1 q ∧ ∃ ks, CT1 c.2.2.1 ks)) := by
  obtain ⟨pt, s, hT, hR, hD, hp, _, _, hK, hP, hpa, _, hB⟩ := h
  have h8 := hT.l8
  unfold f_X13_part f_X11_part
  rw [lt1_e, if_neg (show ¬ (HK_there hk = 0) by rw [ht]; decide)]
  rcases b_depth v with ⟨d, hd, rfl, e1, e2⟩ | ⟨e1, e2⟩
  · rw [bd1_e e2, bd1_e e1, if_neg (show ¬ ((1 : Int32) = 0) by decide), if_neg (show ¬ ((1 : Int32) = 0) by decide), gn_parted_thrown, hp, hpa]
    cases pt with
    | none =>
      rw [if_pos (show ptv none = -2 from rfl), if_pos (show ptv none = -2 from rfl)]
      have hU : ∀ l, l < nL tn → PD tn (Md_now md) l (nS tn) (pdU tn (Md_now md) l) ∧ DW tn (some l) (pdU tn (Md_now md) l) := by
        intro l hl
        obtain ⟨q, _, q1, q2, _⟩ := parted_e (md := md) hT hD hl hp
        rw [pdU_e q1]
        exact ⟨q1, q2⟩
      have hv : ∀ i, i < nL tn → VL (pvl tn (Md_lifted md) (Md_now md) d) d i := by
        intro i hi
        obtain ⟨tr3, _, t1, t2, t3, t4⟩ := letGo_e (t := Md_now md) (l := i) hT hR hD.1 hi (mo := now) hK
        obtain ⟨r, _, hr⟩ := grow_e (sb := sb) (pt := some i) (lf := Md_lifted md) hT hR t2 hP t1 hd hS (t4 _ (hU i hi).1) (hU i hi).2
        rcases hr with ⟨r1, r2, r3⟩ | ⟨r1, r2, r3⟩ | ⟨k, L, fr, hk, r1, r2, r3, r4, r5⟩
        · exact Or.inl r2
        · exact Or.inr (Or.inl r2)
        · exact Or.inr (Or.inr ⟨k, hk, r2⟩)
      refine (rpart_L (md0 := Md_thrown' md 0) (lf := Md_lifted md) hT hD hd (gn_now_thrown _ _) ((gn_parted_thrown _ _).trans hp) (gn_lifted_thrown _ _) hv (nL tn) FU 0 _ _ _ _ (by omega) (by rw [FU_e]; omega) (Or.inl ⟨rfl, fun j hj => absurd hj (by omega), rfl, fun b l hb => by cases hb⟩) (Sc.refl _)).mono (fun q hq => ?_)
      obtain ⟨md1, sc1, hq⟩ := hq
      have hc := cpart_L (lf := Md_lifted md) hT hR hd hD.1 hK hP hU hv (nL tn) FU 0 se sb tr (by omega) (by rw [FU_e]; omega) hS (fun j hj => absurd hj (by omega))
      unfold f_X11_bestPart
      rw [Ok_bd4, lt1_e, nI_1]
      refine hc.mono (fun c hc => ?_)
      obtain ⟨c1, c2⟩ := hc
      rcases hq with ⟨⟨j, hj, h9⟩, rfl⟩ | ⟨h9, rfl⟩
      · rcases c2 with ⟨_, c3⟩ | ⟨h9', _⟩
        · rw [c3, if_pos rfl, refuse_t, bd2_e rfl, Ok_some]
          exact ⟨AN.mk (by decide) sc1, c1⟩
        · exact absurd h9 (h9' j hj)
      · rcases c2 with ⟨⟨j, hj, h9'⟩, _⟩ | ⟨_, c3⟩
        · exact absurd h9' (h9 j hj)
        · have hne : ¬ (bq (bst (pvl tn (Md_lifted md) (Md_now md) d) d (nL tn)) = -3) := by
            cases e : bst (pvl tn (Md_lifted md) (Md_now md) d) d (nL tn) with
            | none => decide
            | some w =>
              obtain ⟨b, l⟩ := w
              have := bst_in hd hv _ (Nat.le_refl _) b l e
              exact (nI8 b (by omega)).2.1
          rw [c3, if_neg hne, grant_t, bd2_e rfl, Ok_some]
          exact ⟨AN.mk (by decide) sc1, c1⟩
    | some l =>
      have hl := (hD.2.2.1 l rfl).1
      have hne : ¬ (ptv (some l) = -2) := by show ¬ nI l = -2; rw [nI_neg2 (by omega)]; exact id
      rw [if_neg hne, if_neg hne, refused_t, refuse_t, bd2_e rfl, bd2_e rfl, Ok_some, Ok_some]
      exact ⟨AN.mk (by decide) (Sc.refl _), hS⟩
  · rw [bd1_e e2, bd1_e e1, if_pos rfl, if_pos rfl, refused_t, refuse_t, bd2_e rfl, bd2_e rfl, Ok_some, Ok_some]
    exact ⟨AN.mk (by decide) (Sc.refl _), hS⟩
end PARTF
