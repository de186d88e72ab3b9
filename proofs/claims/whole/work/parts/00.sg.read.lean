/-! reading: both at one token -/
def isW (b : Nat → Nat) (n p w : Nat) : Bool := decide (tkK b n p = 1) && decide (spvL.getD w 0 = lN (tkW b p (tkE b n p - p)))
def wdv (b : Nat → Nat) (n p : Nat) : Int64 := lN (tkW b p (tkE b n p - p))
/-- a name that may be one -/
def isN (b : Nat → Nat) (n p : Nat) : Bool := decide (tkK b n p = 1) && decide (3 < wix (wdv b n p))
/-- the class has the token in sight that the reference looks at -/
def PAt (b : Nat → Nat) (n : Nat) (ps : List Nat) (re : ReS) (md : MdS) (p : Nat) : Prop := ∃ j, Re_token re = nI j ∧ ps[j]? = some p ∧ AT b n p md ∧ RT0 b n md
/-- the class is one token behind -/
def PBf (b : Nat → Nat) (n : Nat) (ps : List Nat) (re : ReS) (md : MdS) (p : Nat) : Prop := ∃ j, Re_token re + 1 = nI j ∧ ps[j]? = some p ∧ AT b n p md ∧ RT0 b n md
def TX (b : Nat → Nat) (n : Nat) (ps : List Nat) (ta : TaS) : Prop := CTK b n ta ps ∧ TKS b n ps ∧ ps.length ≤ 901 ∧ (∀ i, b i < 256) ∧ n ≤ 900
section READ
variable {b : Nat → Nat} {n : Nat} {ps : List Nat} {ta : TaS} {re : ReS} {md : MdS} {p : Nat}
theorem srt_lt (k : Nat) : srt k < 5 := by
  unfold srt
  repeat' split
  all_goals omega
theorem AT.n5 (h : AT b n p md) : ¬ Md_sort md = 5 := by
  rw [h.2.1]
  have := srt_lt (tkK b n p)
  exact fun e => absurd (nI_inj (b := 5) e (by omega) (by omega)) (by omega)
theorem adv_e (hX : TX b n ps ta) (h : PBf b n ps re md p) : Ok (f_X5_advance re ta) (fun re' => PAt b n ps re' md p ∧ Re_taken re' = Re_taken re ∧ Re_name re' = Re_name re ∧ Re_fault re' = Re_fault re ∧ Re_place re' = Re_place re) := by
  obtain ⟨j, h1, h2, h3, h4⟩ := h
  have hj : j < ps.length := (List.getElem?_eq_some_iff.mp h2).1
  have hl := hX.2.2.1
  unfold f_X5_advance
  have hc : ¬ (Ta_count ta - 1 ≤ Re_token re) := by
    rw [hX.1.1]
    have e : Re_token re = nI j - 1 := by rw [← h1]; exact (Int32.add_sub_cancel _ _).symm
    rw [e, show ps.length = (ps.length - 1) + 1 by omega, nI_pred]
    cases j with
    | zero =>
      have e0 : nI 0 - 1 = (-1 : Int32) := by decide
      rw [e0, Int32.le_iff_toInt_le, nI_toInt (by omega)]
      have e2 : (-1 : Int32).toInt = -1 := by decide
      omega
    | succ j => rw [nI_pred]; exact nI_ge (by omega) (by omega)
  rw [if_neg hc, lt1_e, Ok_some, h1]
  exact ⟨⟨j, rfl, h2, h3, h4⟩, rfl, rfl, rfl, rfl⟩
theorem step_e (hX : TX b n ps ta) (h : PAt b n ps re md p) (hk : 1 ≤ tkK b n p) (hk3 : tkK b n p ≤ 3) : Ok (f_X13_goesOn md) (fun md' => Pm md md' ∧ ∃ q, PBf b n ps re md' q) := by
  obtain ⟨j, h1, h2, h3, h4⟩ := h
  have hj : j < ps.length := (List.getElem?_eq_some_iff.mp h2).1
  obtain ⟨t1, t2⟩ := hX.2.1.2 j p h2
  obtain ⟨t3, t4⟩ := t2 hk hk3
  refine (go_e hX.2.2.2.1 h3.n5 t3 h4 (h3.2.2.2.2 hk hk3)).mono (fun md' h => ⟨h.1, _, j + 1, ?_, t4, h.2, h4.pm h.1⟩)
  rw [h1, nI_1]
theorem ckT (hX : TX b n ps ta) (h : PAt b n ps re md p) {α : Type} {K : Option α} : ∃ j, Re_token re = nI j ∧ ps[j]? = some p ∧ j < 901 ∧ ck (Re_token re) 901 K = K := by
  obtain ⟨j, h1, h2, h3, h4⟩ := h
  have hj : j < ps.length := (List.getElem?_eq_some_iff.mp h2).1
  have hl := hX.2.2.1
  exact ⟨j, h1, h2, by omega, by rw [h1]; exact ckI (by omega) (by decide)⟩
theorem kind_e2 (hX : TX b n ps ta) (h : PAt b n ps re md p) : f_X5_kind re ta = some (nI (tkK b n p)) := by
  unfold f_X5_kind
  obtain ⟨j, h1, h2, h3, h4⟩ := ckT hX h (K := some (Ta_kinds ta (Int32.toNatClampNeg (Re_token re))))
  rw [h4, h1, nI_clamp (by omega), (hX.1.2 j p h2).2.1]
theorem isWord_c (hX : TX b n ps ta) (h : PAt b n ps re md p) {w : Nat} (hw : w < 11) : f_X5_isWord re ta (nI w) = some (bI (isW b n p w)) := by
  unfold f_X5_isWord
  obtain ⟨j, h1, h2, h3, _⟩ := ckT hX h (K := (none : Option Int32))
  have h4 := tkK_le b n p
  obtain ⟨c1, c2, c3, c4⟩ := hX.1.2 j p h2
  rw [h1, ckI h3 (by decide), nI_clamp (by omega), c2]
  unfold isW
  by_cases c : tkK b n p = 1
  · have hle := wix_le (lN (tkW b p (tkE b n p - p)))
    rw [if_pos (by rw [c]; rfl), ckI h3 (by decide), (c3 c).2]
    by_cases d : wix (lN (tkW b p (tkE b n p - p))) = w
    · rw [if_pos (by rw [d]), decide_eq_true c, decide_eq_true ((wix_iff hw).mp d)]; rfl
    · rw [if_neg (fun e => d (nI_inj e (by omega) (by omega))), decide_eq_false (fun e => d ((wix_iff hw).mpr e)), Bool.and_false]; rfl
  · rw [if_neg (show ¬ (nI (tkK b n p) = 1) from fun e => c (nI_inj (b := 1) e (by omega) (by omega))), decide_eq_false c, Bool.false_and]; rfl
theorem isWord_r (h : AT b n p md) {k w : Nat} (hkw : f_X13_wordOf k = some (spvL.getD w 0)) : f_X13_isWord md k = some (bI (isW b n p w)) := by
  unfold f_X13_isWord
  have h4 := tkK_le b n p
  have hs : Md_sort md = 2 ↔ tkK b n p = 1 := by
    rw [h.2.1]
    unfold srt
    repeat' split
    all_goals constructor
    all_goals intro e
    all_goals first
      | omega
      | exact absurd e (by decide)
      | rfl
  unfold isW
  by_cases c : tkK b n p = 1
  · rw [if_pos (hs.mpr c), bd1_e hkw, h.2.2.1 c, decide_eq_true c, Bool.true_and]
    by_cases d : spvL.getD w 0 = lN (tkW b p (tkE b n p - p))
    · rw [if_pos (lg0.mpr d.symm), decide_eq_true d]; rfl
    · rw [if_neg (fun e => d (lg0.mp e).symm), decide_eq_false d]; rfl
  · rw [if_neg (fun e => c (hs.mp e)), decide_eq_false c, Bool.false_and]; rfl
theorem wo_tangle : f_X13_wordOf 12 = some (spvL.getD 0 0) := by decide +kernel
theorem wo_tall : f_X13_wordOf 13 = some (spvL.getD 4 0) := by decide +kernel
theorem wo_once : f_X13_wordOf 14 = some (spvL.getD 5 0) := by decide +kernel
theorem wo_person : f_X13_wordOf 15 = some (spvL.getD 1 0) := by decide +kernel
theorem wo_hold : f_X13_wordOf 16 = some (spvL.getD 2 0) := by decide +kernel
theorem wo_cross : f_X13_wordOf 17 = some (spvL.getD 3 0) := by decide +kernel
theorem wo_right : f_X13_wordOf 18 = some (spvL.getD 7 0) := by decide +kernel
theorem wo_left : f_X13_wordOf 19 = some (spvL.getD 6 0) := by decide +kernel
theorem wo_over : f_X13_wordOf 20 = some (spvL.getD 8 0) := by decide +kernel
theorem wo_minus : f_X13_wordOf 21 = some (spvL.getD 10 0) := by decide +kernel
theorem wo_plus : f_X13_wordOf 22 = some (spvL.getD 9 0) := by decide +kernel
theorem isName_r (h : AT b n p md) : f_X13_isName md = some (bI (isN b n p)) := by
  unfold f_X13_isName
  have h4 := tkK_le b n p
  have hs : Md_sort md = 2 ↔ tkK b n p = 1 := by
    rw [h.2.1]
    unfold srt
    repeat' split
    all_goals constructor
    all_goals intro e
    all_goals first
      | omega
      | exact absurd e (by decide)
      | rfl
  rw [bd1_e (isWord_r h wo_tangle), bd1_e (isWord_r h wo_person), bd1_e (isWord_r h wo_hold), bd1_e (isWord_r h wo_cross)]
  unfold isN wdv
  by_cases c : tkK b n p = 1
  · rw [if_pos (hs.mpr c), decide_eq_true c, Bool.true_and]
    have e0 := wix_iff (w := lN (tkW b p (tkE b n p - p))) (q := 0) (by omega)
    have e1 := wix_iff (w := lN (tkW b p (tkE b n p - p))) (q := 1) (by omega)
    have e2 := wix_iff (w := lN (tkW b p (tkE b n p - p))) (q := 2) (by omega)
    have e3 := wix_iff (w := lN (tkW b p (tkE b n p - p))) (q := 3) (by omega)
    unfold isW
    rw [decide_eq_true c]
    simp only [Bool.true_and]
    by_cases d0 : wix (lN (tkW b p (tkE b n p - p))) = 0
    · rw [decide_eq_true (e0.mp d0), if_neg (show ¬ (bI true = 0) by decide), decide_eq_false (by omega)]; rfl
    · rw [decide_eq_false (fun e => d0 (e0.mpr e)), if_pos (show bI false = 0 from rfl)]
      by_cases d1 : wix (lN (tkW b p (tkE b n p - p))) = 1
      · rw [decide_eq_true (e1.mp d1), if_neg (show ¬ (bI true = 0) by decide), decide_eq_false (by omega)]; rfl
      · rw [decide_eq_false (fun e => d1 (e1.mpr e)), if_pos (show bI false = 0 from rfl)]
        by_cases d2 : wix (lN (tkW b p (tkE b n p - p))) = 2
        · rw [decide_eq_true (e2.mp d2), if_neg (show ¬ (bI true = 0) by decide), decide_eq_false (by omega)]; rfl
        · rw [decide_eq_false (fun e => d2 (e2.mpr e)), if_pos (show bI false = 0 from rfl)]
          by_cases d3 : wix (lN (tkW b p (tkE b n p - p))) = 3
          · rw [decide_eq_true (e3.mp d3), if_neg (show ¬ (bI true = 0) by decide), decide_eq_false (by omega)]; rfl
          · rw [decide_eq_false (fun e => d3 (e3.mpr e)), if_pos (show bI false = 0 from rfl), decide_eq_true (by omega)]; rfl
  · rw [if_neg (fun e => c (hs.mp e)), decide_eq_false c, Bool.false_and]; rfl
/-- a fault told: the class's words of it, and the reference's -/
def FLc (re : ReS) (k p : Nat) : Prop := Re_fault re = nI k ∧ Re_place re = nI p
def OVR (md0 md : MdS) (k p : Nat) : Prop := Md_sort md = 5 ∧ Md_fault md = nI k ∧ Md_wrongAt md = nI p ∧ Sc (Md_fault' md0 (nI k)) md
theorem faulty_e (hX : TX b n ps ta) (h : PAt b n ps re md p) (k : Nat) : Ok (f_X5_isFaulty re ta (nI k)) (fun q => q.1 = 0 ∧ FLc q.2 k p) := by
  obtain ⟨j, h1, h2, h3, _⟩ := ckT hX h (K := (none : Option Int32))
  unfold f_X5_isFaulty
  rw [lt1_e, show Re_token (Re_fault' re (nI k)) = nI j from h1, ckI h3 (by decide), lt1_e, Ok_some, nI_clamp (by omega), (hX.1.2 j p h2).1]
  exact ⟨rfl, rfl, rfl⟩
theorem flaw_e {md0 : MdS} (h : AT b n p md) (hsc : Sc md0 md) (k : Nat) : Ok (f_X13_flaw md (nI k)) (fun md' => OVR md0 md' k p) := by
  unfold f_X13_flaw
  rw [if_neg h.n5, lt1_e, lt1_e, lt1_e, Ok_some]
  refine ⟨rfl, rfl, h.1, ?_⟩
  have e : Sc (Md_fault' md0 (nI k)) (Md_fault' md (nI k)) := by
    unfold Sc score
    simp only [GW_fault, hsc.thrown, hsc.trouble, hsc.where, hsc.tape, hsc.taped, hsc.now, hsc.parted, hsc.lifted, hsc.seed, hsc.pastNow, hsc.keptNow, hsc.pastParted, hsc.pastSeed, hsc.pastLifted, hsc.keptParted, hsc.keptSeed, hsc.keptLifted, hsc.acts, hsc.marks]
  exact (e.trans (Sc.u_wrongAt _ _)).trans (Sc.u_sort _ _)
theorem OVR.sort {md0 : MdS} {k p : Nat} (h : OVR md0 md k p) : Md_sort md = 5 := h.1
theorem ov_goes (h : Md_sort md = 5) : f_X13_goesOn md = some md := by unfold f_X13_goesOn; rw [if_pos h]
theorem ov_flaw (h : Md_sort md = 5) (k : Int32) : f_X13_flaw md k = some md := by unfold f_X13_flaw; rw [if_pos h]
theorem ov_isWord (h : Md_sort md = 5) (k : Nat) : f_X13_isWord md k = some 0 := by unfold f_X13_isWord; rw [if_neg (by rw [h]; decide)]
theorem ov_isName (h : Md_sort md = 5) : f_X13_isName md = some 0 := by unfold f_X13_isName; rw [if_neg (by rw [h]; decide)]
theorem ov_needs (h : Md_sort md = 5) (k : Nat) : f_X13_needs md k = some md := by
  unfold f_X13_needs f_X13_needs_L13
  rw [bd1_e (ov_isWord h k), if_pos rfl, bd1_e (ov_flaw h 1), bd1_e (ov_goes h)]
theorem ov_bounded (h : Md_sort md = 5) (lo hi : Int32) : f_X13_bounded md lo hi = some (lo, md) := by
  unfold f_X13_bounded f_X13_bounded_L33
  rw [if_neg (by rw [h]; decide), bd1_e (ov_flaw h 1), if_pos h]
theorem ov_part (h : Md_sort md = 5) (k : Nat) (lo hi : Int32) : f_X13_readPart md k lo hi = some (lo, md) := by
  unfold f_X13_readPart
  rw [bd1_e (ov_needs h k), bd2_e (ov_bounded h lo hi), bd1_e (ov_goes h)]
theorem ov_eatsWord (h : Md_sort md = 5) (k : Nat) : f_X13_eatsWord md k = some (0, md) := by
  unfold f_X13_eatsWord
  rw [bd1_e (ov_isWord h k), if_pos rfl, zb_i (Or.inl rfl)]
theorem ov_semi (h : Md_sort md = 5) : f_X13_eatsSemicolon md = some (0, md) := by
  unfold f_X13_eatsSemicolon f_X13_eatsSemicolon_L13
  rw [if_neg (by rw [h]; decide), if_pos rfl, zb_i (Or.inl rfl)]
end READ
