section TAKES
variable {b : Nat → Nat} {n : Nat} {ps : List Nat} {ta : TaS} {re : ReS} {md md0 : MdS} {p : Nat} {to : ToS} {rd : TnS} {P L X : Nat}
def GOOD (b : Nat → Nat) (n : Nat) (ps : List Nat) (re : ReS) (md md' : MdS) : Prop := (∃ q, PBf b n ps re md' q) ∧ Pm md md'
def BADQ (md0 : MdS) (re : ReS) (md : MdS) : Prop := ∃ k p, 1 ≤ k ∧ k ≤ 6 ∧ p ≤ 900 ∧ FLc re k p ∧ OVR md0 md k p
theorem PAt.p9 (hX : TX b n ps ta) (h : PAt b n ps re md p) : p ≤ 900 := by
  obtain ⟨j, h1, h2, h3, h4⟩ := h
  have := (hX.2.1.2 j p h2).1
  have := hX.2.2.2.2
  omega
theorem PAt.at (h : PAt b n ps re md p) : AT b n p md := by
  obtain ⟨j, h1, h2, h3, h4⟩ := h
  exact h3
theorem PAt.rr {re' : ReS} (h : PAt b n ps re md p) (e : Re_token re' = Re_token re) : PAt b n ps re' md p := by
  obtain ⟨j, h1, h2, h3, h4⟩ := h
  exact ⟨j, e.trans h1, h2, h3, h4⟩
theorem PBf.at (h : PBf b n ps re md p) : AT b n p md := by
  obtain ⟨j, h1, h2, h3, h4⟩ := h
  exact h3
/-- both tell a fault -/
theorem bad_e (hX : TX b n ps ta) (h : PAt b n ps re md p) (hsc : Sc md0 md) (kk : Int32) {k : Nat} (e : kk = nI k) (h1 : 1 ≤ k) (h6 : k ≤ 6) : Ok (f_X13_flaw md kk) (fun md' => Ok (f_X5_isFaulty re ta kk) (fun c => c.1 = 0 ∧ BADQ md0 c.2 md')) := by
  subst e
  exact (flaw_e h.at hsc k).mono (fun _ h2 => (faulty_e hX h k).mono (fun _ h3 => ⟨h3.1, k, p, h1, h6, h.p9 hX, h3.2, h2⟩))
theorem isW_k {w : Nat} (h : isW b n p w = true) : tkK b n p = 1 := by unfold isW at h; simp at h; exact h.1
theorem isN_k (h : isN b n p = true) : tkK b n p = 1 := by unfold isN at h; simp at h; exact h.1
theorem needs_c (hX : TX b n ps ta) (h : PBf b n ps re md p) (hsc : Sc md0 md) {k w : Nat} (hw : w < 11) (hkw : f_X13_wordOf k = some (spvL.getD w 0)) :
    Ok (f_X13_needs md k) (fun md' => Ok (f_X5_takesWord re ta (nI w)) (fun c => (c.1 = 1 ∧ GOOD b n ps c.2 md md' ∧ Re_name c.2 = Re_name re ∧ Re_taken c.2 = Re_taken re) ∨ (c.1 = 0 ∧ BADQ md0 c.2 md'))) := by
  obtain ⟨re1, a0, a1, a2, a3, a4⟩ := adv_e hX h
  unfold f_X13_needs f_X5_takesWord f_X13_needs_L13
  rw [bd1_e (isWord_r h.at hkw), bd1_e a0, bd1_e (isWord_c hX a1 hw)]
  cases c : isW b n p w with
  | true =>
    have hk := isW_k c
    rw [if_neg (show ¬ (bI true = 0) by decide), if_neg (show ¬ (bI true = 0) by decide), Ok_bd1]
    refine (step_e hX a1 (by omega) (by omega)).mono (fun md' h1 => ?_)
    rw [Ok_some, Ok_some]
    exact Or.inl ⟨rfl, ⟨h1.2, h1.1⟩, a3, a2⟩
  | false =>
    rw [if_pos (show bI false = 0 from rfl), if_pos (show bI false = 0 from rfl), Ok_bd1]
    refine (bad_e hX a1 hsc 1 (k := 1) rfl (by omega) (by omega)).mono (fun md' h1 => ?_)
    obtain ⟨c, c0, c1, c2⟩ := h1
    have h5 : Md_sort md' = 5 := by obtain ⟨_, _, _, _, _, _, h⟩ := c2; exact h.1
    rw [bd1_e (ov_goes h5), Ok_some, bd2_e (a := c.1) (b := c.2) c0, c1, if_pos rfl, Ok_some]
    exact Or.inr ⟨rfl, c2⟩
theorem BADQ.s5 {re : ReS} {md : MdS} (h : BADQ md0 re md) : Md_sort md = 5 := by obtain ⟨_, _, _, _, _, _, h⟩ := h; exact h.1
theorem tkN_lt (h : ∀ i, b i < 256) {p : Nat} : ∀ k, k ≤ 3 → (∀ j, j < k → isD b (p + j) = true) → tkN b p k < 10 ^ k := by
  intro k
  induction k with
  | zero => intro _ _; exact Nat.one_pos
  | succ k ih =>
    intro hk3 hk
    have h1 := ih (by omega) (fun j hj => hk j (by omega))
    have h2 := isD_b (hk k (by omega))
    rw [tkN, Nat.pow_succ]
    omega
theorem tkN_b (hb : ∀ i, b i < 256) (hk : tkK b n p = 2) : tkN b p (tkE b n p - p) < 1000 := by
  have hp := tkK_n (b := b) (n := n) (p := p) (by omega)
  have hl : isL b p = false := by
    cases e : isL b p with
    | false => rfl
    | true => unfold tkK at hk; rw [if_neg (by omega), if_pos e] at hk; split at hk <;> omega
  have hd : isD b p = true := by
    cases e : isD b p with
    | true => rfl
    | false => unfold tkK at hk; rw [if_neg (by omega), if_neg (by rw [hl]; decide), if_neg (by rw [e]; decide)] at hk; split at hk <;> omega
  have eE : tkE b n p = rn (isD b) n p := by unfold tkE; rw [if_neg (by rw [hl]; decide), if_pos hd]
  have h3 : tkE b n p - p ≤ 3 := by
    unfold tkK at hk
    rw [if_neg (by omega), if_neg (by rw [hl]; decide), if_pos hd] at hk
    split at hk
    · assumption
    · omega
  have hge : p ≤ rn (isD b) n p := rn_ge (by omega)
  have := tkN_lt (b := b) hb (p := p) (tkE b n p - p) h3 (fun j hj => rn_in (P := isD b) (n := n) (s := p) (by omega) (by omega) (by rw [← eE]; omega))
  have h10 : 10 ^ (tkE b n p - p) ≤ 10 ^ 3 := Nat.pow_le_pow_right (by decide) h3
  omega
theorem AT.s3 (h : AT b n p md) : Md_sort md = 3 ↔ tkK b n p = 2 := by
  have h4 := tkK_le b n p
  rw [h.2.1]
  unfold srt
  repeat' split
  all_goals constructor
  all_goals intro e
  all_goals first
    | omega
    | exact absurd e (by decide)
    | rfl
theorem bounded_c (hX : TX b n ps ta) (h : PBf b n ps re md p) (hsc : Sc md0 md) {lo hi : Nat} (hlo : lo ≤ hi) (hhi : hi < 1000) :
    Ok (f_X13_bounded md (nI lo) (nI hi)) (fun r => Ok (f_X5_takesWhole re ta (nI lo) (nI hi)) (fun c => (c.1 = 1 ∧ (∃ v, lo ≤ v ∧ v ≤ hi ∧ r.1 = nI v ∧ Re_taken c.2 = nI v) ∧ r.2 = md ∧ PAt b n ps c.2 md p ∧ tkK b n p = 2 ∧ Re_name c.2 = Re_name re) ∨ (c.1 = 0 ∧ BADQ md0 c.2 r.2 ∧ r.1 = nI lo))) := by
  obtain ⟨re1, a0, a1, a2, a3, a4⟩ := adv_e hX h
  have h4 := tkK_le b n p
  obtain ⟨j, j1, j2, j3, _⟩ := ckT hX a1 (K := (none : Option Int32))
  unfold f_X13_bounded f_X5_takesWhole
  rw [bd1_e a0, bd1_e (kind_e2 hX a1)]
  by_cases c : tkK b n p = 2
  · have hv := tkN_b hX.2.2.2.1 c
    have hval := (hX.1.2 j p j2).2.2.2 c
    rw [if_pos (h.at.s3.mpr c), if_pos (by rw [c]; rfl), j1, ckI j3 (by decide), nI_clamp (by omega), hval, lt1_e, h.at.2.2.2.1 c]
    have a1' : PAt b n ps (Re_taken' re1 (nI (tkN b p (tkE b n p - p)))) md p := a1.rr rfl
    unfold f_X13_in f_X5_takesWhole_L50 f_X13_bounded_L33
    rw [show Re_taken (Re_taken' re1 (nI (tkN b p (tkE b n p - p)))) = nI (tkN b p (tkE b n p - p)) from rfl]
    have bad : Ok (bd1 (f_X13_flaw md (4 : Int32)) fun md_2 => if Md_sort md_2 = 5 then some (nI lo, md_2) else some (Md_number md_2, md_2)) (fun r => Ok (bd2 (f_X5_isFaulty (Re_taken' re1 (nI (tkN b p (tkE b n p - p)))) ta (4 : Int32)) fun r_6 re_7 => if r_6 = 0 then some ((0 : Int32), re_7) else some ((1 : Int32), re_7)) (fun c => (c.1 = 1 ∧ (∃ v, lo ≤ v ∧ v ≤ hi ∧ r.1 = nI v ∧ Re_taken c.2 = nI v) ∧ r.2 = md ∧ PAt b n ps c.2 md p ∧ tkK b n p = 2 ∧ Re_name c.2 = Re_name re) ∨ (c.1 = 0 ∧ BADQ md0 c.2 r.2 ∧ r.1 = nI lo))) := by
      rw [Ok_bd1]
      refine (bad_e hX a1' hsc 4 (k := 4) rfl (by omega) (by omega)).mono (fun md' h1 => ?_)
      obtain ⟨c, c0, c1, c2⟩ := h1
      rw [if_pos c2.s5, Ok_some, bd2_e (a := c.1) (b := c.2) c0, c1, if_pos rfl, Ok_some]
      exact Or.inr ⟨rfl, c2, rfl⟩
    by_cases d : tkN b p (tkE b n p - p) < lo
    · rw [if_pos (nI_lt d (by omega)), if_pos (nI_lt d (by omega)), bd1_e rfl, if_pos rfl]
      exact bad
    · have d' : ¬ (nI (tkN b p (tkE b n p - p)) < nI lo) := nI_nlt (by omega) (by omega)
      rw [if_neg d', if_neg d']
      by_cases g : tkN b p (tkE b n p - p) ≤ hi
      · rw [if_neg (show ¬ (nI hi < nI (tkN b p (tkE b n p - p))) from nI_nlt g (by omega)), if_pos (nI_le g (by omega)), bd1_e rfl, if_neg (show ¬ ((1 : Int32) = 0) by decide), if_neg h.at.n5, Ok_some, Ok_some, h.at.2.2.2.1 c]
        exact Or.inl ⟨rfl, ⟨_, by omega, g, rfl, rfl⟩, rfl, a1', c, a3⟩
      · rw [if_pos (show nI hi < nI (tkN b p (tkE b n p - p)) from nI_lt (by omega) (by omega)), if_neg (show ¬ (nI (tkN b p (tkE b n p - p)) ≤ nI hi) from nI_ge (by omega) (by omega)), bd1_e rfl, if_pos rfl]
        exact bad
  · rw [if_neg (fun e => c (h.at.s3.mp e)), if_neg (show ¬ (nI (tkK b n p) = 2) from fun e => c (nI_inj (b := 2) e (by omega) (by omega))), Ok_bd1]
    unfold f_X13_bounded_L33
    refine (bad_e hX a1 hsc 1 (k := 1) rfl (by omega) (by omega)).mono (fun md' h1 => ?_)
    obtain ⟨c, c0, c1, c2⟩ := h1
    rw [if_pos c2.s5, Ok_some, bd2_e (a := c.1) (b := c.2) c0, c1, zb_i (Or.inl rfl), Ok_some]
    exact Or.inr ⟨rfl, c2, rfl⟩
/-- the class takes a name -/
theorem name_c (hX : TX b n ps ta) (h : PBf b n ps re md p) : Ok (f_X5_advance re ta) (fun re1 => PAt b n ps (Re_name' re1 (Ta_spellings ta (Int32.toNatClampNeg (Re_token re1)))) md p ∧ Re_taken re1 = Re_taken re ∧
    f_X5_takesName re ta = (if isN b n p = true then some (1, Re_name' re1 (Ta_spellings ta (Int32.toNatClampNeg (Re_token re1)))) else f_X5_takesName_L44 (Re_name' re1 (Ta_spellings ta (Int32.toNatClampNeg (Re_token re1)))) ta) ∧
    (isN b n p = true → Ta_spellings ta (Int32.toNatClampNeg (Re_token re1)) = Md_word md)) := by
  obtain ⟨re1, a0, a1, a2, a3, a4⟩ := adv_e hX h
  have h4 := tkK_le b n p
  obtain ⟨j, j1, j2, j3, _⟩ := ckT hX a1 (K := (none : Option Int32))
  refine ⟨re1, a0, a1.rr rfl, a2, ?_, ?_⟩
  · unfold f_X5_takesName
    have a1' : PAt b n ps (Re_name' re1 (Ta_spellings ta (Int32.toNatClampNeg (Re_token re1)))) md p := a1.rr rfl
    rw [bd1_e a0, j1, ckI j3 (by decide), lt1_e, ← j1, bd1_e (kind_e2 hX a1'), show Re_token (Re_name' re1 (Ta_spellings ta (Int32.toNatClampNeg (Re_token re1)))) = nI j from j1]
    unfold isN wdv
    by_cases c : tkK b n p = 1
    · have hval := ((hX.1.2 j p j2).2.2.1 c).2
      have hle := wix_le (lN (tkW b p (tkE b n p - p)))
      rw [if_pos (by rw [c]; rfl), ckI j3 (by decide), nI_clamp (by omega), hval, decide_eq_true c, Bool.true_and]
      by_cases d : 3 < wix (lN (tkW b p (tkE b n p - p)))
      · have q : nI 3 < nI (wix (lN (tkW b p (tkE b n p - p)))) := nI_lt d (by omega)
        rw [if_pos (show (3 : Int32) < nI (wix (lN (tkW b p (tkE b n p - p)))) from q), if_pos (decide_eq_true d)]
      · have q : ¬ (nI 3 < nI (wix (lN (tkW b p (tkE b n p - p))))) := nI_nlt (by omega) (by omega)
        rw [if_neg (show ¬ ((3 : Int32) < nI (wix (lN (tkW b p (tkE b n p - p))))) from q), if_neg (by rw [decide_eq_false d]; decide)]
    · rw [if_neg (show ¬ (nI (tkK b n p) = 1) from fun e => c (nI_inj (b := 1) e (by omega) (by omega))), decide_eq_false c, Bool.false_and, if_neg (by decide)]
  · intro hN
    have c := isN_k hN
    rw [j1, nI_clamp (by omega), ((hX.1.2 j p j2).2.2.1 c).1, h.at.2.2.1 c]
theorem ov_known (hT : TB to rd P L X) (h : Md_sort md = 5) (s : Int32) : f_X13_known md rd s = some (0, md) := by
  have hn := hT.1
  unfold f_X13_known f_X13_known_L12 f_X13_known_L42 f_X13_known_L47
  rw [bd1_e (ov_isName h), if_pos rfl, bd1_e (ov_flaw h 1)]
  rcases find_e hn.2.2.2.2.2.2.2 (by have := hn.1; omega) (Md_word md) with ⟨k, hk, e1, e2⟩ | ⟨h1, h2⟩
  · rw [bd1_e e2, if_neg (by rw [nI_neg1 (by have := hn.1; omega)]; exact id), ckI (by have := hn.1; omega) (by decide), bd1_e (ov_flaw h 2), if_pos h, ite_self]
  · rw [bd1_e h2, if_pos rfl, bd1_e (ov_flaw h 2), if_pos h]
theorem ov_fresh (hT : TB to rd P L X) (h : Md_sort md = 5) : f_X13_readFresh md rd = some (Md_word md, md) := by
  have hn := hT.1
  unfold f_X13_readFresh f_X13_readFresh_L12 f_X13_readFresh_L32
  rw [bd1_e (ov_isName h), if_pos rfl, bd1_e (ov_flaw h 1)]
  rcases find_e hn.2.2.2.2.2.2.2 (by have := hn.1; omega) (Md_word md) with ⟨k, hk, e1, e2⟩ | ⟨h1, h2⟩
  · rw [bd1_e e2, if_neg (by rw [nI_neg1 (by have := hn.1; omega)]; exact id), bd1_e (ov_flaw h 3), lt1_e, bd1_e (ov_goes h)]
  · rw [bd1_e h2, if_pos rfl, lt1_e, bd1_e (ov_goes h)]
theorem ov_hand (h : Md_sort md = 5) (q : Int32) : f_X13_readHand md rd q = some (0, md) := by
  unfold f_X13_readHand f_X13_readHand_L25 f_X13_readHand_L34 f_X13_readHand_L65
  rw [bd1_e (ov_isWord h 18), if_pos rfl, bd1_e (ov_isWord h 19), if_pos rfl, bd1_e (ov_flaw h 1), if_pos rfl, if_pos h, bd1_e (ov_goes h)]
theorem ov_place (h : Md_sort md = 5) (l u : Int32) : f_X13_readPlace md rd l u = some (1, md) := by
  unfold f_X13_readPlace f_X13_readPlace_L43
  rw [bd2_e (ov_bounded h 1 9), if_pos h, bd1_e (ov_goes h)]
end TAKES
