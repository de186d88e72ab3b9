section TAKES2
variable {b : Nat → Nat} {n : Nat} {ps : List Nat} {ta : TaS} {re : ReS} {md md0 : MdS} {p : Nat} {to : ToS} {rd : TnS} {P L X : Nat}
theorem ov_fresh12 (hT : TB to rd P L X) (h : Md_sort md = 5) : f_X13_readFresh_L12 md rd = some (Md_word md, md) := by
  have hn := hT.1
  unfold f_X13_readFresh_L12 f_X13_readFresh_L32
  rcases find_e hn.2.2.2.2.2.2.2 (by have := hn.1; omega) (Md_word md) with ⟨k, hk, e1, e2⟩ | ⟨h1, h2⟩
  · rw [bd1_e e2, if_neg (by rw [nI_neg1 (by have := hn.1; omega)]; exact id), bd1_e (ov_flaw h 3), lt1_e, bd1_e (ov_goes h)]
  · rw [bd1_e h2, if_pos rfl, lt1_e, bd1_e (ov_goes h)]
theorem ov_known12 (hT : TB to rd P L X) (h : Md_sort md = 5) (s : Int32) : f_X13_known_L12 s md rd = some (0, md) := by
  have hn := hT.1
  unfold f_X13_known_L12 f_X13_known_L42 f_X13_known_L47
  rcases find_e hn.2.2.2.2.2.2.2 (by have := hn.1; omega) (Md_word md) with ⟨k, hk, e1, e2⟩ | ⟨h1, h2⟩
  · rw [bd1_e e2, if_neg (by rw [nI_neg1 (by have := hn.1; omega)]; exact id), ckI (by have := hn.1; omega) (by decide), bd1_e (ov_flaw h 2), if_pos h, ite_self]
  · rw [bd1_e h2, if_pos rfl, bd1_e (ov_flaw h 2), if_pos h]
theorem name_c2 (hX : TX b n ps ta) (h : PBf b n ps re md p) : ∃ re2, PAt b n ps re2 md p ∧ Re_taken re2 = Re_taken re ∧ f_X5_takesName re ta = (if isN b n p = true then some (1, re2) else f_X5_takesName_L44 re2 ta) ∧ (isN b n p = true → Re_name re2 = Md_word md) := by
  obtain ⟨re1, a0, a1, a2, a3, a4⟩ := name_c hX h
  exact ⟨_, a1, a2, a3, a4⟩
theorem fresh_c (hX : TX b n ps ta) (hT : TB to rd P L X) (h : PBf b n ps re md p) (hsc : Sc md0 md) :
    Ok (f_X13_readFresh md rd) (fun r => Ok (f_X5_takesNewName re ta to) (fun c => (c.1 = 1 ∧ Re_name c.2 = r.1 ∧ GOOD b n ps c.2 md r.2 ∧ ∀ k, k < P + L → Tn_name rd k ≠ r.1) ∨ (c.1 = 0 ∧ BADQ md0 c.2 r.2))) := by
  obtain ⟨re2, a1, a2, a3, a4⟩ := name_c2 hX h
  have hn8 := hT.1.1
  unfold f_X13_readFresh f_X5_takesNewName
  rw [bd1_e (isName_r h.at), a3]
  cases c : isN b n p with
  | true =>
    have hk := isN_k c
    rw [if_neg (show ¬ (bI true = 0) by decide), if_pos rfl, bd2_e rfl, if_neg (show ¬ ((1 : Int32) = 0) by decide), a4 c]
    unfold f_X13_readFresh_L12 f_X5_takesNewName_L39 f_X5_takesNewName_L44 f_X13_readFresh_L32
    have again : Ok (bd1 (f_X13_flaw md 3) fun md_4 => lt1 (Md_word md_4) fun v_5 => bd1 (f_X13_goesOn md_4) fun md_6 => some (v_5, md_6)) (fun r => Ok (if (1 : Int32) = 0 then some ((1 : Int32), re2) else bd2 (f_X5_isFaulty re2 ta 3) fun r_5 re_6 => if r_5 = 0 then some ((0 : Int32), re_6) else some ((1 : Int32), re_6)) (fun c => (c.1 = 1 ∧ Re_name c.2 = r.1 ∧ GOOD b n ps c.2 md r.2 ∧ ∀ k, k < P + L → Tn_name rd k ≠ r.1) ∨ (c.1 = 0 ∧ BADQ md0 c.2 r.2))) := by
      rw [Ok_bd1]
      refine (bad_e hX a1 hsc 3 (k := 3) rfl (by omega) (by omega)).mono (fun md' h1 => ?_)
      obtain ⟨c, c0, c1, c2⟩ := h1
      rw [lt1_e, bd1_e (ov_goes c2.s5), Ok_some, if_neg (show ¬ ((1 : Int32) = 0) by decide), bd2_e (a := c.1) (b := c.2) c0, c1, if_pos rfl, Ok_some]
      exact Or.inr ⟨rfl, c2⟩
    rcases hT.names (Md_word md) with ⟨f1, f2, f3, f4⟩ | ⟨k, q, hk2, hq, f1, f2, f3, f4, f5⟩ | ⟨k, q, hk2, hq, f1, f2, f3, f4, f5⟩
    · rw [bd1_e f1, if_pos rfl, lt1_e, Ok_bd1]
      refine (step_e hX a1 (by omega) (by omega)).mono (fun md' h1 => ?_)
      rw [Ok_some, bd1_e f2, if_pos rfl, bd1_e f3, if_pos rfl, if_pos rfl, Ok_some]
      exact Or.inl ⟨rfl, a4 c, ⟨h1.2, h1.1⟩, f4⟩
    · rw [bd1_e f1, if_neg (by rw [nI_neg1 (by omega)]; exact id), bd1_e f4, if_neg (by rw [nI_neg1 (by omega)]; exact id)]
      exact again
    · rw [bd1_e f1, if_neg (by rw [nI_neg1 (by omega)]; exact id), bd1_e f4, if_pos rfl, bd1_e f5, if_neg (by rw [nI_neg1 (by omega)]; exact id)]
      exact again
  | false =>
    rw [if_pos (show bI false = 0 from rfl), if_neg (show ¬ (false = true) by decide), Ok_bd1]
    refine (bad_e hX a1 hsc 1 (k := 1) rfl (by omega) (by omega)).mono (fun md' h1 => ?_)
    obtain ⟨c, c0, c1, c2⟩ := h1
    unfold f_X5_takesName_L44
    rw [ov_fresh12 hT c2.s5, Ok_some, Ok_bd2, Ok_bd2, Ok_eq c0, c1, if_pos rfl, Ok_some, if_pos rfl, Ok_some]
    exact Or.inr ⟨rfl, c2⟩
theorem person_c (hX : TX b n ps ta) (hT : TB to rd P L X) (h : PBf b n ps re md p) (hsc : Sc md0 md) :
    Ok (f_X13_known md rd 0) (fun r => Ok (f_X5_takesPerson re ta to) (fun c => (c.1 = 1 ∧ (∃ q, q < P ∧ r.1 = nI q ∧ Re_taken c.2 = nI q) ∧ r.2 = md ∧ PAt b n ps c.2 md p ∧ tkK b n p = 1) ∨ (c.1 = 0 ∧ BADQ md0 c.2 r.2 ∧ r.1 = 0))) := by
  obtain ⟨re2, a1, a2, a3, a4⟩ := name_c2 hX h
  have hn8 := hT.1.1
  unfold f_X13_known f_X5_takesPerson
  rw [bd1_e (isName_r h.at), a3]
  cases c : isN b n p with
  | true =>
    have hk := isN_k c
    rw [if_neg (show ¬ (bI true = 0) by decide), if_pos rfl, bd2_e rfl, if_neg (show ¬ ((1 : Int32) = 0) by decide), a4 c]
    unfold f_X13_known_L12 f_X13_known_L42 f_X13_known_L47
    have untold : ∀ (x2 : Int32) (y : Nat), Ok (bd1 (f_X13_flaw md 2) fun md_4 => if Md_sort md_4 = 5 then some ((0 : Int32), md_4) else ck x2 16 (some (Tn_nameNumber rd y, md_4))) (fun r => Ok (if Re_taken (Re_taken' re2 (-1)) = -1 then bd2 (f_X5_isFaulty (Re_taken' re2 (-1)) ta 2) fun r_5 re_6 => if r_5 = 0 then some ((0 : Int32), re_6) else some ((1 : Int32), re_6) else some ((1 : Int32), Re_taken' re2 (-1))) (fun c => (c.1 = 1 ∧ (∃ q, q < P ∧ r.1 = nI q ∧ Re_taken c.2 = nI q) ∧ r.2 = md ∧ PAt b n ps c.2 md p ∧ tkK b n p = 1) ∨ (c.1 = 0 ∧ BADQ md0 c.2 r.2 ∧ r.1 = 0))) := by
      intro x2 y
      have a1' : PAt b n ps (Re_taken' re2 (-1)) md p := a1.rr rfl
      rw [Ok_bd1]
      refine (bad_e hX a1' hsc 2 (k := 2) rfl (by omega) (by omega)).mono (fun md' h1 => ?_)
      obtain ⟨c, c0, c1, c2⟩ := h1
      rw [if_pos c2.s5, Ok_some, if_pos (show Re_taken (Re_taken' re2 (-1)) = -1 from rfl), bd2_e (a := c.1) (b := c.2) c0, c1, if_pos rfl, Ok_some]
      exact Or.inr ⟨rfl, c2, rfl⟩
    rcases hT.names (Md_word md) with ⟨f1, f2, f3, f4⟩ | ⟨k, q, hk2, hq, f1, f2, f3, f4, f5⟩ | ⟨k, q, hk2, hq, f1, f2, f3, f4, f5⟩
    · rw [bd1_e f1, if_pos rfl, bd1_e f2, lt1_e]
      exact untold _ _
    · rw [bd1_e f1, if_neg (by rw [nI_neg1 (by omega)]; exact id), ckI (by omega) (by decide), nI_clamp (by omega), f2, if_pos rfl, if_neg h.at.n5, ckI (by omega) (by decide), Ok_some, bd1_e f4, lt1_e, if_neg (show ¬ (Re_taken (Re_taken' re2 (nI q)) = -1) by show ¬ (nI q = -1); rw [nI_neg1 (by omega)]; exact id), Ok_some]
      exact Or.inl ⟨rfl, ⟨q, hq, f3, rfl⟩, rfl, a1.rr rfl, hk⟩
    · rw [bd1_e f1, if_neg (by rw [nI_neg1 (by omega)]; exact id), ckI (by omega) (by decide), nI_clamp (by omega), f2, if_neg (by decide), bd1_e f4, lt1_e]
      exact untold _ _
  | false =>
    rw [if_pos (show bI false = 0 from rfl), if_neg (show ¬ (false = true) by decide), Ok_bd1]
    refine (bad_e hX a1 hsc 1 (k := 1) rfl (by omega) (by omega)).mono (fun md' h1 => ?_)
    obtain ⟨c, c0, c1, c2⟩ := h1
    unfold f_X5_takesName_L44
    rw [ov_known12 hT c2.s5, Ok_some, Ok_bd2, Ok_bd2, Ok_eq c0, c1, if_pos rfl, Ok_some, if_pos rfl, Ok_some]
    exact Or.inr ⟨rfl, c2, rfl⟩
theorem link_c (hX : TX b n ps ta) (hT : TB to rd P L X) (h : PBf b n ps re md p) (hsc : Sc md0 md) {to' : ToS} (hto : To_linkNames to' = To_linkNames to ∧ To_links to' = To_links to) :
    Ok (f_X13_known md rd 1) (fun r => Ok (f_X5_takesLink re ta to') (fun c => (c.1 = 1 ∧ (∃ q, q < L ∧ r.1 = nI q ∧ Re_taken c.2 = nI q) ∧ r.2 = md ∧ PAt b n ps c.2 md p ∧ tkK b n p = 1) ∨ (c.1 = 0 ∧ BADQ md0 c.2 r.2 ∧ r.1 = 0))) := by
  obtain ⟨re2, a1, a2, a3, a4⟩ := name_c2 hX h
  have hn8 := hT.1.1
  have hln : ∀ w, f_X9_linkNamed to' w = f_X9_linkNamed to w := fun w => by unfold f_X9_linkNamed; rw [hto.1, hto.2]
  unfold f_X13_known f_X5_takesLink
  rw [bd1_e (isName_r h.at), a3]
  cases c : isN b n p with
  | true =>
    have hk := isN_k c
    rw [if_neg (show ¬ (bI true = 0) by decide), if_pos rfl, bd2_e rfl, if_neg (show ¬ ((1 : Int32) = 0) by decide), a4 c, hln]
    unfold f_X13_known_L12 f_X13_known_L42 f_X13_known_L47
    have untold : ∀ (x2 : Int32) (y : Nat), Ok (bd1 (f_X13_flaw md 2) fun md_4 => if Md_sort md_4 = 5 then some ((0 : Int32), md_4) else ck x2 16 (some (Tn_nameNumber rd y, md_4))) (fun r => Ok (if Re_taken (Re_taken' re2 (-1)) = -1 then bd2 (f_X5_isFaulty (Re_taken' re2 (-1)) ta 2) fun r_5 re_6 => if r_5 = 0 then some ((0 : Int32), re_6) else some ((1 : Int32), re_6) else some ((1 : Int32), Re_taken' re2 (-1))) (fun c => (c.1 = 1 ∧ (∃ q, q < L ∧ r.1 = nI q ∧ Re_taken c.2 = nI q) ∧ r.2 = md ∧ PAt b n ps c.2 md p ∧ tkK b n p = 1) ∨ (c.1 = 0 ∧ BADQ md0 c.2 r.2 ∧ r.1 = 0))) := by
      intro x2 y
      have a1' : PAt b n ps (Re_taken' re2 (-1)) md p := a1.rr rfl
      rw [Ok_bd1]
      refine (bad_e hX a1' hsc 2 (k := 2) rfl (by omega) (by omega)).mono (fun md' h1 => ?_)
      obtain ⟨c, c0, c1, c2⟩ := h1
      rw [if_pos c2.s5, Ok_some, if_pos (show Re_taken (Re_taken' re2 (-1)) = -1 from rfl), bd2_e (a := c.1) (b := c.2) c0, c1, if_pos rfl, Ok_some]
      exact Or.inr ⟨rfl, c2, rfl⟩
    rcases hT.names (Md_word md) with ⟨f1, f2, f3, f4⟩ | ⟨k, q, hk2, hq, f1, f2, f3, f4, f5⟩ | ⟨k, q, hk2, hq, f1, f2, f3, f4, f5⟩
    · rw [bd1_e f1, if_pos rfl, bd1_e f3, lt1_e]
      exact untold _ _
    · rw [bd1_e f1, if_neg (by rw [nI_neg1 (by omega)]; exact id), ckI (by omega) (by decide), nI_clamp (by omega), f2, if_neg (by decide), bd1_e f5, lt1_e]
      exact untold _ _
    · rw [bd1_e f1, if_neg (by rw [nI_neg1 (by omega)]; exact id), ckI (by omega) (by decide), nI_clamp (by omega), f2, if_pos rfl, if_neg h.at.n5, ckI (by omega) (by decide), Ok_some, bd1_e f5, lt1_e, if_neg (show ¬ (Re_taken (Re_taken' re2 (nI q)) = -1) by show ¬ (nI q = -1); rw [nI_neg1 (by omega)]; exact id), Ok_some]
      exact Or.inl ⟨rfl, ⟨q, hq, f3, rfl⟩, rfl, a1.rr rfl, hk⟩
  | false =>
    rw [if_pos (show bI false = 0 from rfl), if_neg (show ¬ (false = true) by decide), Ok_bd1]
    refine (bad_e hX a1 hsc 1 (k := 1) rfl (by omega) (by omega)).mono (fun md' h1 => ?_)
    obtain ⟨c, c0, c1, c2⟩ := h1
    unfold f_X5_takesName_L44
    rw [ov_known12 hT c2.s5, Ok_some, Ok_bd2, Ok_bd2, Ok_eq c0, c1, if_pos rfl, Ok_some, if_pos rfl, Ok_some]
    exact Or.inr ⟨rfl, c2, rfl⟩
theorem isW_ne {u v : Nat} (hu : u < 11) (hv : v < 11) (huv : u ≠ v) (h : isW b n p u = true) : isW b n p v = false := by
  cases e : isW b n p v with
  | false => rfl
  | true =>
    exfalso
    unfold isW at h e
    simp only [Bool.and_eq_true, decide_eq_true_eq] at h e
    exact huv (spv_inj u hu v hv (h.2.trans e.2.symm))
theorem held_e {h : Nat} (hh : h < 16) : f_X9_isHeld to (nI h) = some (if To_linkIn to h = -1 then 0 else 1) := by
  have q0 : ¬ (nI h < nI 0) := nI_nlt (by omega) (by omega)
  have q1 : ¬ (nI 16 ≤ nI h) := nI_ge hh (by omega)
  unfold f_X9_isHeld f_X9_isHand
  rw [if_neg (show ¬ (nI h < 0) from q0), if_neg (show ¬ ((16 : Int32) ≤ nI h) from q1), bd1_e rfl, if_neg (show ¬ ((1 : Int32) = 0) by decide), ckI hh (by decide), nI_clamp (by omega)]
  by_cases c : To_linkIn to h = -1
  · rw [if_pos c, if_pos c]
  · rw [if_neg c, if_neg c]
theorem hand_c (hX : TX b n ps ta) (hT : TB to rd P L X) (h : PBf b n ps re md p) (hsc : Sc md0 md) {q : Nat} (hq : q < P) :
    Ok (f_X13_readHand md rd (nI q)) (fun r => Ok (f_X5_takesHand re ta to (nI q)) (fun c => (c.1 = 1 ∧ (∃ d, d < 2 ∧ r.1 = nI d ∧ Re_taken c.2 = nI (2 * q + d) ∧ To_linkIn to (2 * q + d) = -1) ∧ GOOD b n ps c.2 md r.2) ∨ (c.1 = 0 ∧ BADQ md0 c.2 r.2))) := by
  obtain ⟨re1, a0, a1, a2, a3, a4⟩ := adv_e hX h
  have hn8 := hT.1.1
  have hlk := hT.2.2.2.2.1.2.2.1
  unfold f_X13_readHand f_X5_takesHand f_X5_takesHand_L28
  rw [bd1_e (isWord_r h.at wo_right), bd1_e (isWord_r h.at wo_left), bd1_e a0, show f_X5_isWord re1 ta (6 : Int32) = _ from isWord_c hX a1 (w := 6) (by omega), show f_X5_isWord re1 ta (7 : Int32) = _ from isWord_c hX a1 (w := 7) (by omega), bd1_e rfl, bd1_e rfl, i2]
  have go : ∀ d, d < 2 → ∀ t : Int32, t = nI d → tkK b n p = 1 → Ok (f_X13_readHand_L34 (nI q) t md rd) (fun r => Ok (f_X5_takesHand_L46 (nI (2 * q)) t re1 ta to) (fun c => (c.1 = 1 ∧ (∃ d, d < 2 ∧ r.1 = nI d ∧ Re_taken c.2 = nI (2 * q + d) ∧ To_linkIn to (2 * q + d) = -1) ∧ GOOD b n ps c.2 md r.2) ∨ (c.1 = 0 ∧ BADQ md0 c.2 r.2))) := by
    intro d hd t ht hk
    subst ht
    unfold f_X13_readHand_L34 f_X13_readHand_L65 f_X5_takesHand_L46
    have a1' : PAt b n ps (Re_taken' re1 (nI (2 * q + d))) md p := a1.rr rfl
    rw [if_neg h.at.n5, i2, nI_add, ckI (show 2 * q + d < 16 by omega) (by decide), nI_clamp (by omega), hlk (2 * q + d) (by omega), lt1_e, show Re_taken (Re_taken' re1 (nI (2 * q + d))) = nI (2 * q + d) from rfl, bd1_e (held_e (show 2 * q + d < 16 by omega))]
    by_cases c : To_linkIn to (2 * q + d) = -1
    · rw [if_pos c, if_pos c, Ok_bd1]
      refine (step_e hX a1' (by omega) (by omega)).mono (fun md' h1 => ?_)
      rw [Ok_some, if_pos rfl, Ok_some]
      exact Or.inl ⟨rfl, ⟨d, hd, rfl, rfl, c⟩, h1.2, h1.1⟩
    · rw [if_neg c, if_neg c, Ok_bd1]
      refine (bad_e hX a1' hsc 3 (k := 3) rfl (by omega) (by omega)).mono (fun md' h1 => ?_)
      obtain ⟨c, c0, c1, c2⟩ := h1
      rw [bd1_e (ov_goes c2.s5), Ok_some, if_neg (show ¬ ((1 : Int32) = 0) by decide), bd2_e (a := c.1) (b := c.2) c0, c1, if_pos rfl, Ok_some]
      exact Or.inr ⟨rfl, c2⟩
  unfold f_X13_readHand_L25
  cases cr : isW b n p 7 with
  | true =>
    have cl6 : isW b n p 6 = false := isW_ne (u := 7) (by omega) (by omega) (by omega) cr
    rw [cl6, if_neg (show ¬ (bI true = 0) by decide), if_neg (show ¬ (bI true = 0) by decide), if_pos (show bI false = 0 from rfl), if_neg (show ¬ (bI true = 0) by decide), bd1_e rfl, if_neg (show ¬ (bI true = 0) by decide)]
    exact go 1 (by omega) 1 rfl (isW_k cr)
  | false =>
    rw [if_pos (show bI false = 0 from rfl)]
    cases cf : isW b n p 6 with
    | true =>
      rw [if_neg (show ¬ (bI true = 0) by decide), if_pos (show bI false = 0 from rfl), if_neg (show ¬ (bI true = 0) by decide), bd1_e rfl, if_pos (show bI false = 0 from rfl)]
      exact go 0 (by omega) 0 rfl (isW_k cf)
    | false =>
      rw [if_pos (show bI false = 0 from rfl), if_pos (show bI false = 0 from rfl), if_pos (show bI false = 0 from rfl), Ok_bd1]
      refine (bad_e hX a1 hsc 1 (k := 1) rfl (by omega) (by omega)).mono (fun md' h1 => ?_)
      obtain ⟨c, c0, c1, c2⟩ := h1
      unfold f_X13_readHand_L34 f_X13_readHand_L65
      rw [if_pos (show bI false = 0 from rfl), if_pos c2.s5, bd1_e (ov_goes c2.s5), Ok_some, bd2_e (a := c.1) (b := c.2) c0, c1, zb_i (Or.inl rfl), Ok_some]
      exact Or.inr ⟨rfl, c2⟩
end TAKES2
