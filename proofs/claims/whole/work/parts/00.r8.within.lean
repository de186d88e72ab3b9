/-! the best by a count, the first such -/
def amS (v : Nat → Nat) (o : Option (Nat × Nat)) (m : Nat) : Option (Nat × Nat) := match o with
  | none => some (m, v m)
  | some (b, l) => if v m < l then some (m, v m) else some (b, l)
def amL (v : Nat → Nat) (l : List Nat) : Option (Nat × Nat) := l.foldl (amS v) none
def amI (o : Option (Nat × Nat)) : Int32 := match o with
  | none => -2
  | some (b, _) => nI b
noncomputable def lbv (tn : TnS) (pt : Option Nat) (lf : Int32) (t : Int64) : Nat := (MR (mayB tn pt lf t) 0).foldl (fun a m => min a (lft tn (bh tn t m))) (lft tn t)
section WITHIN
variable {ri : RiS} {tn : TnS} {pt : Option Nat} {lf plus : Int32} {t kc : Int64} {bo : BoS}
theorem lft7 (hT : TW tn) (u : Int64) : lft tn u ≤ 7 := by
  have := cnt_le tn u
  have := hT.s14
  unfold lft; omega
theorem fold_min_le {f : Nat → Nat} : ∀ (l : List Nat) a, l.foldl (fun a m => min a (f m)) a ≤ a := by
  intro l
  induction l with
  | nil => intro a; exact Nat.le_refl _
  | cons x l ih => intro a; rw [List.foldl_cons]; exact Nat.le_trans (ih _) (Nat.min_le_left _ _)
theorem lbv7 (hT : TW tn) (u : Int64) : lbv tn pt lf u ≤ 7 := Nat.le_trans (fold_min_le _ _) (lft7 hT u)
theorem rleast_e (hT : TW tn) (hD : DW tn pt t) {md : MdS} (hp : Md_parted md = ptv pt) (hl : Md_lifted md = lf) : Ok (f_X13_leastBehind md tn t) (fun q => q.1 = nI (lbv tn pt lf t) ∧ Lk md q.2) := by
  have key : ∀ n a j x md1, 2000 - a < n → a ≤ 2000 → x ≤ 7 → fst1 (mayB tn pt lf t) a j → RL tn pt lf t md1 → Ok (f_X13_leastBehind_L18 n t (nI x) (nI j) md1 tn) (fun q => q.1 = nI ((MR (mayB tn pt lf t) a).foldl (fun a m => min a (lft tn (bh tn t m))) x) ∧ q.2 = md1) := by
    intro n
    induction n with
    | zero => intro a j x md1 h; omega
    | succ n ih =>
      intro a j x md1 hn ha hx hf hL
      rw [f_X13_leastBehind_L18, li_2000]
      rcases hf with ⟨h1, h2⟩ | ⟨h1, h2, h3, h4⟩
      · rw [if_pos (by rw [h2]; decide), Ok_some, h1]
        exact ⟨rfl, rfl⟩
      · obtain ⟨m1, m2⟩ := mayB_can h3
        have hb := lft7 hT (bh tn t j)
        rw [if_neg (nI_ge h1 (by omega)), bd1_e (behind_e hT hL.1 hD.1 m1 m2.lv), bd1_e (leftIn_e hT)]
        obtain ⟨i, e1, hi⟩ := nextMay_e (v := nI j) hT hD.1 hL.1 (nI_1 j) (by omega)
        rw [hL.2.2] at hi
        unfold f_X13_leastBehind_L51
        rw [h4, List.foldl_cons]
        by_cases c : x ≤ lft tn (bh tn t j)
        · rw [if_pos (nI_le c (by omega)), bd1_e e1, Nat.min_eq_left c]
          exact ih (j + 1) i x md1 (by omega) (by omega) hx hi hL
        · rw [if_neg (nI_ge (by omega) (by omega)), bd1_e e1, Nat.min_eq_right (by omega)]
          exact ih (j + 1) i _ md1 (by omega) (by omega) hb hi hL
  unfold f_X13_leastBehind
  rw [bd1_e (leftIn_e hT), Ok_bd1]
  refine (rLooks hT hD.1 hD.pt hp).mono (fun md1 h => ?_)
  obtain ⟨h1, h2⟩ := h
  have hL : RL tn pt lf t md1 := ⟨h2, h1.parted.trans hp, h1.lifted.trans hl⟩
  obtain ⟨i, e1, hi⟩ := nextMay_e (v := -1) (a := 0) hT hD.1 h2 (by decide) (by omega)
  rw [hL.2.2] at hi
  rw [bd1_e e1]
  refine (key FU 0 i _ md1 (by rw [FU_e]; omega) (by omega) (lft7 hT t) hi hL).mono (fun q hq => ⟨hq.1, by rw [hq.2]; exact h1⟩)
theorem rcaller_e (hT : TW tn) {md : MdS} (hno : Md_now md = t) (hD : DW tn pt t) (hp : Md_parted md = ptv pt) (hl : Md_lifted md = lf) : Ok (f_X13_callerNow md tn) (fun q => q.1 = amI (amL (fun m => lbv tn pt lf (bh tn t m)) (MR (mayB tn pt lf t) 0)) ∧ Lk md q.2) := by
  have key : ∀ n a j o md1, 2000 - a < n → a ≤ 2000 → (∀ b l, o = some (b, l) → b < 2000 ∧ l ≤ 7) → fst1 (mayB tn pt lf t) a j → RL tn pt lf t md1 → Lk md md1 → Ok (f_X13_callerNow_L19 n (amI o) (match o with | none => 0 | some (_, l) => nI l) (nI j) md1 tn) (fun q => q.1 = amI ((MR (mayB tn pt lf t) a).foldl (amS (fun m => lbv tn pt lf (bh tn t m))) o) ∧ Lk md q.2) := by
    intro n
    induction n with
    | zero => intro a j o md1 h; omega
    | succ n ih =>
      intro a j o md1 hn ha ho hf hL hk
      have hno1 := hk.now.trans hno
      rw [f_X13_callerNow_L19, li_2000]
      rcases hf with ⟨h1, h2⟩ | ⟨h1, h2, h3, h4⟩
      · rw [if_pos (by rw [h2]; decide), Ok_some, h1]
        exact ⟨rfl, hk⟩
      · obtain ⟨m1, m2⟩ := mayB_can h3
        have hDb := hD.bh hT m1 m2
        have hb := lbv7 (pt := pt) (lf := lf) hT (bh tn t j)
        rw [if_neg (nI_ge h1 (by omega)), hno1, bd1_e (behind_e hT hL.1 hD.1 m1 m2.lv), Ok_bd2]
        refine (rleast_e hT hDb hL.2.1 hL.2.2).mono (fun q hq => ?_)
        obtain ⟨q1, q2⟩ := hq
        rw [Ok_bd1, q2.now, hno1]
        refine (rLooks hT hD.1 hD.pt (q2.parted.trans hL.2.1)).mono (fun md2 h => ?_)
        have hL2 : RL tn pt lf t md2 := ⟨h.2, (h.1.parted.trans q2.parted).trans hL.2.1, (h.1.lifted.trans q2.lifted).trans hL.2.2⟩
        have hk2 : Lk md md2 := (hk.trans q2).trans h.1
        obtain ⟨i, e1, hi⟩ := nextMay_e (v := nI j) hT hD.1 hL2.1 (nI_1 j) (by omega)
        rw [hL2.2.2] at hi
        rw [h4, List.foldl_cons, q1]
        unfold f_X13_callerNow_L64 f_X13_callerNow_L69
        cases o with
        | none =>
          rw [if_pos (show amI none = -2 from rfl), bd1_e e1]
          exact ih (j + 1) i (some (j, lbv tn pt lf (bh tn t j))) md2 (by omega) (by omega) (fun b l e => by cases e; exact ⟨h1, hb⟩) hi hL2 hk2
        | some bl =>
          obtain ⟨b, l⟩ := bl
          obtain ⟨hb2, hl2⟩ := ho b l rfl
          have hne : ¬ amI (some (b, l)) = -2 := by show ¬ nI b = -2; rw [nI_neg2 (by omega)]; exact fun h => h
          rw [if_neg hne]
          by_cases c : lbv tn pt lf (bh tn t j) < l
          · have es : amS (fun m => lbv tn pt lf (bh tn t m)) (some (b, l)) j = some (j, lbv tn pt lf (bh tn t j)) := if_pos c
            rw [if_pos (nI_lt c (by omega)), bd1_e e1, es]
            exact ih (j + 1) i (some (j, lbv tn pt lf (bh tn t j))) md2 (by omega) (by omega) (fun b l e => by cases e; exact ⟨h1, hb⟩) hi hL2 hk2
          · have es : amS (fun m => lbv tn pt lf (bh tn t m)) (some (b, l)) j = some (b, l) := if_neg c
            rw [if_neg (nI_nlt (by omega) (by omega)), bd1_e e1, es]
            exact ih (j + 1) i (some (b, l)) md2 (by omega) (by omega) ho hi hL2 hk2
  unfold f_X13_callerNow
  rw [Ok_bd1, hno]
  refine (rLooks hT hD.1 hD.pt hp).mono (fun md1 h => ?_)
  obtain ⟨h1, h2⟩ := h
  have hL : RL tn pt lf t md1 := ⟨h2, h1.parted.trans hp, h1.lifted.trans hl⟩
  obtain ⟨i, e1, hi⟩ := nextMay_e (v := -1) (a := 0) hT hD.1 h2 (by decide) (by omega)
  rw [hL.2.2] at hi
  rw [bd1_e e1]
  exact key FU 0 i none md1 (by rw [FU_e]; omega) (by omega) (fun b l e => by cases e) hi hL h1
theorem N238 (hT : TW tn) : (MR (mayB tn pt lf t) 0).length ≤ 238 := by
  rw [← Fm_CF hT]
  exact Fm_len (rest := []) hT (by simp)
theorem cleft_e (hT : TW tn) (hC : CW tn t) (hB : BO ri tn pt lf kc t plus bo) {m : Nat} (h : mayB tn pt lf t m = true) : f_X0_leftBehind bo (nI m) = some (nI (lft tn (bh tn t m))) := by
  obtain ⟨m1, m2⟩ := mayB_can h
  have hlt := isMv_lt m1
  have h7 := lft7 hT t
  have e := lft_bh hT hC m1 m2.lv
  unfold f_X0_leftBehind
  rw [hB.2.2.2.1]
  by_cases h1 : m < 100
  · rw [if_pos h1] at e
    rw [li_100, if_neg (nI_ge h1 (by omega)), li_1, nI_sub (by omega)]
    congr 2; omega
  · rw [if_neg h1] at e
    rw [li_100, if_pos (nI_le (by omega) (by omega))]
    by_cases h2 : m < 1000
    · rw [if_pos h2] at e
      rw [li_1000, if_neg (nI_ge h2 (by omega)), li_2, nI_sub (by omega)]
      congr 2; omega
    · rw [if_neg h2] at e
      rw [li_1000, if_pos (nI_le (by omega) (by omega))]
      congr 2; omega
theorem drop_cons {l : List Nat} {i m : Nat} (h : l[i]? = some m) : l.drop i = m :: l.drop (i + 1) := by
  obtain ⟨h1, h2⟩ := List.getElem?_eq_some_iff.mp h
  rw [List.drop_eq_getElem_cons h1, h2]
theorem cleast_e (hT : TW tn) (hC : CW tn t) (hB : BO ri tn pt lf kc t plus bo) : f_X10_leastBehind bo = some (nI (lbv tn pt lf t)) := by
  have hN := N238 (pt := pt) (lf := lf) (t := t) hT
  have hNI := hB.2.2.2.2.2.2.2
  have key : ∀ n i x, (MR (mayB tn pt lf t) 0).length - i < n → i ≤ (MR (mayB tn pt lf t) 0).length → x ≤ 7 → f_X10_leastBehind_L7 n (nI x) (nI i) bo = some (nI (((MR (mayB tn pt lf t) 0).drop i).foldl (fun a m => min a (lft tn (bh tn t m))) x)) := by
    intro n
    induction n with
    | zero => intro i x h; omega
    | succ n ih =>
      intro i x hn hi hx
      rw [f_X10_leastBehind_L7, hNI.1]
      by_cases e : i = (MR (mayB tn pt lf t) 0).length
      · rw [if_pos (by rw [e]; exact nI_le (Nat.le_refl _) (by omega)), e, List.drop_length]; rfl
      · have hi2 : i < (MR (mayB tn pt lf t) 0).length := by omega
        obtain ⟨m, hm⟩ : ∃ m, (MR (mayB tn pt lf t) 0)[i]? = some m := ⟨_, List.getElem?_eq_getElem hi2⟩
        have hmay := (MR_mem.mp (List.mem_of_getElem? hm)).2.2
        have hb := lft7 hT (bh tn t m)
        rw [if_neg (nI_ge hi2 (by omega)), ckI (by omega) (by decide), nI_clamp (by omega), hNI.2 i m hm, bd1_e (cleft_e hT hC hB hmay), lt1_e, lt1_e, nI_1, drop_cons hm, List.foldl_cons]
        by_cases c : lft tn (bh tn t m) < x
        · rw [if_pos (nI_lt c (by omega)), Nat.min_eq_right (by omega)]
          exact ih (i + 1) _ (by omega) (by omega) hb
        · rw [if_neg (nI_nlt (by omega) (by omega)), Nat.min_eq_left (by omega)]
          exact ih (i + 1) _ (by omega) (by omega) hx
  unfold f_X10_leastBehind
  rw [lt1_e, hB.2.2.2.1]
  have := key FU 0 (lft tn t) (by rw [FU_e]; omega) (by omega) (lft7 hT t)
  rw [List.drop_zero] at this
  exact this
theorem ccall_e (hT : TW tn) (hR : TR ri tn) (hD : DW tn pt t) (hB : BO ri tn pt lf kc t plus bo) (hK : KR tn kc t) {now : MoS} (hpl : Mo_plus now = plus) (hP : PLS tn plus lf) (hpa : Mo_parted now = ptv pt) {wb : BoS} : Ok (f_X10_bestCall bo wb now ri) (fun q => q.1 = amI (amL (fun m => lbv tn pt lf (bh tn t m)) (MR (mayB tn pt lf t) 0))) := by
  have hN := N238 (pt := pt) (lf := lf) (t := t) hT
  have hNI := hB.2.2.2.2.2.2.2
  have key : ∀ n i o wb, (MR (mayB tn pt lf t) 0).length - i < n → i ≤ (MR (mayB tn pt lf t) 0).length → (∀ b l, o = some (b, l) → b < 2000 ∧ l ≤ 7) → Ok (f_X10_bestCall_L10 n (amI o) (match o with | none => 8 | some (_, l) => nI l) (nI i) wb bo now ri) (fun q => q.1 = amI (((MR (mayB tn pt lf t) 0).drop i).foldl (amS (fun m => lbv tn pt lf (bh tn t m))) o)) := by
    intro n
    induction n with
    | zero => intro i o wb h; omega
    | succ n ih =>
      intro i o wb hn hi ho
      rw [f_X10_bestCall_L10, hNI.1]
      by_cases e : i = (MR (mayB tn pt lf t) 0).length
      · rw [if_pos (by rw [e]; exact nI_le (Nat.le_refl _) (by omega)), Ok_some, e, List.drop_length]; rfl
      · have hi2 : i < (MR (mayB tn pt lf t) 0).length := by omega
        obtain ⟨m, hm⟩ : ∃ m, (MR (mayB tn pt lf t) 0)[i]? = some m := ⟨_, List.getElem?_eq_getElem hi2⟩
        have hmay := (MR_mem.mp (List.mem_of_getElem? hm)).2.2
        have hm2 := (MR_mem.mp (List.mem_of_getElem? hm)).2.1
        obtain ⟨m1, m2⟩ := mayB_can hmay
        have hDb := hD.bh hT m1 m2
        have hb := lbv7 (pt := pt) (lf := lf) hT (bh tn t m)
        rw [if_neg (nI_ge hi2 (by omega)), ckI (by omega) (by decide), lt1_e, nI_clamp (by omega), hNI.2 i m hm, Ok_bd1]
        refine (after_e hT hD.1 hB.2.2.2.2.1 hB.1 hK m1 m2.lv).mono (fun k' hK' => ?_)
        rw [hpl, hpa, Ok_bd1]
        refine (layOut_e hT hR hDb hK' hP wb).mono (fun wb2 hB2 => ?_)
        rw [bd1_e (cleast_e hT hDb.1 hB2), drop_cons hm, List.foldl_cons]
        unfold f_X10_bestCall_L72
        cases o with
        | none =>
          rw [if_neg (show ¬ (8 : Int32) ≤ nI _ from nI_ge (b := 8) (by omega) (by omega)), lt1_e, nI_1]
          exact ih (i + 1) (some (m, lbv tn pt lf (bh tn t m))) wb2 (by omega) (by omega) (fun b l e => by cases e; exact ⟨hm2, hb⟩)
        | some bl =>
          obtain ⟨b, l⟩ := bl
          obtain ⟨hb2, hl2⟩ := ho b l rfl
          by_cases c : lbv tn pt lf (bh tn t m) < l
          · have es : amS (fun m => lbv tn pt lf (bh tn t m)) (some (b, l)) m = some (m, lbv tn pt lf (bh tn t m)) := if_pos c
            rw [if_neg (nI_ge c (by omega)), lt1_e, nI_1, es]
            exact ih (i + 1) (some (m, lbv tn pt lf (bh tn t m))) wb2 (by omega) (by omega) (fun b l e => by cases e; exact ⟨hm2, hb⟩)
          · have es : amS (fun m => lbv tn pt lf (bh tn t m)) (some (b, l)) m = some (b, l) := if_neg c
            rw [if_pos (nI_le (by omega) (by omega)), lt1_e, nI_1, es]
            exact ih (i + 1) (some (b, l)) wb2 (by omega) (by omega) ho
  unfold f_X10_bestCall
  have := key FU 0 none wb (by rw [FU_e]; omega) (by omega) (fun b l e => by cases e)
  rw [List.drop_zero] at this
  exact this
end WITHIN
