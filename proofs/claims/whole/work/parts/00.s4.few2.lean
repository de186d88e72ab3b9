section FEWF2
variable {ri : RiS} {tn : TnS} {hk : HKS} {now : MoS} {bo sb : BoS} {md : MdS} {se : SeS} {pt : Option Nat} {t t0 kc : Int64} {lf : Int32}
def lv14 (tn : TnS) (t : Int64) (s : Nat) : Bool := decide (s < nS tn) && lvB t s
theorem cnt_14 (hT : TW tn) : (List.range 14).countP (lv14 tn t) = cnt tn t := by
  have h14 := hT.s14
  rw [range_split h14, List.countP_append]
  have e1 : (List.range (nS tn)).countP (lv14 tn t) = cnt tn t := by
    unfold cnt
    refine (countP_same (fun i hi => ?_)).symm
    unfold lv14
    simp [hi]
  have e2 : (List.range' (nS tn) (14 - nS tn)).countP (lv14 tn t) = 0 := by
    rw [List.countP_eq_zero]
    intro s hs
    rw [List.mem_range'_1] at hs
    unfold lv14
    simp
    intro; omega
  omega
theorem crIn_L (hT : TW tn) (hK : KR tn kc t) : ∀ n s, 14 - s < n → s ≤ 14 → f_X7_crossingsIn_L4 n kc (nI ((List.range s).countP (lv14 tn t))) (nI s) = some (nI (lft tn t)) := by
  intro n
  induction n with
  | zero => intro s h; omega
  | succ n ih =>
    intro s hn hs
    rw [f_X7_crossingsIn_L4]
    by_cases c : s = 14
    · subst c
      have := cnt_le tn t
      have := hT.s14
      rw [if_pos (by decide), cnt_14 hT, li_2, nI_div (by omega) (by omega)]
      rfl
    · have q : ¬ (nI 14 ≤ nI s) := nI_ge (by omega) (by omega)
      have hz := hK s (by omega)
      have hb := nib_lt t s
      have hr := ih (s + 1) (by omega) (by omega)
      rw [List.range_succ, List.countP_append, List.countP_singleton] at hr
      rw [if_neg (show ¬ ((14 : Int32) ≤ nI s) from q), bd1_e (passAt_e kc s (by omega))]
      unfold f_X7_crossingsIn_L25
      by_cases a : lv14 tn t s = true
      · rw [if_pos a] at hr
        have a2 := a
        unfold lv14 lvB at a2
        simp at a2
        rw [if_pos a2.1] at hz
        rw [if_neg (show ¬ nib kc s = 0 by omega), if_neg (by rw [nI_neg1 (by have := nib_lt kc s; omega)]; exact id), lt1_e, lt1_e, nI_1, nI_1]
        exact hr
      · rw [if_neg a] at hr
        have a2 := a
        unfold lv14 lvB at a2
        simp at a2
        have e0 : nib kc s = 0 := by
          rw [hz]
          by_cases d : s < nS tn
          · rw [if_pos d, a2 d]
          · rw [if_neg d]
        rw [if_pos e0, if_pos rfl, lt1_e, lt1_e, nI_1, Int32.add_zero]
        exact hr
theorem crIn_e (hT : TW tn) (hK : KR tn kc t) : f_X7_crossingsIn kc = some (nI (lft tn t)) := by
  unfold f_X7_crossingsIn
  exact crIn_L hT hK FU 0 (by rw [FU_e]; omega) (by omega)
theorem fewc_L (hT : TW tn) {L : List (Int64 × Int32)} (hX : CX tn pt se L) : ∀ n i a, L.length - i < n → i ≤ L.length → a ≤ 7 → f_X7_leastLeft_L21 n (nI a) (nI i) se sb = some (nI (((L.drop i).map (fun x => lft tn x.1)).foldl min a), se, sb) := by
  have hlen := hX.len
  intro n
  induction n with
  | zero => intro i a h; omega
  | succ n ih =>
    intro i a hn hi ha
    rw [f_X7_leastLeft_L21, hlen.2]
    by_cases c : i = L.length
    · rw [if_pos (nI_le (by omega) (by omega)), c, List.drop_length]
      rfl
    · have hil : i < L.length := by omega
      obtain ⟨ks, k1, k2, k3, k4, k5⟩ := hX
      obtain ⟨d1, ⟨k, d2, d3⟩, d4⟩ := k4 i L[i].1 L[i].2 (by rw [List.getElem?_eq_getElem hil])
      have h7 := lft7 hT L[i].1
      rw [if_neg (nI_ge hil (by omega)), ckI (show i < 4000 by omega) (by decide), nI_clamp (by omega), k1.2.2.2.1 i k d2, bd1_e (crIn_e hT d3), lt1_e, lt1_e, nI_1, List.drop_eq_getElem_cons hil, List.map_cons, List.foldl_cons]
      by_cases e : lft tn L[i].1 < a
      · rw [if_pos (nI_lt e (by omega)), ih (i + 1) _ (by omega) (by omega) h7, Nat.min_eq_right (by omega)]
      · rw [if_neg (nI_nlt (by omega) (by omega)), ih (i + 1) _ (by omega) (by omega) ha, Nat.min_eq_left (by omega)]
theorem fewr_L (hT : TW tn) {seen : List Int64} (hS : RS tn md seen) : ∀ n i a, seen.length - i < n → i ≤ seen.length → a ≤ 7 → f_X13_few_L59 n (nI a) (nI i) md tn = some (nI (((seen.drop i).map (lft tn)).foldl min a), stt md 0) := by
  obtain ⟨s1, s2, s3, s4, s5⟩ := hS
  intro n
  induction n with
  | zero => intro i a h; omega
  | succ n ih =>
    intro i a hn hi ha
    rw [f_X13_few_L59, s1]
    by_cases c : i = seen.length
    · rw [if_pos (nI_le (by omega) (by omega)), c, List.drop_length, good_t, bd2_e rfl]
      rfl
    · have hil : i < seen.length := by omega
      have h7 := lft7 hT seen[i]
      rw [if_neg (nI_ge hil (by omega)), ckI (show i < 4001 by omega) (by decide), nI_clamp (by omega), s4 i seen[i] (List.getElem?_eq_getElem hil), bd1_e (leftIn_e hT), List.drop_eq_getElem_cons hil, List.map_cons, List.foldl_cons]
      unfold f_X13_few_L95
      by_cases e : lft tn seen[i] < a
      · rw [if_neg (nI_ge e (by omega)), ckI (show i < 4001 by omega) (by decide), bd1_e (leftIn_e hT), lt1_e, nI_1, Nat.min_eq_right (by omega)]
        exact ih (i + 1) _ (by omega) (by omega) h7
      · rw [if_pos (nI_le (by omega) (by omega)), lt1_e, nI_1, Nat.min_eq_left (by omega)]
        exact ih (i + 1) _ (by omega) (by omega) ha
theorem addAll_ext : ∀ (a seen s' : List Int64), addAll seen a = some s' → ∃ e, s' = seen ++ e := by
  intro a
  induction a with
  | nil => intro seen s' h; cases h; exact ⟨[], by simp⟩
  | cons x xs ih =>
    intro seen s' h
    rw [addAll] at h
    by_cases c : x ∈ seen
    · rw [if_pos c] at h; exact ih _ _ h
    · rw [if_neg c] at h
      by_cases d : seen.length = 4000
      · rw [if_pos d] at h; cases h
      · rw [if_neg d] at h
        obtain ⟨e, he⟩ := ih _ _ h
        exact ⟨x :: e, by rw [he, List.append_assoc]; rfl⟩
theorem lvl_hd : ∀ k seen fr, lvl tn pt lf t0 k = some (seen, fr) → ∃ r, seen = t0 :: r := by
  intro k
  induction k with
  | zero => intro seen fr h; cases h; exact ⟨[], rfl⟩
  | succ k ih =>
    intro s' fr' h
    rw [lvl] at h
    cases hl : lvl tn pt lf t0 k with
    | none => rw [hl] at h; cases h
    | some q =>
      obtain ⟨seen, fr⟩ := q
      rw [hl] at h
      replace h : (match addAll seen ((seen.drop fr).flatMap (SUC tn pt lf)) with | none => none | some s' => some (s', seen.length)) = some (s', fr') := h
      cases ha : addAll seen ((seen.drop fr).flatMap (SUC tn pt lf)) with
      | none => rw [ha] at h; cases h
      | some s2 =>
        rw [ha] at h
        cases h
        obtain ⟨r, hr⟩ := ih seen fr hl
        obtain ⟨e, he⟩ := addAll_ext _ _ _ ha
        exact ⟨r ++ e, by rw [he, hr]; rfl⟩
theorem a_few (h : IVt tn ri now bo md) (ht : HK_there hk = 1) (hS : ∃ ks, CT1 se ks) (v : Int32) : Ok (f_X13_few md tn v) (fun q => Ok (f_X11_few hk se sb now ri v) (fun c => AN hk md c.1 c.2.1 q ∧ ∃ ks, CT1 c.2.2.1 ks)) := by
  obtain ⟨pt, s, hT, hR, hD, hp, _, _, hK, hP, hpa, _, hB⟩ := h
  unfold f_X13_few f_X11_few
  rw [lt1_e, if_neg (show ¬ (HK_there hk = 0) by rw [ht]; decide)]
  rcases b_depth v with ⟨d, hd, rfl, e1, e2⟩ | ⟨e1, e2⟩
  · rw [bd1_e e2, bd1_e e1, if_neg (show ¬ ((1 : Int32) = 0) by decide), if_neg (show ¬ ((1 : Int32) = 0) by decide), Ok_bd2]
    refine (all_e (md := Md_thrown' md 0) (lf := Md_lifted md) hT hd (by rw [gn_now_thrown]; exact hD) (by rw [gn_parted_thrown]; exact hp) (gn_lifted_thrown _ _)).mono (fun q hq => ?_)
    obtain ⟨q2, q1⟩ := hq
    rw [gn_now_thrown] at q1
    have hg := growA_e (sb := sb) hT hR rfl hP hpa hd hS hK hD
    unfold f_X7_leastLeft
    cases e : lvl tn pt (Md_lifted md) (Md_now md) d with
    | none =>
      rw [e] at q1
      rw [show q.1 = 0 from q1, if_pos rfl, refused_t, bd2_e rfl, Ok_some, Ok_bd3, Ok_bd3]
      refine hg.mono (fun r hr => ?_)
      rcases hr with ⟨r1, r2, r3⟩ | ⟨L, fr, r1, r2, r3⟩
      · rw [r1, if_pos rfl, Ok_some, if_pos rfl, refuse_t, bd2_e rfl, Ok_some]
        exact ⟨AN.mk (by decide) q2, r3⟩
      · rw [e] at r2; cases r2
    | some z =>
      obtain ⟨s', f'⟩ := z
      rw [e] at q1
      obtain ⟨rest, hh⟩ := lvl_hd _ _ _ e
      have h7 := lft7 hT (Md_now md)
      have h7s := q1.2.2.1
      rw [show q.1 = 1 from q1.1, if_neg (show ¬ ((1 : Int32) = 0) by decide), q2.now, gn_now_thrown, bd1_e (leftIn_e hT), li_0, fewr_L hT q1.2 FU 0 _ (by rw [FU_e]; omega) (by omega) h7, Ok_some, Ok_bd3, Ok_bd3]
      refine hg.mono (fun r hr => ?_)
      rcases hr with ⟨r1, r2, r3⟩ | ⟨L, fr, r1, r2, r3⟩
      · rw [e] at r2; cases r2
      · rw [e] at r2
        have r2' : s' = L.map Prod.fst := by cases r2; rfl
        have hlen := r3.len
        have em : L.map (fun x => lft tn x.1) = s'.map (lft tn) := by rw [r2', List.map_map]; rfl
        have em2 : (s'.map (lft tn)).foldl min (lft tn (Md_now md)) = (s'.map (lft tn)).foldl min 7 := by
          rw [hh, List.map_cons, List.foldl_cons, List.foldl_cons, Nat.min_self, Nat.min_eq_right h7]
        have hb : (s'.map (lft tn)).foldl min 7 ≤ 7 := by
          have : ∀ (l : List Nat) a, l.foldl min a ≤ a := by
            intro l
            induction l with
            | nil => intro a; exact Nat.le_refl _
            | cons x xs ih => intro a; exact Nat.le_trans (ih _) (Nat.min_le_left _ _)
          exact this _ 7
        rw [r1, if_neg (by decide), li_7, fewc_L hT r3 FU 0 7 (by rw [FU_e]; omega) (by omega) (by omega), Ok_some, List.drop_zero, List.drop_zero, em, em2, if_neg (nI4k _ (by omega)), grant_t, bd2_e rfl, Ok_some]
        exact ⟨AN.mk (by decide) q2, r3.ct⟩
  · rw [bd1_e e2, bd1_e e1, if_pos rfl, if_pos rfl, refused_t, refuse_t, bd2_e rfl, bd2_e rfl, Ok_some, Ok_some]
    exact ⟨AN.mk (by decide) (Sc.refl _), hS⟩
end FEWF2
