/-! answers: the class's and the reference's -/
section ANS
variable {ri : RiS} {tn : TnS} {hk : HKS} {now : MoS} {bo : BoS} {md : MdS}
/-- both tell of one tangle -/
def IVt (tn : TnS) (ri : RiS) (now : MoS) (bo : BoS) (md : MdS) : Prop :=
  ∃ (pt : Option Nat) (s : Nat), TW tn ∧ TR ri tn ∧ DW tn pt (Md_now md) ∧ Md_parted md = ptv pt ∧ Md_seed md = nI s ∧ s < 65537 ∧
    KR tn (Mo_key now) (Md_now md) ∧ PLS tn (Mo_plus now) (Md_lifted md) ∧ Mo_parted now = ptv pt ∧ Mo_seed now = nI s ∧ BO ri tn pt (Md_lifted md) (Mo_key now) (Md_now md) (Mo_plus now) bo
/-- one answer, one trouble, and nothing else that stays -/
def AN (hk : HKS) (md : MdS) (r : Int32) (hk' : HKS) (q : Int32 × MdS) : Prop :=
  r = q.1 ∧ ∃ k md1, k ≠ 4 ∧ hk' = HK_trouble' hk k ∧ Sc (Md_thrown' md 0) md1 ∧ q.2 = stt md1 k
theorem refuse_t (hk : HKS) (k : Int32) : f_X11_refuse hk k = some (-1, HK_trouble' hk k) := rfl
theorem refuseS_t (hk : HKS) (k : Int32) : f_X11_refuseSigned hk k = some (-100, HK_trouble' hk k) := rfl
theorem refuseF_t (hk : HKS) (k : Int32) : f_X11_refuseFlatly hk k = some (0, HK_trouble' hk k) := rfl
theorem grant_t (hk : HKS) (v : Int32) : f_X11_grant hk v = some (v, HK_trouble' hk 0) := rfl
theorem AN.mk {r : Int32} {k : Int32} {md1 : MdS} (hk4 : k ≠ 4) (h : Sc (Md_thrown' md 0) md1) : AN hk md r (HK_trouble' hk k) (r, stt md1 k) := ⟨rfl, k, md1, hk4, rfl, h, rfl⟩
theorem inN (v : Int32) (N : Nat) (hN : N < 2 ^ 31) : (∃ j, j < N ∧ v = nI j ∧ ¬ v < 0 ∧ ¬ nI N ≤ v) ∨ (v < 0 ∨ (¬ v < 0 ∧ nI N ≤ v)) := by
  by_cases c : v < 0
  · exact Or.inr (Or.inl c)
  · obtain ⟨j, h1, rfl⟩ := nI_of c
    by_cases d : j < N
    · exact Or.inl ⟨j, d, rfl, c, nI_ge d (by omega)⟩
    · exact Or.inr (Or.inr ⟨c, nI_le (by omega) (by omega)⟩)
theorem both_in {A B : Int32} {v : Int32} {N : Nat} (hN : N < 2 ^ 31) (hA : A = nI N) (hB : B = nI N) (ht : HK_there hk = 1) :
    (∃ j, j < N ∧ v = nI j ∧ (if HK_there hk = 0 then some (0 : Int32) else if v < 0 then some 0 else if A ≤ v then some 0 else some 1) = some 1 ∧ (if v < 0 then some (0 : Int32) else if B ≤ v then some 0 else some 1) = some 1) ∨
    ((if HK_there hk = 0 then some (0 : Int32) else if v < 0 then some 0 else if A ≤ v then some 0 else some 1) = some 0 ∧ (if v < 0 then some (0 : Int32) else if B ≤ v then some 0 else some 1) = some 0) := by
  rw [if_neg (show ¬ (HK_there hk = 0) by rw [ht]; decide), hA, hB]
  rcases inN v N hN with ⟨j, h1, h2, h3, h4⟩ | h | ⟨h, h2⟩
  · exact Or.inl ⟨j, h1, h2, by rw [if_neg h3, if_neg h4], by rw [if_neg h3, if_neg h4]⟩
  · exact Or.inr ⟨by rw [if_pos h], by rw [if_pos h]⟩
  · exact Or.inr ⟨by rw [if_neg h, if_pos h2], by rw [if_neg h, if_pos h2]⟩
theorem b_stand (hT : TW tn) (hR : TR ri tn) (ht : HK_there hk = 1) (v : Int32) : (∃ j, j < nS tn ∧ v = nI j ∧ f_X11_isStanding hk ri v = some 1 ∧ f_X13_isStanding tn v = some 1) ∨ (f_X11_isStanding hk ri v = some 0 ∧ f_X13_isStanding tn v = some 0) :=
  both_in (by have := hT.s14; omega) hR.S hT.S ht
theorem b_ring (hT : TW tn) (hR : TR ri tn) (ht : HK_there hk = 1) (v : Int32) : (∃ j, j < nR tn ∧ v = nI j ∧ f_X11_isRing hk ri v = some 1 ∧ f_X13_isRing tn v = some 1) ∨ (f_X11_isRing hk ri v = some 0 ∧ f_X13_isRing tn v = some 0) :=
  both_in (by have := hT.r8; omega) hR.R hT.R ht
theorem b_cross (hT : TW tn) (hR : TR ri tn) (ht : HK_there hk = 1) (v : Int32) : (∃ j, j < nX tn ∧ v = nI j ∧ f_X11_isCrossing hk ri v = some 1 ∧ f_X13_isCrossing tn v = some 1) ∨ (f_X11_isCrossing hk ri v = some 0 ∧ f_X13_isCrossing tn v = some 0) :=
  both_in (by have := hT.x7; omega) hR.X hT.X ht
theorem b_person (hT : TW tn) (hR : TR ri tn) (ht : HK_there hk = 1) (v : Int32) : (∃ j, j < nP tn ∧ v = nI j ∧ f_X11_isPerson hk ri v = some 1 ∧ f_X13_isPerson tn v = some 1) ∨ (f_X11_isPerson hk ri v = some 0 ∧ f_X13_isPerson tn v = some 0) :=
  both_in (by have := hT.p8; omega) hR.1.2.2.2.1 hT.P ht
theorem b_link (hT : TW tn) (hR : TR ri tn) (ht : HK_there hk = 1) (v : Int32) : (∃ j, j < nL tn ∧ v = nI j ∧ f_X11_isLink hk ri v = some 1 ∧ f_X13_isLink tn v = some 1) ∨ (f_X11_isLink hk ri v = some 0 ∧ f_X13_isLink tn v = some 0) :=
  both_in (by have := hT.l8; omega) hR.1.2.2.2.2 hT.L ht
theorem a_stands (h : IVt tn ri now bo md) (ht : HK_there hk = 1) (v : Int32) : Ok (f_X13_stands md tn v) (fun q => Ok (f_X11_stands hk now ri v) (fun c => AN hk md c.1 c.2 q)) := by
  obtain ⟨pt, s, hT, hR, hD, _, _, _, hK, _⟩ := h
  have h14 := hT.s14
  unfold f_X13_stands f_X11_stands
  rw [lt1_e, gn_now_thrown]
  rcases b_stand hT hR ht v with ⟨j, hj, rfl, e1, e2⟩ | ⟨e1, e2⟩
  · rw [bd1_e e2, bd1_e e1, if_neg (show ¬ ((1 : Int32) = 0) by decide), if_neg (show ¬ ((1 : Int32) = 0) by decide), bd1_e (at_e _ j (by omega)), bd1_e (hK.pass h14 hj)]
    have hb := nib_lt (Md_now md) j
    unfold f_X13_stands_L46 f_X11_stands_L38
    by_cases d : nib (Md_now md) j = 15
    · rw [if_pos (show nI (nib (Md_now md) j) = 15 by rw [d]; rfl), if_pos d, if_pos rfl, good_t, grant_t, bd2_e rfl, bd2_e rfl, Ok_some, Ok_some]
      exact AN.mk (by decide) (Sc.refl _)
    · rw [if_neg (n15 d), bd1_e (at_e _ j (by omega)), if_neg d, if_neg (by rw [nI_neg1 (by omega)]; exact id), good_t, grant_t, bd2_e rfl, bd2_e rfl, Ok_some, Ok_some]
      exact AN.mk (by decide) (Sc.refl _)
  · rw [bd1_e e2, bd1_e e1, if_pos rfl, if_pos rfl, refused_t, refuse_t, bd2_e rfl, bd2_e rfl, Ok_some, Ok_some]
    exact AN.mk (by decide) (Sc.refl _)
theorem a_hang (h : IVt tn ri now bo md) (ht : HK_there hk = 1) (v w : Int32) : Ok (f_X13_hang md tn v w) (fun q => Ok (f_X11_hang hk bo ri v w) (fun c => AN hk md c.1 c.2 q)) := by
  obtain ⟨pt, s, hT, hR, hD, hp, _, _, hK, _, _, _, hB⟩ := h
  unfold f_X13_hang f_X11_hang
  rw [lt1_e]
  have bad : Ok (f_X13_hang_L39 (Md_thrown' md 0)) (fun q => Ok (f_X11_hang_L21 hk) (fun c => AN hk md c.1 c.2 q)) := by
    unfold f_X13_hang_L39 f_X11_hang_L21
    rw [lost_t, refuseS_t, bd2_e rfl, bd2_e rfl, Ok_some, Ok_some]
    exact AN.mk (by decide) (Sc.refl _)
  rcases b_ring hT hR ht v with ⟨a, ha, rfl, e1, e2⟩ | ⟨e1, e2⟩
  · rw [bd1_e e2, bd1_e e1, if_neg (show ¬ ((1 : Int32) = 0) by decide), if_neg (show ¬ ((1 : Int32) = 0) by decide)]
    rcases b_ring hT hR ht w with ⟨b, hb, rfl, f1, f2⟩ | ⟨f1, f2⟩
    · rw [bd1_e f2, bd1_e f1, if_neg (show ¬ ((1 : Int32) = 0) by decide), if_neg (show ¬ ((1 : Int32) = 0) by decide)]
      by_cases c : nI a = nI b
      · rw [if_pos c, if_pos c]
        exact bad
      · rw [if_neg c, if_neg c, bd1_e (csigns_e hT hR hD hB.2.2.2.2.1 ha hb), Ok_bd2]
        refine (rhang_e (md0 := Md_thrown' md 0) hT hD (by rw [gn_parted_thrown]; exact hp) (gn_now_thrown _ _) (gn_lifted_thrown _ _) ha hb).mono (fun q hq => ?_)
        rw [good_t, grant_t, bd2_e rfl, bd2_e rfl, Ok_some, Ok_some, hq.1]
        exact AN.mk (by decide) hq.2.sc
    · rw [bd1_e f2, bd1_e f1, if_pos rfl, if_pos rfl]
      exact bad
  · rw [bd1_e e2, bd1_e e1, if_pos rfl, if_pos rfl]
    exact bad
end ANS
