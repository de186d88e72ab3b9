section MAYF
variable {ri : RiS} {tn : TnS} {pt : Option Nat} {t : Int64} {lf : Int32} {hk : HKS} {now : MoS} {bo : BoS} {md : MdS} {m : Nat}
theorem tf1 {P : Prop} (h : P) : tf P = 1 := (Option.some.inj (some_tf (P := P) (v := 1) (fun _ => rfl) (fun n => absurd h n))).symm
theorem tf0 {P : Prop} (h : ¬ P) : tf P = 0 := (Option.some.inj (some_tf (P := P) (v := 0) (fun p => absurd p h) (fun _ => rfl))).symm
theorem allows_e (hT : TW tn) (hR : TR ri tn) (hC : CW tn t) (hG : GB tn pt lf t bo) (hm : isMv (nX tn) m = true) (hwl : CAN tn pt lf t m → ¬ m < 100 → wl tn t m < nL tn) : f_X0_allows bo ri (nI m) = some (tf (MAY tn pt lf t m)) := by
  have hlt := isMv_lt hm
  have h8 := hT.l8
  unfold f_X0_allows MAY
  rw [bd1_e (ccan_e hT hG hm)]
  by_cases c : CAN tn pt lf t m
  · rw [tf1 c, if_neg (show ¬ ((1 : Int32) = 0) by decide)]
    by_cases h1 : m < 100
    · have q : nI m < nI 100 := nI_lt h1 (by omega)
      rw [if_pos (show nI m < 100 from q), tf1 ⟨c, Or.inl h1⟩]
    · have q : ¬ (nI m < nI 100) := nI_nlt (by omega) (by omega)
      have hw := hwl c h1
      rw [if_neg (show ¬ (nI m < 100) from q), bd1_e (goerLink_e hT hR hC hG hm c h1), ckI (by omega) (by decide), nI_clamp (by omega), (hR.2.2.2.2.2.1 _ hw).1]
      by_cases f : fitL tn (wl tn t m)
      · rw [tf1 f, if_neg (show ¬ ((1 : Int32) = 0) by decide), tf1 ⟨c, Or.inr f⟩]
      · rw [tf0 f, if_pos rfl, tf0 (fun e => e.2.elim h1 f)]
  · rw [tf0 c, if_pos rfl, tf0 (fun e => c e.1)]
theorem a_may (h : IVt tn ri now bo md) (ht : HK_there hk = 1) (v : Int32) : Ok (f_X13_may md tn v) (fun q => Ok (f_X11_may hk bo ri v) (fun c => AN hk md c.1 c.2 q)) := by
  obtain ⟨pt, s, hT, hR, hD, hp, _, _, hK, _, _, _, hB⟩ := h
  unfold f_X13_may f_X11_may f_X13_may_L41 f_X11_may_L25
  rw [lt1_e, gn_now_thrown]
  rcases b_move hT hR ht v with ⟨m, hm, rfl, e1, e2⟩ | ⟨e1, e2⟩
  · rw [bd1_e e2, bd1_e e1, if_neg (show ¬ ((1 : Int32) = 0) by decide), if_neg (show ¬ ((1 : Int32) = 0) by decide), Ok_bd1]
    refine (rLooks (md := Md_thrown' md 0) hT hD.1 hD.pt (by rw [gn_parted_thrown]; exact hp)).mono (fun md1 hm1 => ?_)
    have el : Md_lifted md1 = Md_lifted md := hm1.1.lifted.trans (gn_lifted_thrown _ _)
    rw [bd1_e (may_e hT hD.1 hm1.2 hm), el, bd1_e (allows_e hT hR hD.1 hB.2.2.2.2.1 hm (fun c => (goer_e hT hD.1 hm1.2 hm c).2))]
    by_cases c : tf (MAY tn pt (Md_lifted md) (Md_now md) m) = 0
    · rw [if_pos c, if_pos c, good_t, grant_t, bd2_e rfl, bd2_e rfl, Ok_some, Ok_some]
      exact AN.mk (by decide) hm1.1.sc
    · rw [if_neg c, if_neg c, good_t, grant_t, bd2_e rfl, bd2_e rfl, Ok_some, Ok_some]
      exact AN.mk (by decide) hm1.1.sc
  · rw [bd1_e e2, bd1_e e1, if_pos rfl, if_pos rfl, refused_t, refuse_t, bd2_e rfl, bd2_e rfl, Ok_some, Ok_some]
    exact AN.mk (by decide) (Sc.refl _)
theorem a_goer (h : IVt tn ri now bo md) (ht : HK_there hk = 1) (v : Int32) : Ok (f_X13_goer md tn v) (fun q => Ok (f_X11_goer hk bo ri v) (fun c => AN hk md c.1 c.2 q)) := by
  obtain ⟨pt, s, hT, hR, hD, hp, _, _, hK, _, _, _, hB⟩ := h
  have h8 := hT.l8
  unfold f_X13_goer f_X11_goer
  rw [lt1_e, gn_now_thrown]
  rcases b_move hT hR ht v with ⟨m, hm, rfl, e1, e2⟩ | ⟨e1, e2⟩
  · have hlt := isMv_lt hm
    rw [bd1_e e2, bd1_e e1, if_neg (show ¬ ((1 : Int32) = 0) by decide), if_neg (show ¬ ((1 : Int32) = 0) by decide), Ok_bd1, bd1_e (ccan_e hT hB.2.2.2.2.1 hm)]
    refine (rLooks (md := Md_thrown' md 0) hT hD.1 hD.pt (by rw [gn_parted_thrown]; exact hp)).mono (fun md1 hm1 => ?_)
    have el : Md_lifted md1 = Md_lifted md := hm1.1.lifted.trans (gn_lifted_thrown _ _)
    rw [bd1_e (can_e hT hD.1 hm1.2 hm), el]
    by_cases c : CAN tn pt (Md_lifted md) (Md_now md) m
    · rw [tf1 c, if_neg (show ¬ ((1 : Int32) = 0) by decide), if_neg (show ¬ ((1 : Int32) = 0) by decide), bd1_e (goer_e hT hD.1 hm1.2 hm c).1]
      have hw := (goer_e hT hD.1 hm1.2 hm c).2
      have ew : f_X0_whoGoes bo ri (nI m) = some (if m < 100 then -2 else nI (gl tn (wl tn (Md_now md) m))) := by
        unfold f_X0_whoGoes
        by_cases h1 : m < 100
        · have q : ¬ (nI 100 ≤ nI m) := nI_ge h1 (by omega)
          rw [if_neg (show ¬ ((100 : Int32) ≤ nI m) from q), if_pos h1]
        · have q : nI 100 ≤ nI m := nI_le (by omega) (by omega)
          have hw := hw h1
          rw [if_pos (show (100 : Int32) ≤ nI m from q), if_neg h1, bd1_e (goerLink_e hT hR hD.1 hB.2.2.2.2.1 hm c h1), ckI (by omega) (by decide), nI_clamp (by omega), (hR.2.2.2.2.2.1 _ hw).2]
      rw [bd1_e ew, good_t, grant_t, bd2_e rfl, bd2_e rfl, Ok_some, Ok_some]
      exact AN.mk (by decide) hm1.1.sc
    · rw [tf0 c, if_pos rfl, if_pos rfl, refused_t, refuse_t, bd2_e rfl, bd2_e rfl, Ok_some, Ok_some]
      exact AN.mk (by decide) hm1.1.sc
  · rw [bd1_e e2, bd1_e e1, if_pos rfl, if_pos rfl, refused_t, refuse_t, bd2_e rfl, bd2_e rfl, Ok_some, Ok_some]
    exact AN.mk (by decide) (Sc.refl _)
end MAYF
