section ANS3
variable {ri : RiS} {tn : TnS} {hk : HKS} {now : MoS} {bo : BoS} {md : MdS} {pt : Option Nat} {t : Int64}
theorem rmoves_L (hT : TW tn) (hC : CW tn t) (hL : Looked md tn pt t) : ∀ n a j c, 2001 - a < n → a ≤ 2000 → fst1 (mayB tn pt (Md_lifted md) t) a j → c + (MR (mayB tn pt (Md_lifted md) t) a).length = (MR (mayB tn pt (Md_lifted md) t) 0).length →
    f_X13_moves_L34 n (nI c) (nI j) md tn = some (nI (MR (mayB tn pt (Md_lifted md) t) 0).length, stt md 0) := by
  intro n
  induction n with
  | zero => intro a j c h; omega
  | succ n ih =>
    intro a j c hn ha hf hc
    rw [f_X13_moves_L34]
    rcases hf with ⟨e, rfl⟩ | ⟨h1, h2, h3, h4⟩
    · rw [if_pos (by decide), good_t, bd2_e rfl]
      rw [e, List.length_nil, Nat.add_zero] at hc
      rw [hc]
    · have q : ¬ (nI 2000 ≤ nI j) := nI_ge h1 (by omega)
      obtain ⟨i, e1, e2⟩ := nextMay_e (v := nI j) (a := j + 1) hT hC hL (nI_1 _) (by omega)
      rw [if_neg (show ¬ ((2000 : Int32) ≤ nI j) from q), lt1_e, nI_1, bd1_e e1]
      refine ih (j + 1) i (c + 1) (by omega) (by omega) e2 ?_
      rw [h4, List.length_cons] at hc
      omega
theorem a_moves (h : IVt tn ri now bo md) (ht : HK_there hk = 1) : Ok (f_X13_moves md tn) (fun q => Ok (f_X11_moves hk bo) (fun c => AN hk md c.1 c.2 q)) := by
  obtain ⟨pt, s, hT, hR, hD, hp, _, _, hK, _, _, _, hB⟩ := h
  unfold f_X13_moves f_X11_moves
  rw [lt1_e, gn_now_thrown, if_neg (show ¬ (HK_there hk = 0) by rw [ht]; decide), hB.2.2.2.2.2.2.2.1, grant_t, bd2_e rfl, Ok_bd1]
  refine (rLooks (md := Md_thrown' md 0) hT hD.1 hD.pt (by rw [gn_parted_thrown]; exact hp)).mono (fun md1 hm => ?_)
  have el : Md_lifted md1 = Md_lifted md := hm.1.lifted.trans (gn_lifted_thrown _ _)
  obtain ⟨i, e1, e2⟩ := nextMay_e (v := -1) (a := 0) hT hD.1 hm.2 (by decide) (by omega)
  have := rmoves_L hT hD.1 hm.2 FU 0 i 0 (by rw [FU_e]; omega) (by omega) e2 (by omega)
  rw [el] at this
  rw [bd1_e e1, show (0 : Int32) = nI 0 from rfl, this, Ok_some, Ok_some]
  exact AN.mk (by decide) hm.1.sc
theorem rmoveAt_L (hT : TW tn) (hC : CW tn t) (hL : Looked md tn pt t) {v : Int32} : ∀ n a j c, 2001 - a < n → a ≤ 2000 → c ≤ a → fst1 (mayB tn pt (Md_lifted md) t) a j → (∀ k, (MR (mayB tn pt (Md_lifted md) t) 0)[c + k]? = (MR (mayB tn pt (Md_lifted md) t) a)[k]?) → (∀ k, k < c → v ≠ nI k) →
    ((∃ k m, v = nI k ∧ (MR (mayB tn pt (Md_lifted md) t) 0)[k]? = some m ∧ f_X13_moveAt_L34 n v (nI c) (nI j) md tn = some (nI m, stt md 0)) ∨
     ((∀ k, k < (MR (mayB tn pt (Md_lifted md) t) 0).length → v ≠ nI k) ∧ f_X13_moveAt_L34 n v (nI c) (nI j) md tn = some (-1, stt md 1))) := by
  intro n
  induction n with
  | zero => intro a j c h; omega
  | succ n ih =>
    intro a j c hn ha hca hf hc hv
    rw [f_X13_moveAt_L34]
    rcases hf with ⟨e, rfl⟩ | ⟨h1, h2, h3, h4⟩
    · refine Or.inr ⟨fun k hk => hv k ?_, ?_⟩
      · have := hc 0
        rw [e] at this
        have : (MR (mayB tn pt (Md_lifted md) t) 0).length ≤ c + 0 := List.getElem?_eq_none_iff.mp this
        omega
      · rw [if_pos (by decide), refused_t, bd2_e rfl]
    · have q : ¬ (nI 2000 ≤ nI j) := nI_ge h1 (by omega)
      rw [if_neg (show ¬ ((2000 : Int32) ≤ nI j) from q)]
      by_cases d : nI c = v
      · rw [if_pos d]
        refine Or.inl ⟨c, j, d.symm, ?_, ?_⟩
        · have := hc 0
          rw [h4] at this
          exact this
        · rw [good_t, bd2_e rfl]
      · rw [if_neg d, lt1_e, nI_1]
        obtain ⟨i, e1, e2⟩ := nextMay_e (v := nI j) (a := j + 1) hT hC hL (nI_1 _) (by omega)
        rw [bd1_e e1]
        refine ih (j + 1) i (c + 1) (by omega) (by omega) (by omega) e2 (fun k => ?_) (fun k hk => ?_)
        · have := hc (k + 1)
          rw [h4, List.getElem?_cons_succ] at this
          rw [← this, show c + 1 + k = c + (k + 1) by omega]
        · by_cases e : k = c
          · subst e; exact fun e => d e.symm
          · exact hv k (by omega)
theorem a_moveAt (h : IVt tn ri now bo md) (ht : HK_there hk = 1) (v : Int32) : Ok (f_X13_moveAt md tn v) (fun q => Ok (f_X11_moveAt hk bo v) (fun c => AN hk md c.1 c.2 q)) := by
  obtain ⟨pt, s, hT, hR, hD, hp, _, _, hK, _, _, _, hB⟩ := h
  have hN := N238 (pt := pt) (lf := Md_lifted md) (t := Md_now md) hT
  have hNI := hB.2.2.2.2.2.2.2
  unfold f_X13_moveAt f_X11_moveAt f_X11_moveAt_L22
  rw [lt1_e, gn_now_thrown, if_neg (show ¬ (HK_there hk = 0) by rw [ht]; decide), hNI.1, Ok_bd1]
  refine (rLooks (md := Md_thrown' md 0) hT hD.1 hD.pt (by rw [gn_parted_thrown]; exact hp)).mono (fun md1 hm => ?_)
  have el : Md_lifted md1 = Md_lifted md := hm.1.lifted.trans (gn_lifted_thrown _ _)
  obtain ⟨i, e1, e2⟩ := nextMay_e (v := -1) (a := 0) hT hD.1 hm.2 (by decide) (by omega)
  have := rmoveAt_L (v := v) hT hD.1 hm.2 FU 0 i 0 (by rw [FU_e]; omega) (by omega) (by omega) e2 (fun k => by rw [Nat.zero_add]) (fun k hk => absurd hk (by omega))
  rw [el] at this
  rw [bd1_e e1, show (0 : Int32) = nI 0 from rfl]
  rcases this with ⟨k, m, rfl, h1, h2⟩ | ⟨h1, h2⟩
  · have hkl : k < (MR (mayB tn pt (Md_lifted md) (Md_now md)) 0).length := (List.getElem?_eq_some_iff.mp h1).1
    have hk0 : ¬ (nI k < nI 0) := nI_nlt (by omega) (by omega)
    rw [h2, Ok_some, if_neg hk0, if_pos (nI_lt hkl (by omega)), ckI (by omega) (by decide), nI_clamp (by omega), hNI.2 _ _ h1, grant_t, bd2_e rfl, Ok_some]
    exact AN.mk (by decide) hm.1.sc
  · rw [h2, Ok_some]
    by_cases c : v < nI 0
    · rw [if_pos c, refuse_t, bd2_e rfl, Ok_some]
      exact AN.mk (by decide) hm.1.sc
    · rw [if_neg c]
      obtain ⟨j, hj, rfl⟩ := nI_of (show ¬ (v < 0) from c)
      have : ¬ j < (MR (mayB tn pt (Md_lifted md) (Md_now md)) 0).length := fun e => h1 j e rfl
      rw [if_neg (nI_nlt (by omega) (by omega)), refuse_t, bd2_e rfl, Ok_some]
      exact AN.mk (by decide) hm.1.sc
end ANS3
