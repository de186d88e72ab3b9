/-! one more of a ring -/
def tk2 (tn : TnS) := ((Tn_height tn, Tn_people tn, Tn_links tn, Tn_crossings tn, Tn_once tn, Tn_tall tn), (Tn_one tn, Tn_oneHand tn, Tn_two tn, Tn_twoHand tn, Tn_linkOf tn), (Tn_over tn, Tn_overAt tn, Tn_under tn, Tn_underAt tn, Tn_sign tn))
def rk2 (ri : RiS) := ((Ri_people ri, Ri_links ri, Ri_crossings ri, Ri_tall ri, Ri_once ri), (Ri_partner ri, Ri_linkIn ri, Ri_linkGoer ri, Ri_linkFits ri))
def SXr (to : ToS) (rd : TnS) (P R : Nat) (T : List (Nat × Nat × Nat)) (tn : TnS) : Prop :=
  Tn_rings tn = nI R ∧ tk2 tn = tk2 rd ∧
  (∀ (i h r w : Nat), T[i]? = some (h, r, w) → Tn_ringOf tn (h / 2) = nI r ∧ Tn_member tn (8 * r + w) = nI (h / 2) ∧ Tn_linkRing tn (hlv to h) = nI r ∧ Tn_linkRow tn (hlv to h) = nI w ∧ Tn_along tn (hlv to h) = (if alo to h then 1 else 0)) ∧
  SWr (wL to T) (Tn_linkRing tn) tn ∧ (∀ p, p < P → (∀ t, t ∈ T → t.1 / 2 ≠ p) → Tn_ringOf tn p = -1)
def SXc (to : ToS) (ri0 : RiS) (P R : Nat) (T : List (Nat × Nat × Nat)) (ri : RiS) : Prop :=
  Ri_count ri = nI R ∧ rk2 ri = rk2 ri0 ∧
  (∀ (i h r w : Nat), T[i]? = some (h, r, w) → Ri_members ri i = nI (h / 2) ∧ Ri_along ri (hlv to h) = (if alo to h then 1 else 0) ∧ Ri_linkRing ri (hlv to h) = nI r ∧ Ri_linkStart ri (hlv to h) = nI (wL to (T.take i)).length) ∧
  SWc (wL to T) ri ∧ (∀ l, l < P → (∀ t, t ∈ T → hlv to t.1 ≠ l) → Ri_linkRing ri l = -1)
/-- what may come next: nobody who has been, no link, no row -/
def NEW (to : ToS) (P R : Nat) (T : List (Nat × Nat × Nat)) (h w : Nat) : Prop :=
  h < 2 * P ∧ R < 8 ∧ w < 8 ∧ (∀ t, t ∈ T → t.1 / 2 ≠ h / 2) ∧ (∀ t, t ∈ T → hlv to t.1 ≠ hlv to h) ∧ (∀ t, t ∈ T → ¬ (t.2.1 = R ∧ t.2.2 = w)) ∧ (∀ t, t ∈ T → t.2.2 < 8 ∧ t.2.1 < 8)
section STEP
variable {to : ToS} {rd tn : TnS} {P X R : Nat} {T : List (Nat × Nat × Nat)} {h w : Nat}
theorem hall_of (hT : TB to rd P P X) {l : Nat} (hl : l < P) : Tn_one rd l = nI (hxv to l / 2) ∧ Tn_oneHand rd l = nI (hxv to l % 2) ∧ Tn_two rd l = nI (hyv to l / 2) ∧ Tn_twoHand rd l = nI (hyv to l % 2) := by
  have hn := hT.1.1
  obtain ⟨x, y, ⟨g1, g2, g3⟩, ⟨g4, g5⟩, g6, _⟩ := hT.2.2.2.2.1.1 l hl
  have e1 : hxv to l = x := by unfold hxv; rw [g4, cl_I (by omega)]
  have e2 : hyv to l = y := by unfold hyv; rw [g5, cl_I (by omega)]
  rw [e1, e2]
  exact g6
theorem two_e (a : Nat) : (2 : Int32) * nI (a / 2) + nI (a % 2) = nI a := by
  rw [i2, nI_add]; congr 1; omega
theorem other_e (hT : TB to rd P P X) (hk : tk2 tn = tk2 rd) (hh : h < 2 * P) : f_X12_other tn (nI h) = some (nI (mtv to h)) := by
  have hn := hT.1.1
  have hF := hT.hf
  obtain ⟨e1, e2, e3⟩ := hF.2 h hh
  obtain ⟨_, f1, f2, f3, f4, f5⟩ := hF.1 _ e2
  obtain ⟨o1, o2, o3, o4⟩ := hall_of hT e2
  have el : Tn_linkOf tn h = nI (hlv to h) := by
    have : Tn_linkOf tn = Tn_linkOf rd := congrArg (fun z => z.2.1.2.2.2.2) hk
    rw [this, hT.2.2.2.2.1.2.2.1 h hh, e1]
  have k1 : Tn_one tn = Tn_one rd := congrArg (fun z => z.2.1.1) hk
  have k2 : Tn_oneHand tn = Tn_oneHand rd := congrArg (fun z => z.2.1.2.1) hk
  have k3 : Tn_two tn = Tn_two rd := congrArg (fun z => z.2.1.2.2.1) hk
  have k4 : Tn_twoHand tn = Tn_twoHand rd := congrArg (fun z => z.2.1.2.2.2.1) hk
  unfold f_X12_other
  rw [ckI (show h < 16 by omega) (by decide), nI_clamp (by omega), lt1_e, el]
  simp only [ckI (show hlv to h < 8 by omega) (show 8 < 2 ^ 31 by decide), nI_clamp (show hlv to h < 2 ^ 31 by omega), k1, k2, k3, k4, o1, o2, o3, o4, two_e]
  unfold mtv
  by_cases c : hxv to (hlv to h) = h
  · rw [if_pos (by rw [c]), if_pos c]
  · rw [if_neg (fun e => c (nI_inj e (by omega) (by omega))), if_neg c]
theorem take_snoc {α : Type} {l : List α} {x : α} {i : Nat} (h : i ≤ l.length) : (l ++ [x]).take i = l.take i := by
  rw [List.take_append_of_le_length h]
theorem rstep (hT : TB to rd P P X) (hS : SXr to rd P R T tn) (hN : NEW to P R T h w) (hlen : (wL to (T ++ [(h, R, w)])).length ≤ 14) {x1 : Int32} {K : Int32 → Int32 → Int32 → TnS → Option TnS} {Q : TnS → Prop}
    (hK : ∀ tn', SXr to rd P R (T ++ [(h, R, w)]) tn' → Tn_size tn' = Tn_size tn → Ok (K x1 (nI (xr (mtv to h))) (nI (w + 1)) tn') Q) : Ok (f_X12_laysRing_L13 x1 (nI h) (nI w) tn K) Q := by
  have hn := hT.1.1
  have hF := hT.hf
  obtain ⟨s1, s2, s3, s4, s5⟩ := hS
  obtain ⟨n1, n2, n3, n4, n5, n6, n7⟩ := hN
  obtain ⟨e1, e2, e3⟩ := hF.2 h n1
  obtain ⟨_, f1, f2, f3, f4, f5⟩ := hF.1 _ e2
  obtain ⟨o1, o2, o3, o4⟩ := hall_of hT e2
  have hm := hF.mt n1
  have el : Tn_linkOf tn h = nI (hlv to h) := by
    have : Tn_linkOf tn = Tn_linkOf rd := congrArg (fun z => z.2.1.2.2.2.2) s2
    rw [this, hT.2.2.2.2.1.2.2.1 h n1, e1]
  have k1 : Tn_one tn = Tn_one rd := congrArg (fun z => z.2.1.1) s2
  have k2 : Tn_oneHand tn = Tn_oneHand rd := congrArg (fun z => z.2.1.2.1) s2
  have key : ∀ (t2i : Int32) (a : Bool), (t2i = if a then 1 else 0) → alo to h = a →
      Ok (f_X12_laysRing_L101 x1 (nI h) (nI w) (nI (hlv to h)) (nI (hlv to h)) t2i (Tn_linkRow' (Tn_linkRing' (Tn_member' (Tn_ringOf' tn (upd (Tn_ringOf tn) (h / 2) (nI R))) (upd (Tn_member tn) (8 * R + w) (nI (h / 2)))) (upd (Tn_linkRing tn) (hlv to h) (nI R))) (upd (Tn_linkRow tn) (hlv to h) (nI w))) K) Q := by
    intro t2i a ht ha
    have hbv : vp_nar .boolean t2i = t2i := by rw [ht]; cases a <;> rfl
    have hb0 : t2i = 0 ↔ a = false := by rw [ht]; cases a <;> simp
    unfold f_X12_laysRing_L101
    rw [ckI (show hlv to h < 8 by omega) (by decide), nI_clamp (by omega), lt1_e, hbv]
    simp only [GT_linkRow, GT_linkRing, GT_member, GT_ringOf]
    generalize ht7 : Tn_along' (Tn_linkRow' (Tn_linkRing' (Tn_member' (Tn_ringOf' tn (upd (Tn_ringOf tn) (h / 2) (nI R))) (upd (Tn_member tn) (8 * R + w) (nI (h / 2)))) (upd (Tn_linkRing tn) (hlv to h) (nI R))) (upd (Tn_linkRow tn) (hlv to h) (nI w))) (upd (Tn_along tn) (hlv to h) t2i) = t7
    have g1 : Tn_ringOf t7 = upd (Tn_ringOf tn) (h / 2) (nI R) := by rw [← ht7]; simp only [GT_along, GT_linkRow, GT_linkRing, GT_member, GT_ringOf]
    have g2 : Tn_member t7 = upd (Tn_member tn) (8 * R + w) (nI (h / 2)) := by rw [← ht7]; simp only [GT_along, GT_linkRow, GT_linkRing, GT_member, GT_ringOf]
    have g3 : Tn_linkRing t7 = upd (Tn_linkRing tn) (hlv to h) (nI R) := by rw [← ht7]; simp only [GT_along, GT_linkRow, GT_linkRing, GT_member, GT_ringOf]
    have g4 : Tn_linkRow t7 = upd (Tn_linkRow tn) (hlv to h) (nI w) := by rw [← ht7]; simp only [GT_along, GT_linkRow, GT_linkRing, GT_member, GT_ringOf]
    have g5 : Tn_along t7 = upd (Tn_along tn) (hlv to h) t2i := by rw [← ht7]; simp only [GT_along, GT_linkRow, GT_linkRing, GT_member, GT_ringOf]
    have g6 : tk2 t7 = tk2 rd := by rw [← s2, ← ht7]; unfold tk2; simp only [GT_along, GT_linkRow, GT_linkRing, GT_member, GT_ringOf]
    have g7 : Tn_rings t7 = nI R := by rw [← ht7]; simp only [GT_along, GT_linkRow, GT_linkRing, GT_member, GT_ringOf, s1]
    have g8 : Tn_size t7 = Tn_size tn := by rw [← ht7]; simp only [GT_along, GT_linkRow, GT_linkRing, GT_member, GT_ringOf]
    have g9 : SWr (wL to T) (Tn_linkRing t7) t7 := by
      have : SWr (wL to T) (Tn_linkRing t7) tn := by
        refine s4.ext (fun s l v e => ?_)
        obtain ⟨t, t1, t2, _⟩ := mem_wL.mp (List.mem_of_getElem? e)
        rw [g3, upd_ne (by rw [← t2]; exact n5 t t1)]
      obtain ⟨z1, z2, z3⟩ := this
      refine ⟨?_, fun s l v e => ?_, fun s hs h16 => ?_⟩
      · rw [← ht7]; simp only [GT_along, GT_linkRow, GT_linkRing, GT_member, GT_ringOf, z1]
      · have := z2 s l v e
        rw [← ht7] at this ⊢
        simp only [GT_along, GT_linkRow, GT_linkRing, GT_member, GT_ringOf] at this ⊢
        exact this
      · have := z3 s hs h16
        rw [← ht7]; simp only [GT_along, GT_linkRow, GT_linkRing, GT_member, GT_ringOf]
        exact this
    have hO : OVF rd t7 X := ⟨(congrArg (fun z => z.1.2.2.2.1) g6).trans hT.1.2.2.2.2.2.2.1, congrArg (fun z => z.2.2.1) g6, congrArg (fun z => z.2.2.2.1) g6, congrArg (fun z => z.2.2.2.2.1) g6, congrArg (fun z => z.2.2.2.2.2.1) g6⟩
    rw [wL_snoc, List.length_append] at hlen
    have hsl : (stL to (hlv to h) (alo to h) 1).length = (sT to h).length := by unfold sT; rw [List.length_map]
    have hls := ls_L (tn0 := t7) (g := Tn_linkRing t7) hT (show hlv to h < 8 by omega) (al := alo to h) (by rw [g5, upd_at, ha]; exact hb0) hO (by rw [g3, upd_at, g7]) 9 FU 1 (wL to T) t7 (by omega) (by rw [FU_e]; omega) (by omega) (by rw [hsl]; exact hlen) g9 rfl
    unfold f_X12_laysStandings
    rw [Ok_bd1]
    refine (show Ok (f_X12_laysStandings_L2 FU (nI (hlv to h)) (1 : Int32) t7) _ from hls).mono (fun t8 h8 => ?_)
    obtain ⟨h81, h82⟩ := h8
    have q1 : Tn_ringOf t8 = Tn_ringOf t7 := congrArg (fun z => z.2.2.2.1) h82
    have q2 : Tn_linkRing t8 = Tn_linkRing t7 := congrArg (fun z => z.2.2.2.2.1) h82
    have q3 : Tn_linkRow t8 = Tn_linkRow t7 := congrArg (fun z => z.2.2.2.2.2.1) h82
    have q4 : Tn_member t8 = Tn_member t7 := congrArg (fun z => z.2.2.2.2.2.2.1) h82
    have q5 : Tn_size t8 = Tn_size t7 := congrArg (fun z => z.2.2.2.2.2.2.2.1) h82
    have q6 : Tn_along t8 = Tn_along t7 := congrArg (fun z => z.2.2.2.2.2.2.2.2) h82
    have q7 : Tn_rings t8 = Tn_rings t7 := congrArg (fun z => z.1.2.2.2.2.1) h82
    have q8 : tk2 t8 = tk2 t7 := congrArg (fun z => ((z.1.1, z.1.2.1, z.1.2.2.1, z.1.2.2.2.1, z.1.2.2.2.2.2.1, z.1.2.2.2.2.2.2), z.2.1, z.2.2.1)) h82
    rw [bd1_e (other_e hT (q8.trans g6) n1), lt1_e, lt1_e, nI_1, xr_e _ (by omega)]
    refine hK t8 ⟨q7.trans g7, q8.trans g6, fun i h' r w' e => ?_, ?_, fun p hp hno => ?_⟩ (q5.trans g8)
    · rw [q1, q2, q3, q4, q6, g1, g2, g3, g4, g5]
      rcases getE_snoc e with ⟨c, e⟩ | ⟨c, e⟩
      · have hmem := List.mem_of_getElem? e
        have m7 : w' < 8 ∧ r < 8 := n7 _ hmem
        have m6 : ¬ (r = R ∧ w' = w) := n6 _ hmem
        obtain ⟨a1, a2, a3, a4, a5⟩ := s3 i h' r w' e
        rw [upd_ne (n4 _ hmem), upd_ne (show 8 * r + w' ≠ 8 * R + w by omega), upd_ne (n5 _ hmem), upd_ne (n5 _ hmem), upd_ne (n5 _ hmem)]
        exact ⟨a1, a2, a3, a4, a5⟩
      · cases e
        rw [upd_at, upd_at, upd_at, upd_at, upd_at, ha]
        exact ⟨rfl, rfl, rfl, rfl, ht⟩
    · rw [wL_snoc, q2]
      exact h81
    · rw [q1, g1, upd_ne (fun e => hno (h, R, w) (List.mem_append_right _ (List.mem_singleton.mpr rfl)) e.symm)]
      exact s5 p hp (fun t ht => hno t (List.mem_append_left _ ht))
  unfold f_X12_laysRing_L13
  simp only [lt1_e]
  rw [ckI (show h < 16 by omega) (by decide), nI_clamp (by omega), el, li_2, nI_div (by omega) (by omega), ckI (show h / 2 < 8 by omega) (by decide)]
  simp only [GT_ringOf, GT_member, GT_linkRing, GT_linkRow, s1, show (8 : Int32) * nI R + nI w = nI (8 * R + w) from by rw [li_8, nI_mul, nI_add], ckI (show 8 * R + w < 64 by omega) (show 64 < 2 ^ 31 by decide), nI_clamp (show 8 * R + w < 2 ^ 31 by omega), nI_clamp (show h / 2 < 2 ^ 31 by omega), ckI (show hlv to h < 8 by omega) (show 8 < 2 ^ 31 by decide), nI_clamp (show hlv to h < 2 ^ 31 by omega), k1, k2, o1, o2]
  rw [show nI 2 * nI (hxv to (hlv to h) / 2) + nI (hxv to (hlv to h) % 2) = nI (hxv to (hlv to h)) from two_e _]
  by_cases c : hxv to (hlv to h) = h
  · rw [if_pos (by rw [c])]
    exact key 1 true rfl (by unfold alo; rw [decide_eq_true c])
  · rw [if_neg (fun e => c (nI_inj e (by omega) (by omega)))]
    exact key 0 false rfl (by unfold alo; rw [decide_eq_false c])
end STEP
