def PLS (tn : TnS) (plus lf : Int32) : Prop := ∀ x, x < nX tn → (bitB plus x = true ↔ sgnk tn lf x = 1)
/-- a board that is laid -/
def BO (ri : RiS) (tn : TnS) (pt : Option Nat) (lf : Int32) (kc t : Int64) (plus : Int32) (bo : BoS) : Prop :=
  Bo_key bo = kc ∧ Bo_plus bo = plus ∧ Bo_parted bo = ptv pt ∧ Bo_left bo = nI (lft tn t) ∧ GB tn pt lf t bo ∧
  (∀ j v, (preL ri tn pt t (nR tn))[j]? = some v → Bo_walk bo j = nI (nib t v)) ∧ (∀ r, r ≤ nR tn → Bo_walkStart bo r = nI (preL ri tn pt t r).length) ∧
  NI bo (MR (mayB tn pt lf t) 0)
section LAY
variable {ri : RiS} {tn : TnS} {pt : Option Nat} {t kc : Int64} {lf plus : Int32} {bo0 : BoS}
theorem Fm_CF (hT : TW tn) : Fm tn pt lf t (CF (nX tn)) = MR (mayB tn pt lf t) 0 := by
  have h1 := (CF_all (nX tn) hT.x7).1
  have e : ∀ l : List Nat, l.filter (mayB tn pt lf t) = (l.filter (isMv (nX tn))).filter (mayB tn pt lf t) := by
    intro l
    rw [List.filter_filter]
    refine List.filter_congr (fun m _ => ?_)
    cases h : mayB tn pt lf t m with
    | false => simp
    | true => simp [(mayB_t.mp h).1]
  unfold Fm
  rw [e, ← h1]
  unfold MR
  rw [← e]
theorem lay3 (hT : TW tn) (hC : CW tn t) (hR : TR ri tn) (hG : GB tn pt lf t bo0) :
    ∀ n a pre bo, nX tn - a < n → a ≤ nX tn → LI tn pt lf t bo0 bo pre → pre ++ CF3 (nX tn) a = CF (nX tn) → Ok (f_X0_layOut_L210 n (nI a) bo ri) (fun bo' => LI tn pt lf t bo0 bo' (CF (nX tn))) := by
  have h7 := hT.x7
  intro n
  induction n with
  | zero => intro a pre bo h; omega
  | succ n ih =>
    intro a pre bo hn ha hL hr
    rw [f_X0_layOut_L210, hR.X]
    by_cases haX : a = nX tn
    · rw [if_pos (by rw [haX]; exact nI_le (Nat.le_refl _) (by omega)), Ok_some]
      have : CF3 (nX tn) a = [] := by unfold CF3; rw [r_nil (by omega)]; rfl
      rw [this, List.append_nil] at hr
      rw [← hr]
      exact hL
    · have ha2 : a < nX tn := by omega
      have ec : CF3 (nX tn) a = CFb (nX tn) a 0 ++ CF3 (nX tn) (a + 1) := by unfold CF3; rw [r_cons ha2]; rfl
      rw [ec] at hr
      rw [if_neg (nI_ge ha2 (by omega)), Ok_bd1]
      refine (listSteps_e hT hC hR hG ha2 hL hr).mono (fun bo' h => ?_)
      rw [lt1_e, nI_1]
      exact ih (a + 1) _ bo' (by omega) (by omega) h (by rw [← hr]; simp)
theorem lay2 (hT : TW tn) (hC : CW tn t) (hR : TR ri tn) (hG : GB tn pt lf t bo0) :
    ∀ n a pre bo, nX tn - a < n → a ≤ nX tn → LI tn pt lf t bo0 bo pre → pre ++ (CF2 (nX tn) a ++ CF3 (nX tn) 0) = CF (nX tn) → Ok (f_X0_layOut_L183 n (nI a) bo ri) (fun bo' => LI tn pt lf t bo0 bo' (CF (nX tn))) := by
  have h7 := hT.x7
  intro n
  induction n with
  | zero => intro a pre bo h; omega
  | succ n ih =>
    intro a pre bo hn ha hL hr
    rw [f_X0_layOut_L183, hR.X]
    by_cases haX : a = nX tn
    · rw [if_pos (by rw [haX]; exact nI_le (Nat.le_refl _) (by omega))]
      have : CF2 (nX tn) a = [] := by unfold CF2; rw [r_nil (by omega)]; rfl
      rw [this, List.nil_append] at hr
      exact lay3 hT hC hR hG FU 0 pre bo (by rw [FU_e]; omega) (by omega) hL hr
    · have ha2 : a < nX tn := by omega
      have ec : CF2 (nX tn) a = CFs (nX tn) a (a + 1) ++ CF2 (nX tn) (a + 1) := by unfold CF2; rw [r_cons ha2]; rfl
      rw [ec, List.append_assoc] at hr
      rw [if_neg (nI_ge ha2 (by omega)), Ok_bd1]
      refine (listSlips_e hT hC hR hG ha2 hL hr).mono (fun bo' h => ?_)
      rw [lt1_e, nI_1]
      exact ih (a + 1) _ bo' (by omega) (by omega) h (by rw [← hr]; simp)
theorem lay1 (hT : TW tn) (hC : CW tn t) (hR : TR ri tn) (hG : GB tn pt lf t bo0) :
    ∀ n a pre bo, nX tn - a < n → a ≤ nX tn → LI tn pt lf t bo0 bo pre → pre ++ (CF1 (nX tn) a ++ (CF2 (nX tn) 0 ++ CF3 (nX tn) 0)) = CF (nX tn) → Ok (f_X0_layOut_L156 n (nI a) bo ri) (fun bo' => LI tn pt lf t bo0 bo' (CF (nX tn))) := by
  have h7 := hT.x7
  intro n
  induction n with
  | zero => intro a pre bo h; omega
  | succ n ih =>
    intro a pre bo hn ha hL hr
    rw [f_X0_layOut_L156, hR.X]
    by_cases haX : a = nX tn
    · rw [if_pos (by rw [haX]; exact nI_le (Nat.le_refl _) (by omega))]
      have : CF1 (nX tn) a = [] := by unfold CF1; rw [r_nil (by omega)]
      rw [this, List.nil_append] at hr
      exact lay2 hT hC hR hG FU 0 pre bo (by rw [FU_e]; omega) (by omega) hL hr
    · have ha2 : a < nX tn := by omega
      have ec : CF1 (nX tn) a = a :: CF1 (nX tn) (a + 1) := by unfold CF1; rw [r_cons ha2]
      rw [ec, List.cons_append] at hr
      rw [if_neg (nI_ge ha2 (by omega)), Ok_bd1]
      refine (turn_e hT (hG.of hL.2) ha2 hL hr).mono (fun bo' h => ?_)
      rw [lt1_e, nI_1]
      exact ih (a + 1) _ bo' (by omega) (by omega) h (by rw [← hr]; simp)
/-- while rings are walked over -/
def RW (ri : RiS) (tn : TnS) (pt : Option Nat) (t kc : Int64) (plus : Int32) (r : Nat) (bo : BoS) : Prop :=
  Bo_key bo = kc ∧ Bo_plus bo = plus ∧ Bo_parted bo = ptv pt ∧ WI (nX tn) t bo (preL ri tn pt t r) (PA ri tn pt t r) ∧ ∀ j, j < r → Bo_walkStart bo j = nI (preL ri tn pt t j).length
theorem lay_rings (hT : TW tn) (hR : TR ri tn) (hD : DW tn pt t) (hK : KR tn kc t) (hP : PLS tn plus lf) :
    ∀ n r bo, nR tn - r < n → r ≤ nR tn → RW ri tn pt t kc plus r bo → Ok (f_X0_layOut_L89 n (nI (preL ri tn pt t r).length) (nI r) bo ri) (BO ri tn pt lf kc t plus) := by
  have h7 := hT.x7
  have h14 := hT.s14
  have h8 := hT.r8
  have hw := hD.pt
  intro n
  induction n with
  | zero => intro r bo h; omega
  | succ n ih =>
    intro r bo hn hr hW
    obtain ⟨k1, k2, k3, k4, k5⟩ := hW
    rw [f_X0_layOut_L89, hR.R]
    by_cases e : r = nR tn
    · subst e
      have hlen : (preL ri tn pt t (nR tn)).length = cnt tn t := by
        rw [len_preL hR hw _ (Nat.le_refl _), hR.fsR]
        rfl
      have hcnt := cnt_le tn t
      rw [if_pos (nI_le (Nat.le_refl _) (by omega)), ckI (by omega) (by omega), nI_clamp (by omega), lt1_e, lt1_e, lt1_e, li_2, nI_div (by omega) (by omega), hlen]
      have hG : GB tn pt lf t (Bo_count' (Bo_left' (Bo_walkStart' bo (upd (Bo_walkStart bo) (nR tn) (nI (cnt tn t)))) (nI (cnt tn t / 2))) 0) := by
        refine ⟨fun p hp => ?_, k4.2.2.congr (fun p q => PA_iff hT hR hD), ?_⟩
        · show Bo_standing bo p = _
          rcases k4.2.1 p hp with ⟨s, h1, h2, h3⟩ | ⟨h1, h2⟩
          · obtain ⟨h4, _, _⟩ := (mem_preL hR hw (Nat.le_refl _)).mp h1
            rw [h3, (spt_some hD.1 (by omega)).mpr ⟨h4, h2⟩]
            rfl
          · have : spt tn t p = none := spt_none.mpr (fun s hs e => h2 s ((mem_preL hR hw (Nat.le_refl _)).mpr ⟨hs, hT.rgR hs, by rw [e]; omega⟩) e)
            rw [h1, this]
            rfl
        · show ∀ x, x < nX tn → (bitB (Bo_plus bo) x = true ↔ sgnk tn lf x = 1)
          rw [k2]
          exact hP
      refine (lay1 hT hD.1 hR hG FU 0 [] _ (by rw [FU_e]; omega) (by omega) ⟨⟨rfl, fun j m hj => by cases hj⟩, rfl⟩ rfl).mono (fun bo' h => ?_)
      obtain ⟨h1, h2⟩ := h
      rw [Fm_CF hT] at h1
      have ws : Bo_walkStart bo' = upd (Bo_walkStart bo) (nR tn) (nI (cnt tn t)) := (congrArg Bo_walkStart h2 : Bo_walkStart (gcore bo') = Bo_walkStart (gcore _))
      have wk : Bo_walk bo' = Bo_walk bo := (congrArg Bo_walk h2 : Bo_walk (gcore bo') = Bo_walk (gcore _))
      refine ⟨(congrArg Bo_key h2 : Bo_key (gcore bo') = Bo_key (gcore _)).trans k1, (congrArg Bo_plus h2 : Bo_plus (gcore bo') = Bo_plus (gcore _)).trans k2, (congrArg Bo_parted h2 : Bo_parted (gcore bo') = Bo_parted (gcore _)).trans k3, (congrArg Bo_left h2 : Bo_left (gcore bo') = Bo_left (gcore _)), hG.of h2, fun j v hj => ?_, fun j hj => ?_, h1⟩
      · rw [wk]; exact k4.1 j v hj
      · rw [ws]
        by_cases e : j = nR tn
        · rw [e, upd_at, hlen]
        · rw [upd_ne e]; exact k5 j (by omega)
    · have hr2 : r < nR tn := by omega
      rw [if_neg (nI_ge hr2 (by omega)), ckI (by omega) (by omega), nI_clamp (by omega), lt1_e, Ok_bd2]
      refine (walkRound_e (bo := Bo_walkStart' bo (upd (Bo_walkStart bo) r (nI (preL ri tn pt t r).length))) hT hD.1 hR hw hK hr2 k1 k3 k4).mono (fun q h => ?_)
      obtain ⟨h1, h2, h3⟩ := h
      rw [lt1_e, nI_1, h1]
      refine ih (r + 1) q.2 (by omega) (by omega) ⟨(congrArg (fun z => z.1) h3 : _).trans k1, (congrArg (fun z => z.2.1) h3 : _).trans k2, (congrArg (fun z => z.2.2.1) h3 : _).trans k3, h2, fun j hj => ?_⟩
      have ws : Bo_walkStart q.2 = upd (Bo_walkStart bo) r (nI (preL ri tn pt t r).length) := (congrArg (fun z => z.2.2.2.2.1) h3)
      rw [ws]
      by_cases e : j = r
      · rw [e, upd_at]
      · rw [upd_ne e]; exact k5 j (by omega)
theorem lay_clear (hT : TW tn) (hR : TR ri tn) (hD : DW tn pt t) (hK : KR tn kc t) (hP : PLS tn plus lf) :
    ∀ n x bo, nX tn - x < n → x ≤ nX tn → Bo_key bo = kc → Bo_plus bo = plus → Bo_parted bo = ptv pt → (∀ p, p < 2 * x → Bo_standing bo p = -1) → (∀ y, y < x → Bo_overByOver bo y = 0 ∧ Bo_overByUnder bo y = 0 ∧ Bo_underByUnder bo y = 0) → Ok (f_X0_layOut_L19 n (nI x) bo ri) (BO ri tn pt lf kc t plus) := by
  have h7 := hT.x7
  have h8 := hT.r8
  intro n
  induction n with
  | zero => intro x bo h; omega
  | succ n ih =>
    intro x bo hn hx k1 k2 k3 hs hb
    rw [f_X0_layOut_L19, hR.X]
    by_cases e : x = nX tn
    · rw [if_pos (by rw [e]; exact nI_le (Nat.le_refl _) (by omega))]
      subst e
      refine lay_rings hT hR hD hK hP FU 0 bo (by rw [FU_e]; omega) (by omega) ⟨k1, k2, k3, ⟨fun j v hj => (by cases hj), fun p hp => Or.inr ⟨hs p hp, fun s h => (by cases h)⟩, fun x y hx hy => ?_⟩, fun j hj => by omega⟩
      obtain ⟨b1, b2, b3⟩ := hb x hx
      have no : ∀ p q, ¬ PA ri tn pt t 0 p q := fun p q ⟨i, a, b, h, _⟩ => by omega
      rw [b1, b2, b3, bit_0]
      exact ⟨⟨fun h => (by cases h), fun h => absurd h (no _ _)⟩, ⟨fun h => (by cases h), fun h => absurd h (no _ _)⟩, ⟨fun h => (by cases h), fun h => absurd h (no _ _)⟩⟩
    · have hx2 : x < nX tn := by omega
      rw [if_neg (nI_ge hx2 (by omega)), i21, i2, ckI (by omega) (by omega), lt1_e, ckI (by omega) (by omega), lt1_e, ckI (by omega) (by omega), lt1_e, ckI (by omega) (by omega), lt1_e, ckI (by omega) (by omega), lt1_e, lt1_e, nI_1, nI_clamp (by omega), nI_clamp (by omega), nI_clamp (by omega)]
      refine ih (x + 1) _ (by omega) (by omega) k1 k2 k3 (fun p hp => ?_) (fun y hy => ⟨?_, ?_, ?_⟩)
      · show upd (upd (Bo_standing bo) (2 * x) (-1)) (2 * x + 1) (-1) p = -1
        by_cases e1 : p = 2 * x + 1
        · rw [e1, upd_at]
        · rw [upd_ne e1]
          by_cases e2 : p = 2 * x
          · rw [e2, upd_at]
          · rw [upd_ne e2]; exact hs p (by omega)
      · show upd (Bo_overByOver bo) x 0 y = 0
        by_cases e1 : y = x
        · rw [e1, upd_at]
        · rw [upd_ne e1]; exact (hb y (by omega)).1
      · show upd (Bo_overByUnder bo) x 0 y = 0
        by_cases e1 : y = x
        · rw [e1, upd_at]
        · rw [upd_ne e1]; exact (hb y (by omega)).2.1
      · show upd (Bo_underByUnder bo) x 0 y = 0
        by_cases e1 : y = x
        · rw [e1, upd_at]
        · rw [upd_ne e1]; exact (hb y (by omega)).2.2
theorem layOut_e (hT : TW tn) (hR : TR ri tn) (hD : DW tn pt t) (hK : KR tn kc t) (hP : PLS tn plus lf) (bo : BoS) : Ok (f_X0_layOut bo ri kc plus (ptv pt)) (BO ri tn pt lf kc t plus) := by
  unfold f_X0_layOut
  rw [lt1_e, lt1_e, lt1_e]
  exact lay_clear hT hR hD hK hP FU 0 _ (by rw [FU_e]; have := hT.x7; omega) (by omega) rfl rfl rfl (fun p h => by omega) (fun y h => by omega)
end LAY
