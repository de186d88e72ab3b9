theorem become_e (mo om : MoS) : f_X4_become mo om = some om := rfl
section HIST
variable {tn : TnS}
/-- a Moment of the class tells what the reference's words tell -/
def MS (tn : TnS) (mo : MoS) (t : Int64) (pv lf sd : Int32) : Prop :=
  ∃ (pt : Option Nat) (s : Nat), s < 65537 ∧ DW tn pt t ∧ KR tn (Mo_key mo) t ∧ PLS tn (Mo_plus mo) lf ∧ Mo_parted mo = ptv pt ∧ pv = ptv pt ∧ Mo_seed mo = nI s ∧ sd = nI s
/-- the class's History and the reference's -/
def HR (tn : TnS) (hi : HiS) (md : MdS) : Prop :=
  ∃ k f m : Nat, k ≤ 16 ∧ f < 16 ∧ m ≤ 3 ∧ Hi_kept hi = nI k ∧ Md_acts md = nI k ∧ Hi_free hi = nI f ∧ Hi_marked hi = nI m ∧ Md_marks md = nI m ∧
  (∀ j, j < k → MS tn (Hi_mo hi ((f + 16 - k + j) % 16)) (Md_pastNow md j) (Md_pastParted md j) (Md_pastLifted md j) (Md_pastSeed md j)) ∧
  (∀ j, j < m → MS tn (Hi_mk hi j) (Md_keptNow md j) (Md_keptParted md j) (Md_keptLifted md j) (Md_keptSeed md j))
def shf {α : Type} (f : Nat → α) (i : Nat) : Nat → α := fun j => if j < i then f (j + 1) else f j
theorem shf_0 {α : Type} (f : Nat → α) : shf f 0 = f := by
  funext j
  exact if_neg (by omega)
theorem shf_s {α : Type} (f : Nat → α) (i : Nat) : (fun j => if j = i then shf f i (i + 1) else shf f i j) = shf f (i + 1) := by
  funext j
  unfold shf
  by_cases h : j = i
  · subst h
    rw [if_pos rfl, if_neg (by omega), if_pos (by omega)]
  · rw [if_neg h]
    by_cases c : j < i
    · rw [if_pos c, if_pos (by omega)]
    · rw [if_neg c, if_neg (by omega)]
theorem shf_L (f : Nat → Int64) (i : Nat) : vp_updL (shf f i) i (shf f i (i + 1)) = shf f (i + 1) := shf_s f i
theorem shf_I (f : Nat → Int32) (i : Nat) : upd (shf f i) i (shf f i (i + 1)) = shf f (i + 1) := shf_s f i
/-- the reference's past, one laid to it -/
def PK (md md' : MdS) (k : Nat) (a : Nat → Int64) (b c d : Nat → Int32) : Prop :=
  KP md md' ∧ Md_acts md' = nI (k + 1) ∧ Md_pastNow md' = vp_updL a k (Md_now md) ∧ Md_pastParted md' = upd b k (Md_parted md) ∧ Md_pastSeed md' = upd c k (Md_seed md) ∧ Md_pastLifted md' = upd d k (Md_lifted md)
theorem keeps91_e {md0 md : MdS} {k : Nat} (hk : k < 16) (hk0 : KP md0 md) (ha : Md_acts md = nI k) : Ok (f_X13_keeps_L91 md) (fun md' => PK md0 md' k (Md_pastNow md) (Md_pastParted md) (Md_pastSeed md) (Md_pastLifted md)) := by
  have hc : Int32.toNatClampNeg (nI k) = k := nI_clamp (by omega)
  unfold f_X13_keeps_L91 PK
  simp only [lt1_e, gn_acts_pastNow, gn_acts_pastParted, gn_acts_pastSeed, gn_acts_pastLifted, gn_now_pastNow, gn_parted_pastNow, gn_seed_pastNow, gn_seed_pastParted, gn_lifted_pastNow, gn_lifted_pastParted, gn_lifted_pastSeed, gn_pastParted_pastNow, gn_pastSeed_pastNow, gn_pastSeed_pastParted, gn_pastLifted_pastNow, gn_pastLifted_pastParted, gn_pastLifted_pastSeed, ha, ckI (show k < 16 from hk) (by decide), hc, Ok_some, gs_acts, gn_pastNow_acts, gn_pastParted_acts, gn_pastSeed_acts, gn_pastLifted_acts, gn_pastNow_pastParted, gn_pastNow_pastSeed, gn_pastNow_pastLifted, gn_pastParted_pastSeed, gn_pastParted_pastLifted, gn_pastSeed_pastLifted, gs_pastNow, gs_pastParted, gs_pastSeed, gs_pastLifted, hk0.now, hk0.parted, hk0.seed, hk0.lifted, nI_1]
  exact ⟨hk0.trans ((KP.u_pastNow _ _).trans ((KP.u_pastParted _ _).trans ((KP.u_pastSeed _ _).trans ((KP.u_pastLifted _ _).trans (KP.u_acts _ _))))), by first | trivial | rfl, by first | trivial | rfl, by first | trivial | rfl, by first | trivial | rfl, by first | trivial | rfl⟩
theorem keeps11_e {md0 : MdS} (h16 : Md_acts md0 = nI 16) : ∀ rem n i md, i + rem = 15 → rem < n → KP md0 md → Md_acts md = nI 16 → Md_pastNow md = shf (Md_pastNow md0) i → Md_pastParted md = shf (Md_pastParted md0) i → Md_pastSeed md = shf (Md_pastSeed md0) i → Md_pastLifted md = shf (Md_pastLifted md0) i →
    Ok (f_X13_keeps_L11 n (nI i) md) (fun md' => PK md0 md' 15 (shf (Md_pastNow md0) 15) (shf (Md_pastParted md0) 15) (shf (Md_pastSeed md0) 15) (shf (Md_pastLifted md0) 15)) := by
  intro rem
  induction rem with
  | zero =>
    intro n i md hi hn hk ha e1 e2 e3 e4
    obtain rfl : i = 15 := by omega
    cases n with
    | zero => omega
    | succ n =>
      rw [f_X13_keeps_L11, if_pos (by decide), lt1_e, ha, ← e1, ← e2, ← e3, ← e4]
      have := keeps91_e (md0 := md0) (md := Md_acts' md (nI 16 - 1)) (k := 15) (by omega) (hk.trans (KP.u_acts _ _)) (by rw [gs_acts]; decide)
      rw [gn_pastNow_acts, gn_pastParted_acts, gn_pastSeed_acts, gn_pastLifted_acts] at this
      exact this
  | succ rem ih =>
    intro n i md hi hn hk ha e1 e2 e3 e4
    cases n with
    | zero => omega
    | succ n =>
      have c1 : Int32.toNatClampNeg (nI i) = i := nI_clamp (by omega)
      have c2 : Int32.toNatClampNeg (nI (i + 1)) = i + 1 := nI_clamp (by omega)
      have k1 : ∀ (K : Option MdS), ck (nI i) 16 K = K := fun K => ckI (by omega) (by decide)
      have k2 : ∀ (K : Option MdS), ck (nI (i + 1)) 16 K = K := fun K => ckI (by omega) (by decide)
      rw [f_X13_keeps_L11]
      simp only [nI_1, c1, c2, k1, k2, lt1_e, gn_pastParted_pastNow, gn_pastSeed_pastNow, gn_pastSeed_pastParted, gn_pastLifted_pastNow, gn_pastLifted_pastParted, gn_pastLifted_pastSeed]
      have q16 : ¬ (nI 16 ≤ nI (i + 1)) := nI_ge (show i + 1 < 16 by omega) (by omega)
      rw [if_neg (show ¬ ((16 : Int32) ≤ nI (i + 1)) from q16)]
      refine ih n (i + 1) _ (by omega) (by omega) (hk.trans ((KP.u_pastNow _ _).trans ((KP.u_pastParted _ _).trans ((KP.u_pastSeed _ _).trans (KP.u_pastLifted _ _))))) ?_ ?_ ?_ ?_ ?_
      · rw [gn_acts_pastLifted, gn_acts_pastSeed, gn_acts_pastParted, gn_acts_pastNow, ha]
      · rw [gn_pastNow_pastLifted, gn_pastNow_pastSeed, gn_pastNow_pastParted, gs_pastNow, e1, shf_L]
      · rw [gn_pastParted_pastLifted, gn_pastParted_pastSeed, gs_pastParted, e2, shf_I]
      · rw [gn_pastSeed_pastLifted, gs_pastSeed, e3, shf_I]
      · rw [gs_pastLifted, e4, shf_I]
theorem keeps_e {md : MdS} {k : Nat} (hk : k ≤ 16) (ha : Md_acts md = nI k) : Ok (f_X13_keeps md) (fun md' => if k = 16 then PK md md' 15 (shf (Md_pastNow md) 15) (shf (Md_pastParted md) 15) (shf (Md_pastSeed md) 15) (shf (Md_pastLifted md) 15) else PK md md' k (Md_pastNow md) (Md_pastParted md) (Md_pastSeed md) (Md_pastLifted md)) := by
  unfold f_X13_keeps
  by_cases c : k = 16
  · subst c
    rw [if_pos (show Md_acts md = (16 : Int32) from ha)]
    simp only [if_pos]
    exact keeps11_e ha 15 FU 0 md (by omega) (by rw [FU_e]; omega) (KP.refl md) ha (shf_0 _).symm (shf_0 _).symm (shf_0 _).symm (shf_0 _).symm
  · have hne : ¬ (Md_acts md = (16 : Int32)) := by
      rw [ha]
      intro e
      exact c (nI_inj (b := 16) e (by omega) (by omega))
    rw [if_neg hne]
    simp only [if_neg c]
    exact keeps91_e (by omega) (KP.refl md) ha
theorem f15a : ∀ f : Nat, f < 16 → nI f &&& (15 : Int32) = nI f := by decide
theorem f15b : ∀ f : Nat, f < 16 → nI (f + 1) &&& (15 : Int32) = nI ((f + 1) % 16) := by decide
theorem f15c : ∀ f : Nat, f < 16 → (nI f - 1) &&& (15 : Int32) = nI ((f + 15) % 16) := by decide
theorem keep_e {hi : HiS} {now : MoS} {md : MdS} (h : HR tn hi md) (hm : MS tn now (Md_now md) (Md_parted md) (Md_lifted md) (Md_seed md)) :
    Ok (f_X13_keeps md) (fun md' => KP md md' ∧ Ok (f_X3_keep hi now) (fun hi' => HR tn hi' md')) := by
  obtain ⟨k, f, m, hk, hf, hm3, e1, e2, e3, e4, e5, hp, hq⟩ := h
  refine (keeps_e hk e2).mono (fun md' hmd => ?_)
  have hkp : KP md md' := by
    by_cases c : k = 16
    · rw [if_pos c] at hmd; exact hmd.1
    · rw [if_neg c] at hmd; exact hmd.1
  refine ⟨hkp, ?_⟩
  have hc : Int32.toNatClampNeg (nI f) = f := nI_clamp (by omega)
  have hi' : f_X3_keep hi now = some (Hi_kept' (Hi_free' (Hi_mo' hi (va_up (Hi_mo hi) f now)) (nI ((f + 1) % 16))) (nI (min (k + 1) 16))) := by
    unfold f_X3_keep
    rw [e3, f15a f hf, ckI hf (by decide), hc, become_e, bd1_e rfl, lt1_e, lt1_e]
    rw [show Hi_free (Hi_mo' hi (va_up (Hi_mo hi) f now)) = nI f from e3, nI_1, f15b f hf, lt1_e]
    rw [show Hi_kept (Hi_free' (Hi_mo' hi (va_up (Hi_mo hi) f now)) (nI ((f + 1) % 16))) = nI k from e1, nI_1]
    by_cases c : k = 16
    · subst c
      rw [if_pos (by decide)]
      rfl
    · have q16 : ¬ (nI 16 < nI (k + 1)) := nI_nlt (show k + 1 ≤ 16 by omega) (by omega)
      rw [if_neg (show ¬ ((16 : Int32) < nI (k + 1)) from q16), show min (k + 1) 16 = k + 1 by omega]
  rw [hi', Ok_some]
  refine ⟨min (k + 1) 16, (f + 1) % 16, m, by omega, by omega, hm3, rfl, ?_, rfl, e4, hkp.marks.trans e5, ?_, ?_⟩
  · by_cases c : k = 16
    · rw [if_pos c] at hmd; rw [hmd.2.1, show min (k + 1) 16 = 15 + 1 by omega]
    · rw [if_neg c] at hmd; rw [hmd.2.1, show min (k + 1) 16 = k + 1 by omega]
  · intro j hj
    show MS tn (va_up (Hi_mo hi) f now (((f + 1) % 16 + 16 - min (k + 1) 16 + j) % 16)) _ _ _ _
    by_cases c : k = 16
    · rw [if_pos c] at hmd
      obtain ⟨_, _, h3, h4, h5, h6⟩ := hmd
      rw [h3, h4, h5, h6, updL_if, upd_if, upd_if, upd_if]
      by_cases d : j = 15
      · rw [if_pos d, if_pos d, if_pos d, if_pos d, show ((f + 1) % 16 + 16 - min (k + 1) 16 + j) % 16 = f by omega, vaup_at]
        exact hm
      · rw [if_neg d, if_neg d, if_neg d, if_neg d, vaup_ne (by omega), show ((f + 1) % 16 + 16 - min (k + 1) 16 + j) % 16 = (f + 16 - k + (j + 1)) % 16 by omega]
        unfold shf
        rw [if_pos (by omega), if_pos (by omega), if_pos (by omega), if_pos (by omega)]
        exact hp (j + 1) (by omega)
    · rw [if_neg c] at hmd
      obtain ⟨_, _, h3, h4, h5, h6⟩ := hmd
      rw [h3, h4, h5, h6, updL_if, upd_if, upd_if, upd_if]
      by_cases d : j = k
      · rw [if_pos d, if_pos d, if_pos d, if_pos d, show ((f + 1) % 16 + 16 - min (k + 1) 16 + j) % 16 = f by omega, vaup_at]
        exact hm
      · rw [if_neg d, if_neg d, if_neg d, if_neg d, vaup_ne (by omega), show ((f + 1) % 16 + 16 - min (k + 1) 16 + j) % 16 = (f + 16 - k + j) % 16 by omega]
        exact hp j (by omega)
  · intro j hj
    rw [hkp.keptNow, hkp.keptParted, hkp.keptLifted, hkp.keptSeed]
    exact hq j hj
end HIST
