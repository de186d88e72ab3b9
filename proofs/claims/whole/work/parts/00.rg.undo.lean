/-- the reference's state with a word of trouble -/
noncomputable def stt (md : MdS) (k : Int32) : MdS := Md_where' (Md_trouble' md k) (-1)
theorem good_t (md : MdS) (v : Int32) : f_X13_good md v = some (v, stt md 0) := rfl
theorem refused_t (md : MdS) (k : Int32) : f_X13_refused md k = some (-1, stt md k) := rfl
theorem lost_t (md : MdS) (k : Int32) : f_X13_lost md k = some (-100, stt md k) := rfl
theorem denied_t (md : MdS) (k : Int32) : f_X13_denied md k = some (0, stt md k) := rfl
theorem granted_t (md : MdS) : f_X13_granted md = some (1, stt md 0) := rfl
section UNDO
variable {tn : TnS}
def NW (tn : TnS) (now : MoS) (md : MdS) : Prop := MS tn now (Md_now md) (Md_parted md) (Md_lifted md) (Md_seed md)
/-- what no act touches, and what each act that is granted leaves -/
def RST (md md' : MdS) : Prop := Md_tape md' = Md_tape md ∧ Md_taped md' = Md_taped md ∧ Md_fault md' = Md_fault md ∧ Md_thrown md' = 0 ∧ Md_trouble md' = 0 ∧ Md_where md' = -1
theorem HR.of {hi : HiS} {md md' : MdS} (h : HR tn hi md) (e1 : Md_acts md' = Md_acts md) (e2 : Md_marks md' = Md_marks md) (e3 : Md_pastNow md' = Md_pastNow md) (e4 : Md_pastParted md' = Md_pastParted md) (e5 : Md_pastSeed md' = Md_pastSeed md) (e6 : Md_pastLifted md' = Md_pastLifted md) (e7 : Md_keptNow md' = Md_keptNow md) (e8 : Md_keptParted md' = Md_keptParted md) (e9 : Md_keptSeed md' = Md_keptSeed md) (e10 : Md_keptLifted md' = Md_keptLifted md) : HR tn hi md' := by
  unfold HR at h ⊢
  rw [e1, e2, e3, e4, e5, e6, e7, e8, e9, e10]
  exact h
theorem undo_e {hi : HiS} {now : MoS} {md : MdS} (h : HR tn hi md) : Ok (f_X13_undo md) (fun q =>
    (q.1 = 0 ∧ q.2 = stt (Md_thrown' md 0) 6 ∧ f_X3_giveLatest hi now = some (0, hi, now)) ∨
    (q.1 = 1 ∧ Ok (f_X3_giveLatest hi now) (fun c => c.1 = 1 ∧ HR tn c.2.1 q.2 ∧ NW tn c.2.2 q.2) ∧ RST md q.2)) := by
  obtain ⟨k, f, m, hk, hf, hm3, e1, e2, e3, e4, e5, hp, hq⟩ := h
  unfold f_X13_undo f_X3_giveLatest
  rw [lt1_e, gn_acts_thrown, e2, e1]
  by_cases c : k = 0
  · subst c
    rw [if_pos (show nI 0 = 0 from rfl), if_pos (show nI 0 = 0 from rfl)]
    unfold f_X13_undo_L19
    rw [denied_t, bd2_e rfl, zb_i (Or.inl rfl), Ok_some]
    exact Or.inl ⟨rfl, rfl, rfl⟩
  · have hc : Int32.toNatClampNeg (nI (k - 1)) = k - 1 := nI_clamp (by omega)
    have hs : nI k - 1 = nI (k - 1) := nI_sub (b := 1) (by omega)
    have k1 : ∀ (K : Option (Int32 × MdS)), ck (nI (k - 1)) 16 K = K := fun K => ckI (by omega) (by decide)
    have c1 : Int32.toNatClampNeg (nI ((f + 15) % 16)) = (f + 15) % 16 := nI_clamp (by omega)
    have hn0 : ¬ (nI k = 0) := nI_ne0 (by omega) (by omega)
    rw [if_neg hn0, if_neg hn0]
    simp only [lt1_e, GW_thrown, GW_acts, GW_now, GW_parted, GW_seed, e2, hs, k1, hc]
    rw [granted_t, bd2_e rfl, zb_i (Or.inr rfl), Ok_some]
    refine Or.inr ⟨rfl, ?_, ?_⟩
    · rw [show Hi_free (Hi_kept' hi (nI (k - 1))) = nI f from e3, f15c f hf]
      rw [show Hi_free (Hi_free' (Hi_kept' hi (nI (k - 1))) (nI ((f + 15) % 16))) = nI ((f + 15) % 16) from rfl, ckI (by omega) (by decide), become_e, bd1_e rfl, c1, Ok_some]
      refine ⟨rfl, ⟨k - 1, (f + 15) % 16, m, by omega, by omega, hm3, rfl, ?_, rfl, e4, ?_, ?_, ?_⟩, ?_⟩
      · simp only [stt, GW_where, GW_trouble, GW_lifted, GW_seed, GW_parted, GW_now, GW_acts]
      · simp only [stt, GW_where, GW_trouble, GW_lifted, GW_seed, GW_parted, GW_now, GW_acts, GW_thrown, e5]
      · intro j hj
        simp only [stt, GW_where, GW_trouble, GW_lifted, GW_seed, GW_parted, GW_now, GW_acts, GW_thrown]
        have := hp j (by omega)
        rw [show (f + 16 - k + j) % 16 = ((f + 15) % 16 + 16 - (k - 1) + j) % 16 by omega] at this
        exact this
      · intro j hj
        simp only [stt, GW_where, GW_trouble, GW_lifted, GW_seed, GW_parted, GW_now, GW_acts, GW_thrown]
        exact hq j hj
      · unfold NW
        simp only [stt, GW_where, GW_trouble, GW_lifted, GW_seed, GW_parted, GW_now, GW_acts, GW_thrown]
        have := hp (k - 1) (by omega)
        rw [show (f + 16 - k + (k - 1)) % 16 = (f + 15) % 16 by omega] at this
        exact this
    · unfold RST
      simp only [stt, GW_where, GW_trouble, GW_lifted, GW_seed, GW_parted, GW_now, GW_acts, GW_thrown, and_self]
end UNDO
