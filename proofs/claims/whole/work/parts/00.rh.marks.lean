section MARKS
variable {tn : TnS}
theorem mark_e {hi : HiS} {now : MoS} {md : MdS} (h : HR tn hi md) (hN : NW tn now md) : Ok (f_X13_mark md) (fun q =>
    (q.1 = -1 ∧ q.2 = stt (Md_thrown' md 0) 3 ∧ f_X3_setMark hi now = some (-1, hi)) ∨
    (∃ m, m < 3 ∧ q.1 = nI m ∧ Ok (f_X3_setMark hi now) (fun c => c.1 = nI m ∧ HR tn c.2 q.2) ∧ (Md_now q.2 = Md_now md ∧ Md_parted q.2 = Md_parted md ∧ Md_seed q.2 = Md_seed md ∧ Md_lifted q.2 = Md_lifted md) ∧ RST md q.2)) := by
  obtain ⟨k, f, m, hk, hf, hm3, e1, e2, e3, e4, e5, hp, hq⟩ := h
  unfold f_X13_mark f_X3_setMark
  rw [lt1_e, gn_marks_thrown, e5, e4]
  by_cases c : m = 3
  · subst c
    rw [if_pos (show nI 3 = 3 from rfl), if_neg (show ¬ (nI 3 < 3) by decide)]
    rw [refused_t, bd2_e rfl, Ok_some]
    exact Or.inl ⟨rfl, rfl, rfl⟩
  · have hc : Int32.toNatClampNeg (nI m) = m := nI_clamp (by omega)
    have k1 : ∀ (K : Option (Int32 × MdS)), ck (nI m) 3 K = K := fun K => ckI (by omega) (by decide)
    have k2 : ∀ (K : Option (Int32 × HiS)), ck (nI m) 3 K = K := fun K => ckI (by omega) (by decide)
    have hn3 : ¬ (nI m = 3) := fun e => c (nI_inj (b := 3) e (by omega) (by omega))
    have hl3 : nI m < nI 3 := nI_lt (by omega) (by omega)
    have hs : nI (m + 1) - 1 = nI m := nI_sub (a := m + 1) (b := 1) (by omega)
    rw [if_neg hn3, if_pos (show nI m < 3 from hl3)]
    simp only [lt1_e, GW_thrown, GW_keptNow, GW_keptParted, GW_keptSeed, GW_keptLifted, GW_marks, e5, k1, k2, hc, nI_1, hs]
    rw [good_t, bd2_e rfl, Ok_some]
    refine Or.inr ⟨m, by omega, rfl, ?_, ?_, ?_⟩
    · rw [become_e, bd1_e rfl]
      rw [show Hi_marked (Hi_mk' hi (va_up (Hi_mk hi) m now)) = nI m from e4, nI_1]
      rw [show Hi_marked (Hi_marked' (Hi_mk' hi (va_up (Hi_mk hi) m now)) (nI (m + 1))) = nI (m + 1) from rfl, hs, Ok_some]
      refine ⟨rfl, ⟨k, f, m + 1, hk, hf, by omega, e1, ?_, e3, rfl, ?_, ?_, ?_⟩⟩
      · simp only [stt, GW_where, GW_trouble, GW_thrown, GW_keptNow, GW_keptParted, GW_keptSeed, GW_keptLifted, GW_marks, e2]
      · simp only [stt, GW_where, GW_trouble, GW_thrown, GW_keptNow, GW_keptParted, GW_keptSeed, GW_keptLifted, GW_marks]
      · intro j hj
        simp only [stt, GW_where, GW_trouble, GW_thrown, GW_keptNow, GW_keptParted, GW_keptSeed, GW_keptLifted, GW_marks]
        exact hp j hj
      · intro j hj
        simp only [stt, GW_where, GW_trouble, GW_thrown, GW_keptNow, GW_keptParted, GW_keptSeed, GW_keptLifted, GW_marks]
        show MS tn (va_up (Hi_mk hi) m now j) _ _ _ _
        rw [updL_if, upd_if, upd_if, upd_if]
        by_cases d : j = m
        · subst d
          rw [if_pos rfl, if_pos rfl, if_pos rfl, if_pos rfl, vaup_at]
          exact hN
        · rw [if_neg d, if_neg d, if_neg d, if_neg d, vaup_ne d]
          exact hq j (by omega)
    · simp only [stt, GW_where, GW_trouble, GW_thrown, GW_keptNow, GW_keptParted, GW_keptSeed, GW_keptLifted, GW_marks, and_self]
    · unfold RST
      simp only [stt, GW_where, GW_trouble, GW_thrown, GW_keptNow, GW_keptParted, GW_keptSeed, GW_keptLifted, GW_marks, and_self]
theorem back_e {hi : HiS} {now : MoS} {md : MdS} (h : HR tn hi md) (v : Int32) : Ok (f_X13_back md v) (fun q =>
    (q.1 = 0 ∧ q.2 = stt (Md_thrown' md 0) 1 ∧ f_X3_giveMarked hi now v = some (0, hi, now)) ∨
    (q.1 = 1 ∧ Ok (f_X3_giveMarked hi now v) (fun c => c.1 = 1 ∧ HR tn c.2.1 q.2 ∧ NW tn c.2.2 q.2) ∧ RST md q.2)) := by
  obtain ⟨k, f, m, hk, hf, hm3, e1, e2, e3, e4, e5, hp, hq⟩ := h
  unfold f_X13_back f_X3_giveMarked f_X13_back_L24
  rw [lt1_e, gn_marks_thrown, e5, e4]
  have bad : Ok (bd2 (f_X13_denied (Md_thrown' md 0) 1) fun (r_9 : Int32) (md_10 : MdS) => zb r_9 <| some (r_9, md_10)) (fun q => q.1 = 0 ∧ q.2 = stt (Md_thrown' md 0) 1) := by
    rw [denied_t, bd2_e rfl, zb_i (Or.inl rfl), Ok_some]
    exact ⟨rfl, rfl⟩
  by_cases c : v < 0
  · rw [if_pos c, if_pos c]
    exact bad.mono (fun q hq => Or.inl ⟨hq.1, hq.2, rfl⟩)
  · rw [if_neg c, if_neg c]
    by_cases d : v < nI m
    · rw [if_pos d, if_pos d]
      obtain ⟨j, hj31, rfl⟩ := nI_of c
      have hj : j < m := Nat.lt_of_not_le (fun e => nI_nlt (show m ≤ j from e) (by omega) d)
      have hc : Int32.toNatClampNeg (nI j) = j := nI_clamp (by omega)
      have k1 : ∀ (K : Option (Int32 × MdS)), ck (nI j) 3 K = K := fun K => ckI (by omega) (by decide)
      have k2 : ∀ (K : Option (Int32 × HiS × MoS)), ck (nI j) 3 K = K := fun K => ckI (by omega) (by decide)
      simp only [lt1_e, GW_thrown, GW_now, GW_parted, GW_seed, GW_lifted, k1, k2, hc]
      rw [granted_t, bd2_e rfl, zb_i (Or.inr rfl), Ok_some]
      refine Or.inr ⟨rfl, ?_, ?_⟩
      · rw [become_e, bd1_e rfl, Ok_some]
        refine ⟨rfl, ⟨0, f, m, by omega, hf, hm3, rfl, ?_, e3, e4, ?_, ?_, ?_⟩, ?_⟩
        · simp only [stt, GW_where, GW_trouble, GW_acts]; rfl
        · simp only [stt, GW_where, GW_trouble, GW_acts, GW_thrown, GW_now, GW_parted, GW_seed, GW_lifted, e5]
        · intro j hj; omega
        · intro j hj
          simp only [stt, GW_where, GW_trouble, GW_acts, GW_thrown, GW_now, GW_parted, GW_seed, GW_lifted]
          exact hq j hj
        · unfold NW
          simp only [stt, GW_where, GW_trouble, GW_acts, GW_thrown, GW_now, GW_parted, GW_seed, GW_lifted]
          exact hq j hj
      · unfold RST
        simp only [stt, GW_where, GW_trouble, GW_acts, GW_thrown, GW_now, GW_parted, GW_seed, GW_lifted, and_self]
    · rw [if_neg d, if_neg d]
      exact bad.mono (fun q hq => Or.inl ⟨hq.1, hq.2, rfl⟩)
end MARKS
