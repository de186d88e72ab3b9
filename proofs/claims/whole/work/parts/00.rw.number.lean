theorem number_e {X m : Nat} (hX7 : X ≤ 7) (h : m < 2000) : f_X0_isNumber (nI m) (nI X) = some (bI (isMv X m)) := by
  unfold f_X0_isNumber
  have q2000 : nI m < nI 2000 := nI_lt h (by omega)
  rw [if_neg (nI_pos (by omega)), if_pos (show nI m < 2000 from q2000)]
  by_cases h1 : m < 100
  · have q : ¬ (nI 100 ≤ nI m) := nI_ge h1 (by omega)
    rw [if_neg (show ¬ ((100 : Int32) ≤ nI m) from q)]
    by_cases h2 : m < X
    · rw [if_neg (nI_ge h2 (by omega))]
      exact some_bI (fun _ => rfl) (fun h => by simp [isMv, h1, h2] at h)
    · rw [if_pos (nI_le (by omega) (by omega))]
      exact some_bI (fun h => by simp [isMv, h1, h2] at h) (fun _ => rfl)
  · have q : nI 100 ≤ nI m := nI_le (by omega) (by omega)
    rw [if_pos (show (100 : Int32) ≤ nI m from q)]
    by_cases h2 : m < 1000
    · have q1 : ¬ (nI 1000 ≤ nI m) := nI_ge h2 (by omega)
      have ef : f_X0_firstOf (nI m) = some (nI ((m - 100) / 10)) := by
        unfold f_X0_firstOf
        rw [if_pos (show (100 : Int32) ≤ nI m from q), if_neg (show ¬ ((1000 : Int32) ≤ nI m) from q1), show nI m - 100 = nI (m - 100) from nI_sub (b := 100) (by omega), d10 (by omega)]
      rw [bd1_e ef, bd1_e (second_e h), if_pos h2, if_neg (show ¬ ((1000 : Int32) ≤ nI m) from q1)]
      by_cases c : m % 10 ≤ (m - 100) / 10
      · rw [if_pos (nI_le c (by omega))]
        refine some_bI (fun h => ?_) (fun _ => rfl)
        simp [isMv, h1, h2] at h
        omega
      · rw [if_neg (nI_ge (by omega) (by omega))]
        by_cases d : m % 10 < X
        · rw [if_neg (nI_ge d (by omega))]
          refine some_bI (fun _ => rfl) (fun h => ?_)
          simp [isMv, h1, h2] at h
          omega
        · rw [if_pos (nI_le (by omega) (by omega))]
          refine some_bI (fun h => ?_) (fun _ => rfl)
          simp [isMv, h1, h2] at h
          omega
    · have q1 : nI 1000 ≤ nI m := nI_le (by omega) (by omega)
      have ef : f_X0_firstOf (nI m) = some (nI (m / 100 % 10)) := by
        unfold f_X0_firstOf
        rw [if_pos (show (100 : Int32) ≤ nI m from q), if_pos (show (1000 : Int32) ≤ nI m from q1), x100 (by omega)]
      rw [bd1_e ef, bd1_e (second_e h), if_neg h2, if_pos (show (1000 : Int32) ≤ nI m from q1), bd1_e (third_e h)]
      have no : (¬ (m / 100 % 10 < X) ∨ ¬ (m / 10 % 10 < X) ∨ ¬ (m % 10 < X) ∨ m / 100 % 10 = m / 10 % 10 ∨ m / 100 % 10 = m % 10 ∨ m / 10 % 10 = m % 10) → some (0 : Int32) = some (bI (isMv X m)) := fun g => some_bI (fun h => by simp [isMv, h1, h2] at h; omega) (fun _ => rfl)
      by_cases c1 : m / 100 % 10 < X
      · rw [if_neg (nI_ge c1 (by omega))]
        by_cases c2 : m / 10 % 10 < X
        · rw [if_neg (nI_ge c2 (by omega))]
          by_cases c3 : m % 10 < X
          · rw [if_neg (nI_ge c3 (by omega))]
            by_cases c4 : m / 100 % 10 = m / 10 % 10
            · rw [if_pos (by rw [c4])]; exact no (by omega)
            · rw [if_neg (fun e => c4 (nI_inj e (by omega) (by omega)))]
              by_cases c5 : m / 100 % 10 = m % 10
              · rw [if_pos (by rw [c5])]; exact no (by omega)
              · rw [if_neg (fun e => c5 (nI_inj e (by omega) (by omega)))]
                by_cases c6 : m / 10 % 10 = m % 10
                · rw [if_pos (by rw [c6])]; exact no (by omega)
                · rw [if_neg (fun e => c6 (nI_inj e (by omega) (by omega)))]
                  refine some_bI (fun _ => rfl) (fun hh => ?_)
                  simp [isMv, h1, h2] at hh
                  omega
          · rw [if_pos (nI_le (by omega) (by omega))]; exact no (by omega)
        · rw [if_pos (nI_le (by omega) (by omega))]; exact no (by omega)
      · rw [if_pos (nI_le (by omega) (by omega))]; exact no (by omega)
section NUMBER
variable {ri : RiS} {tn : TnS} {hk : HKS}
/-- both know the same numbers of moves -/
theorem b_move (hT : TW tn) (hR : TR ri tn) (ht : HK_there hk = 1) (v : Int32) : (∃ m, isMv (nX tn) m = true ∧ v = nI m ∧ f_X11_isMove hk ri v = some 1 ∧ f_X13_isMove tn v = some 1) ∨ (f_X11_isMove hk ri v = some 0 ∧ f_X13_isMove tn v = some 0) := by
  have h7 := hT.x7
  unfold f_X11_isMove
  rw [if_neg (show ¬ (HK_there hk = 0) by rw [ht]; decide), hR.X]
  by_cases c : v < 0
  · refine Or.inr ⟨?_, ?_⟩
    · unfold f_X0_isNumber
      rw [if_pos c, bd1_e rfl, if_pos rfl]
    · unfold f_X13_isMove
      rw [if_pos c]
  · obtain ⟨m, hm, rfl⟩ := nI_of c
    by_cases d : m < 2000
    · rw [bd1_e (number_e h7 d), isMove_e hT.X h7 d]
      cases e : isMv (nX tn) m
      · exact Or.inr ⟨rfl, rfl⟩
      · exact Or.inl ⟨m, e, rfl, rfl, rfl⟩
    · have q1 : ¬ (nI m < nI 2000) := nI_nlt (by omega) (by omega)
      have q2 : ¬ (nI m ≤ nI 1999) := nI_ge (by omega) (by omega)
      refine Or.inr ⟨?_, ?_⟩
      · unfold f_X0_isNumber
        rw [if_neg c, if_neg (show ¬ (nI m < 2000) from q1), bd1_e rfl, if_pos rfl]
      · unfold f_X13_isMove
        rw [if_neg c, if_neg (show ¬ (nI m ≤ 1999) from q2)]
end NUMBER
