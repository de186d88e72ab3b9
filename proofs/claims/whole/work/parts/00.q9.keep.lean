def lvB (t : Int64) (s : Nat) : Bool := nib t s != 15
theorem lvB_t {t : Int64} {s : Nat} : lvB t s = true ↔ nib t s ≠ 15 := by unfold lvB; simp
def cnt (tn : TnS) (t : Int64) : Nat := (List.range (nS tn)).countP (lvB t)
def lft (tn : TnS) (t : Int64) : Nat := cnt tn t / 2
def DW (tn : TnS) (pt : Option Nat) (t : Int64) : Prop := CW tn t ∧ cnt tn t % 2 = 0 ∧ (∀ l, pt = some l → l < nL tn ∧ ∀ s, s < nS tn → lk tn s = l → nib t s = 15) ∧
  (∀ x, x < nX tn → ∀ s k, s < nS tn → k < nS tn → nib t s = 2 * x → nib t k = 2 * x + 1 → (rg tn s = lr tn (un tn x) ∧ rg tn k = lr tn (ov tn x)) ∨ (rg tn s = lr tn (ov tn x) ∧ rg tn k = lr tn (un tn x)))
theorem DW.cw {tn : TnS} {pt : Option Nat} {t : Int64} (h : DW tn pt t) : CW tn t := h.1
theorem DW.pt {tn : TnS} {pt : Option Nat} {t : Int64} (h : DW tn pt t) : ptW tn pt := fun l hl => (h.2.2.1 l hl).1
theorem cnt_le (tn : TnS) (t : Int64) : cnt tn t ≤ nS tn := by
  unfold cnt
  exact Nat.le_trans List.countP_le_length (by rw [List.length_range]; exact Nat.le_refl _)
theorem countP_one {p q : Nat → Bool} {a : Nat} : ∀ n, a < n → p a = true → q a = false → (∀ i, i < n → i ≠ a → p i = q i) → (List.range n).countP q + 1 = (List.range n).countP p := by
  intro n
  induction n with
  | zero => intro h; omega
  | succ n ih =>
    intro ha hp hq h
    rw [List.range_succ, List.countP_append, List.countP_append, List.countP_singleton, List.countP_singleton]
    by_cases e : a = n
    · subst e
      have : (List.range a).countP q = (List.range a).countP p := by
        refine List.countP_congr (fun i hi => ?_)
        have hi := List.mem_range.mp hi
        rw [h i (by omega) (by omega)]
      rw [this, hp, hq]
      simp
    · have e1 := ih (by omega) hp hq (fun i h1 h2 => h i (by omega) h2)
      rw [h n (by omega) (by omega)]
      omega
theorem countP_same {p q : Nat → Bool} {n : Nat} (h : ∀ i, i < n → p i = q i) : (List.range n).countP q = (List.range n).countP p := by
  refine List.countP_congr (fun i hi => ?_)
  rw [h i (List.mem_range.mp hi)]
theorem countP_two {p q : Nat → Bool} {a b n : Nat} (ha : a < n) (hb : b < n) (hab : a ≠ b) (pa : p a = true) (pb : p b = true) (qa : q a = false) (qb : q b = false) (h : ∀ i, i < n → i ≠ a → i ≠ b → p i = q i) : (List.range n).countP q + 2 = (List.range n).countP p := by
  have h1 := countP_one (p := p) (q := fun i => if i = a then false else p i) n ha pa (by simp) (fun i _ h2 => by simp [h2])
  have h2 := countP_one (p := fun i => if i = a then false else p i) (q := q) (a := b) n hb (by simp [Ne.symm hab, pb]) qb (fun i h3 h4 => by
    by_cases e : i = a
    · simp [e, qa]
    · simp [e, h i h3 e h4])
  omega
section KEEP
variable {md : MdS} {tn : TnS} {pt : Option Nat} {t u : Int64} {lf : Int32} {m : Nat}
theorem leftIn_e (hT : TW tn) : f_X13_leftIn tn t = some (nI (lft tn t)) := by
  have h14 := hT.s14
  have key : ∀ n k, nS tn + 1 - k < n → k ≤ nS tn → f_X13_leftIn_L5 n t (nI ((List.range k).countP (lvB t))) (nI k) tn = some (nI (lft tn t)) := by
    intro n
    induction n with
    | zero => intro k h; omega
    | succ n ih =>
      intro k hn hk
      rw [f_X13_leftIn_L5, hT.S]
      have hle : (List.range k).countP (lvB t) ≤ k := Nat.le_trans List.countP_le_length (by rw [List.length_range]; exact Nat.le_refl _)
      by_cases hk2 : k = nS tn
      · rw [if_pos (by rw [hk2]; exact nI_le (Nat.le_refl _) (by omega)), li_2, nI_div (by omega) (by omega), hk2]
        rfl
      · rw [if_neg (nI_ge (show k < nS tn by omega) (by omega)), bd1_e (at_e t k (by omega))]
        have e := ih (k + 1) (by omega) (by omega)
        rw [List.range_succ, List.countP_append, List.countP_singleton] at e
        unfold f_X13_leftIn_L34
        by_cases l : nib t k = 15
        · have : lvB t k = false := by unfold lvB; simp [l]
          rw [this, if_neg (by decide), Nat.add_zero] at e
          rw [if_pos (by rw [l]; rfl), lt1_e, lt1_e, nI_1, Int32.add_zero]
          exact e
        · have : lvB t k = true := lvB_t.mpr l
          rw [this, if_pos rfl] at e
          rw [if_neg (n15 l), lt1_e, lt1_e, nI_1, nI_1]
          exact e
  unfold f_X13_leftIn
  exact key FU 0 (by rw [FU_e]; omega) (by omega)
theorem mvf_15 (hT : TW tn) (hm : isMv (nX tn) m = true) {v : Nat} (hv : v = 15 ∨ v < 14) : mvf m v = 15 ↔ v = 15 ∨ (m < 100 ∧ v / 2 = m) ∨ (¬ m < 100 ∧ m < 1000 ∧ (v / 2 = m / 10 % 10 ∨ v / 2 = m % 10)) := by
  have h7 := hT.x7
  unfold mvf
  by_cases h1 : m < 100
  · have := isMv_0 hm h1
    rw [if_pos h1]
    split <;> omega
  · rw [if_neg h1]
    by_cases h2 : m < 1000
    · have := isMv_1 hm h1 h2
      rw [if_pos h2]
      split <;> omega
    · have := isMv_2 hm h1 h2
      rw [if_neg h2]
      generalize m / 10 % 10 = x at *
      generalize m % 10 = y at *
      generalize m / 100 % 10 = z at *
      repeat' split
      all_goals omega
theorem CW.v (hT : TW tn) (hC : CW tn t) {s : Nat} (hs : s < nS tn) : nib t s = 15 ∨ nib t s < 14 := by
  have h7 := hT.x7
  by_cases h : nib t s = 15
  · exact Or.inl h
  · have := hC.1 s hs h; omega
theorem cnt_bh (hT : TW tn) (hC : CW tn t) (hm : isMv (nX tn) m = true) (hv : MLV tn t m) : cnt tn (bh tn t m) + (if m < 100 then 2 else if m < 1000 then 4 else 0) = cnt tn t := by
  have h7 := hT.x7
  have h14 := hT.s14
  have hb : ∀ s, s < nS tn → lvB (bh tn t m) s = decide (mvf m (nib t s) ≠ 15) := by
    intro s hs
    unfold lvB
    rw [nib_bh hT hC hm hv (by omega), if_pos hs]
    by_cases h : mvf m (nib t s) = 15 <;> simp [h]
  have hq : ∀ s, s < nS tn → (lvB (bh tn t m) s = false ↔ mvf m (nib t s) = 15) := by
    intro s hs
    rw [hb s hs]
    simp
  have hsame : ∀ s, s < nS tn → ¬ (m < 100 ∧ nib t s / 2 = m) → ¬ (¬ m < 100 ∧ m < 1000 ∧ (nib t s / 2 = m / 10 % 10 ∨ nib t s / 2 = m % 10)) → lvB t s = lvB (bh tn t m) s := by
    intro s hs n1 n2
    have h3 := mvf_15 hT hm (CW.v hT hC hs)
    rw [hb s hs]
    unfold lvB
    by_cases h : nib t s = 15
    · have : mvf m (nib t s) = 15 := h3.mpr (Or.inl h)
      simp [h] at this ⊢
      exact this
    · have : ¬ mvf m (nib t s) = 15 := fun e => by rcases h3.mp e with h4 | h4 | h4
                                                   · exact h h4
                                                   · exact n1 h4
                                                   · exact n2 h4
      simp [h, this]
  unfold cnt
  have hv' := hv
  unfold MLV at hv'
  by_cases h1 : m < 100
  · have h3 := isMv_0 hm h1
    rw [if_pos h1] at hv'
    rw [if_pos h1]
    obtain ⟨_, b1, e1⟩ := lv_sp hv'.1 hC (by omega)
    obtain ⟨_, b2, e2⟩ := lv_sp hv'.2 hC (by omega)
    refine countP_two (a := sp tn t (2 * m)) (b := sp tn t (2 * m + 1)) b1 b2 (fun e => by rw [e] at e1; omega) (lvB_t.mpr (by omega)) (lvB_t.mpr (by omega)) ((hq _ b1).mpr ((mvf_15 hT hm (CW.v hT hC b1)).mpr (Or.inr (Or.inl ⟨h1, by omega⟩)))) ((hq _ b2).mpr ((mvf_15 hT hm (CW.v hT hC b2)).mpr (Or.inr (Or.inl ⟨h1, by omega⟩)))) (fun i hi n1 n2 => ?_)
    refine hsame i hi (fun ⟨_, e⟩ => ?_) (fun h => h.1 h1)
    have n1' : ¬ nib t i = 2 * m := fun e => n1 ((sp_iff hv'.1 hC (by omega) hi).mpr e)
    have n2' : ¬ nib t i = 2 * m + 1 := fun e => n2 ((sp_iff hv'.2 hC (by omega) hi).mpr e)
    omega
  · rw [if_neg h1] at hv'
    rw [if_neg h1]
    obtain ⟨⟨v1, v2⟩, ⟨v3, v4⟩, v5⟩ := hv'
    by_cases h2 : m < 1000
    · obtain ⟨q1, q2, q3⟩ := isMv_1 hm h1 h2
      rw [if_pos h2]
      obtain ⟨_, b1, e1⟩ := lv_sp v1 hC (by omega)
      obtain ⟨_, b2, e2⟩ := lv_sp v2 hC (by omega)
      obtain ⟨_, b3, e3⟩ := lv_sp v3 hC (by omega)
      obtain ⟨_, b4, e4⟩ := lv_sp v4 hC (by omega)
      have off : ∀ s, s < nS tn → (nib t s / 2 = m / 10 % 10 ∨ nib t s / 2 = m % 10) → lvB (bh tn t m) s = false := fun s hs h => (hq s hs).mpr ((mvf_15 hT hm (CW.v hT hC hs)).mpr (Or.inr (Or.inr ⟨h1, h2, h⟩)))
      have ne : ∀ p q, nib t (sp tn t p) = p → nib t (sp tn t q) = q → p ≠ q → sp tn t p ≠ sp tn t q := fun p q hp hq h e => h (by rw [← hp, ← hq, e])
      have k1 := countP_two (n := nS tn) (p := lvB t) (q := fun s => if s = sp tn t (2 * (m / 10 % 10)) ∨ s = sp tn t (2 * (m / 10 % 10) + 1) then false else lvB t s) b1 b2 (ne _ _ e1 e2 (by omega)) (lvB_t.mpr (by omega)) (lvB_t.mpr (by omega)) (by simp) (by simp) (fun i _ h3 h4 => by simp [h3, h4])
      have k2 := countP_two (n := nS tn) (p := fun s => if s = sp tn t (2 * (m / 10 % 10)) ∨ s = sp tn t (2 * (m / 10 % 10) + 1) then false else lvB t s) (q := lvB (bh tn t m)) b3 b4 (ne _ _ e3 e4 (by omega)) (by simp [ne _ _ e3 e1 (by omega), ne _ _ e3 e2 (by omega)]; exact lvB_t.mpr (by omega)) (by simp [ne _ _ e4 e1 (by omega), ne _ _ e4 e2 (by omega)]; exact lvB_t.mpr (by omega)) (off _ b3 (by omega)) (off _ b4 (by omega)) (fun i hi n3 n4 => by
        by_cases hc : i = sp tn t (2 * (m / 10 % 10)) ∨ i = sp tn t (2 * (m / 10 % 10) + 1)
        · have : lvB (bh tn t m) i = false := by rcases hc with rfl | rfl
                                                 · exact off _ b1 (by omega)
                                                 · exact off _ b2 (by omega)
          simp [hc, this]
        · simp only [if_neg hc]
          refine hsame i hi (fun h => h1 h.1) (fun ⟨_, _, e⟩ => ?_)
          have n1' : ¬ nib t i = 2 * (m / 10 % 10) := fun e => hc (Or.inl ((sp_iff v1 hC (by omega) hi).mpr e))
          have n2' : ¬ nib t i = 2 * (m / 10 % 10) + 1 := fun e => hc (Or.inr ((sp_iff v2 hC (by omega) hi).mpr e))
          have n3' : ¬ nib t i = 2 * (m % 10) := fun e => n3 ((sp_iff v3 hC (by omega) hi).mpr e)
          have n4' : ¬ nib t i = 2 * (m % 10) + 1 := fun e => n4 ((sp_iff v4 hC (by omega) hi).mpr e)
          omega)
      omega
    · rw [if_neg h2]
      exact countP_same (fun i hi => hsame i hi (fun h => h1 h.1) (fun h => h2 h.2.1))
end KEEP
