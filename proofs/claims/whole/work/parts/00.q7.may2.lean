/-! who goes, and what is behind a move -/
def gl (tn : TnS) (l : Nat) : Nat := if tl tn (on2 tn l) < tl tn (on1 tn l) ∨ (tl tn (on2 tn l) = tl tn (on1 tn l) ∧ on2 tn l < on1 tn l) then on2 tn l else on1 tn l
def sp (tn : TnS) (t : Int64) (p : Nat) : Nat := (spt tn t p).getD 0
/-- the link of the one who goes -/
def wl (tn : TnS) (t : Int64) (m : Nat) : Nat := lk tn (min (sp tn t (2 * (m / 10 % 10))) (sp tn t (2 * (m % 10))))
def fitL (tn : TnS) (l : Nat) : Prop := nI (tl tn (gl tn l)) ≤ Tn_height tn
def MAY (tn : TnS) (pt : Option Nat) (lf : Int32) (t : Int64) (m : Nat) : Prop := CAN tn pt lf t m ∧ (m < 100 ∨ fitL tn (wl tn t m))
theorem BES.left {tn : TnS} {pt : Option Nat} {t : Int64} {p q : Nat} (h : BES tn pt t p q) (hC : CW tn t) (hp : p ≠ 15) : spt tn t p = some (sp tn t p) ∧ sp tn t p < nS tn ∧ nib t (sp tn t p) = p := by
  obtain ⟨a, b, ha, _, ea, _⟩ := h
  have e := (spt_some hC hp).mpr ⟨ha, ea⟩
  have e2 : sp tn t p = a := by unfold sp; rw [e]; rfl
  rw [e2]
  exact ⟨e, ha, ea⟩
section GO
variable {md : MdS} {tn : TnS} {pt : Option Nat} {t : Int64}
theorem gl_lt (hT : TW tn) {l : Nat} (hl : l < nL tn) : gl tn l < nP tn := by
  unfold gl
  have := hT.ends hl
  split
  · exact this.2.2.2
  · exact this.2.1
theorem goerL_e (hT : TW tn) {s : Nat} (hs : s < nS tn) : f_X13_goerOf_L54 (nI s) tn = some (nI (gl tn (lk tn s))) := by
  have h14 := hT.s14
  have h8 := hT.p8
  have hl := hT.lkL hs
  have hl8 := hT.lk8 hs
  obtain ⟨e1, b1, e2, b2⟩ := hT.ends hl
  obtain ⟨t1, u1⟩ := hT.etl b1
  obtain ⟨t2, u2⟩ := hT.etl b2
  unfold f_X13_goerOf_L54
  rw [ckI (by omega) (by omega), nI_clamp (by omega), hT.elk hs, lt1_e, ckI hl8 (by omega), lt1_e, ckI hl8 (by omega), lt1_e, nI_clamp (by omega), e1, e2, ckI (by omega) (by omega), ckI (by omega) (by omega), nI_clamp (by omega), nI_clamp (by omega), t1, t2, ckI (by omega) (by omega), ckI (by omega) (by omega)]
  simp only [nI_ltI (show tl tn (on2 tn (lk tn s)) < 2 ^ 31 by omega) (show tl tn (on1 tn (lk tn s)) < 2 ^ 31 by omega), nI_eq (show tl tn (on2 tn (lk tn s)) < 2 ^ 31 by omega) (show tl tn (on1 tn (lk tn s)) < 2 ^ 31 by omega), nI_leI (show on1 tn (lk tn s) < 2 ^ 31 by omega) (show on2 tn (lk tn s) < 2 ^ 31 by omega)]
  unfold gl
  by_cases c1 : tl tn (on2 tn (lk tn s)) < tl tn (on1 tn (lk tn s))
  · rw [if_pos c1, if_pos (Or.inl c1)]
  · rw [if_neg c1]
    by_cases c2 : tl tn (on2 tn (lk tn s)) = tl tn (on1 tn (lk tn s))
    · rw [if_pos c2]
      by_cases c3 : on1 tn (lk tn s) ≤ on2 tn (lk tn s)
      · rw [if_pos c3, if_neg (by omega)]
      · rw [if_neg c3, if_pos (Or.inr ⟨c2, by omega⟩)]
    · rw [if_neg c2, if_neg (by omega)]
theorem sp_lt (hT : TW tn) {a b : Nat} (ha : a < nS tn) (hb : b < nS tn) : min a b < nS tn := by omega
theorem goer_e (hT : TW tn) (hC : CW tn t) (hL : Looked md tn pt t) {lf : Int32} {m : Nat} (hm : isMv (nX tn) m = true) (hc : CAN tn pt lf t m) : f_X13_goerOf md tn (nI m) = some (if m < 100 then -2 else nI (gl tn (wl tn t m))) ∧ (¬ m < 100 → wl tn t m < nL tn) := by
  have h7 := hT.x7
  have h14 := hT.s14
  have hlt := isMv_lt hm
  unfold f_X13_goerOf
  rw [bd1_e (kind_e hlt), x10 (by omega), r10 (by omega)]
  by_cases h1 : m < 100
  · rw [if_pos h1, if_pos (by decide), if_pos h1]
    exact ⟨rfl, fun h => absurd h1 h⟩
  · have hb : BES tn pt t (2 * (m / 10 % 10)) (2 * (m % 10)) := by
      unfold CAN at hc
      rw [if_neg h1] at hc
      by_cases h2 : m < 1000
      · rw [if_pos h2] at hc; exact hc.2.1
      · rw [if_neg h2] at hc; exact hc.2.2
    have hx : m / 10 % 10 < 10 := Nat.mod_lt _ (by decide)
    have hy : m % 10 < 10 := Nat.mod_lt _ (by decide)
    have hxX : m / 10 % 10 < 7 ∧ m % 10 < 7 := by
      by_cases h2 : m < 1000
      · have := isMv_1 hm h1 h2; omega
      · have := isMv_2 hm h1 h2; omega
    obtain ⟨s1, l1, _⟩ := hb.left hC (by omega)
    obtain ⟨s2, l2, _⟩ := hb.symm.left hC (by omega)
    have hk : ¬ nI (if m < 100 then 0 else if m < 1000 then 1 else 2) = 0 := by
      rw [if_neg h1]
      by_cases h2 : m < 1000
      · rw [if_pos h2]; decide
      · rw [if_neg h2]; decide
    rw [if_neg hk, if_neg h1, i2, i2, ckI (by omega) (by omega), lt1_e, ckI (by omega) (by omega), lt1_e, nI_clamp (by omega), nI_clamp (by omega), hL.1 _ (by omega), hL.1 _ (by omega), s1, s2]
    show (if nI (sp tn t (2 * (m % 10))) ≤ nI (sp tn t (2 * (m / 10 % 10))) then f_X13_goerOf_L54 (nI (sp tn t (2 * (m % 10)))) tn else f_X13_goerOf_L54 (nI (sp tn t (2 * (m / 10 % 10)))) tn) = _ ∧ _
    refine ⟨?_, fun _ => hT.lkL (by omega)⟩
    unfold wl
    by_cases c : sp tn t (2 * (m % 10)) ≤ sp tn t (2 * (m / 10 % 10))
    · rw [if_pos (nI_le c (by omega)), goerL_e hT l2, Nat.min_eq_right c]
    · rw [if_neg (nI_ge (by omega) (by omega)), goerL_e hT l1, Nat.min_eq_left (by omega)]
theorem may_e (hT : TW tn) (hC : CW tn t) (hL : Looked md tn pt t) {m : Nat} (hm : isMv (nX tn) m = true) : f_X13_mayMove md tn (nI m) = some (tf (MAY tn pt (Md_lifted md) t m)) := by
  unfold f_X13_mayMove
  rw [bd1_e (can_e hT hC hL hm)]
  by_cases hc : CAN tn pt (Md_lifted md) t m
  · obtain ⟨e, hw⟩ := goer_e hT hC hL hm hc
    have h8 := hT.p8
    rw [tf_t hc, if_neg (by decide), bd1_e e]
    by_cases h1 : m < 100
    · rw [if_pos h1, if_pos rfl, tf_t ⟨hc, Or.inl h1⟩]
    · have hg := gl_lt hT (hw h1)
      obtain ⟨t1, u1⟩ := hT.etl hg
      have n2 : ¬ nI (gl tn (wl tn t m)) = -2 := by rw [nI_neg2 (by omega)]; exact fun h => h
      rw [if_neg h1, if_neg n2, ckI (by omega) (by omega), nI_clamp (by omega), t1]
      obtain ⟨h, hh, eh⟩ := hT.ht
      by_cases c : fitL tn (wl tn t m)
      · have c' := c
        unfold fitL at c'
        rw [eh] at c' ⊢
        rw [nI_leI (by omega) (by omega)] at c'
        rw [if_neg (nI_nlt c' (by omega)), tf_t ⟨hc, Or.inr c⟩]
      · have c' := c
        unfold fitL at c'
        rw [eh] at c' ⊢
        rw [nI_leI (by omega) (by omega)] at c'
        rw [if_pos (nI_lt (by omega) (by omega)), tf_f (fun h => h.2.elim h1 c)]
  · rw [tf_f hc, if_pos rfl, tf_f (fun h => hc h.1)]
/-! the moves that may be, by numbers -/
noncomputable def mayB (tn : TnS) (pt : Option Nat) (lf : Int32) (t : Int64) (m : Nat) : Bool := isMv (nX tn) m && @decide (MAY tn pt lf t m) (Classical.propDecidable _)
theorem mayB_t {lf : Int32} {m : Nat} : mayB tn pt lf t m = true ↔ isMv (nX tn) m = true ∧ MAY tn pt lf t m := by
  unfold mayB
  rw [Bool.and_eq_true]
  refine and_congr Iff.rfl ?_
  exact @decide_eq_true_iff _ (Classical.propDecidable _)
theorem nextMay_L (hT : TW tn) (hC : CW tn t) (hL : Looked md tn pt t) : ∀ n k, 2000 - k < n → k ≤ 2000 → (k < 2000 → isMv (nX tn) k = true) → ∃ j, f_X13_nextMay_L6 n (nI k) md tn = some (nI j) ∧ fst1 (mayB tn pt (Md_lifted md) t) k j := by
  have h7 := hT.x7
  intro n
  induction n with
  | zero => intro k h; omega
  | succ n ih =>
    intro k hn hk hm
    rw [f_X13_nextMay_L6, li_2000]
    by_cases h1 : k = 2000
    · rw [if_pos (by rw [h1]; decide)]
      exact ⟨k, rfl, Or.inl ⟨by rw [h1]; rfl, h1⟩⟩
    · have hk2 : k < 2000 := by omega
      rw [if_neg (nI_ge hk2 (by omega)), bd1_e (may_e hT hC hL (hm hk2))]
      by_cases c : MAY tn pt (Md_lifted md) t k
      · have hb : mayB tn pt (Md_lifted md) t k = true := mayB_t.mpr ⟨hm hk2, c⟩
        rw [tf_t c, if_neg (by decide)]
        exact ⟨k, rfl, Or.inr ⟨hk2, Nat.le_refl _, hb, MR_t hk2 hb⟩⟩
      · rw [tf_f c, if_pos rfl]
        obtain ⟨j, e, hj⟩ := nextMove_e (v := nI k) hT.X h7 (nI_1 k) (by omega)
        rw [bd1_e e]
        have hjk : k + 1 ≤ j ∧ j ≤ 2000 := by
          rcases hj with ⟨_, h⟩ | ⟨h, h', _⟩ <;> omega
        have hjm : j < 2000 → isMv (nX tn) j = true := by
          intro h
          rcases hj with ⟨_, h'⟩ | ⟨_, _, h', _⟩
          · omega
          · exact h'
        have hsk : ∀ i, k ≤ i → i < j → mayB tn pt (Md_lifted md) t i = false := by
          intro i h1 h2
          by_cases ei : i = k
          · rw [ei]
            cases hb : mayB tn pt (Md_lifted md) t k with
            | false => rfl
            | true => exact absurd (mayB_t.mp hb).2 c
          · cases hb : mayB tn pt (Md_lifted md) t i with
            | false => rfl
            | true =>
              have hv := (mayB_t.mp hb).1
              have hmem : i ∈ MR (isMv (nX tn)) (k + 1) := MR_mem.mpr ⟨by omega, by omega, hv⟩
              rcases hj with ⟨hj1, _⟩ | ⟨_, _, _, hj1⟩
              · rw [hj1] at hmem; cases hmem
              · rw [hj1] at hmem
                rcases List.mem_cons.mp hmem with h3 | h3
                · omega
                · have := (MR_mem.mp h3).1; omega
        obtain ⟨i, e2, hi⟩ := ih j (by omega) (by omega) hjm
        refine ⟨i, e2, ?_⟩
        rcases hi with ⟨h1, h2⟩ | ⟨h1, h2, h3, h4⟩
        · exact Or.inl ⟨by rw [MR_skip (by omega) hsk, h1], h2⟩
        · exact Or.inr ⟨h1, by omega, h3, by rw [MR_skip (by omega) hsk, h4]⟩
theorem fst1_skip {p q : Nat → Bool} {a j i : Nat} (hpq : ∀ k, q k = true → p k = true) (h : fst1 p a j) (k : fst1 q j i) : fst1 q a i := by
  have haj : j = 2000 ∨ a ≤ j := by rcases h with ⟨_, h⟩ | ⟨_, h, _⟩ <;> omega
  have hsk : ∀ i, a ≤ i → i < j → q i = false := by
    intro i h1 h2
    cases hb : q i with
    | false => rfl
    | true =>
      have hi2 : i < 2000 := by rcases h with ⟨_, h⟩ | ⟨h, _⟩ <;> omega
      have hmem : i ∈ MR p a := MR_mem.mpr ⟨by omega, hi2, hpq i hb⟩
      rcases h with ⟨hj1, _⟩ | ⟨_, _, _, hj1⟩
      · rw [hj1] at hmem; cases hmem
      · rw [hj1] at hmem
        rcases List.mem_cons.mp hmem with h3 | h3
        · omega
        · have := (MR_mem.mp h3).1; omega
  by_cases c : a ≤ j
  · rcases k with ⟨h1, h2⟩ | ⟨h1, h2, h3, h4⟩
    · exact Or.inl ⟨by rw [MR_skip c hsk, h1], h2⟩
    · exact Or.inr ⟨h1, by omega, h3, by rw [MR_skip c hsk, h4]⟩
  · have e : j = 2000 := by omega
    have e1 : MR q a = [] := by unfold MR; rw [show 2000 - a = 0 by omega]; rfl
    rcases k with ⟨h1, h2⟩ | ⟨h1, h2, _⟩
    · exact Or.inl ⟨e1, h2⟩
    · omega
theorem nextMay_e (hT : TW tn) (hC : CW tn t) (hL : Looked md tn pt t) {a : Nat} {v : Int32} (hv : v + 1 = nI a) (ha : a ≤ 2000) : ∃ j, f_X13_nextMay md tn v = some (nI j) ∧ fst1 (mayB tn pt (Md_lifted md) t) a j := by
  unfold f_X13_nextMay
  obtain ⟨j, e, hj⟩ := nextMove_e (tn := tn) hT.X hT.x7 hv ha
  rw [bd1_e e]
  have hjb : j ≤ 2000 := by rcases hj with ⟨_, h⟩ | ⟨h, _⟩ <;> omega
  obtain ⟨i, e2, hi⟩ := nextMay_L hT hC hL FU j (by rw [FU_e]; omega) hjb (fun h => by
    rcases hj with ⟨_, h'⟩ | ⟨_, _, h', _⟩
    · omega
    · exact h')
  exact ⟨i, e2, fst1_skip (fun k h => (mayB_t.mp h).1) hj hi⟩
end GO
