def isMv (X m : Nat) : Bool := if m < 100 then decide (m < X) else if m < 1000 then decide (m < 200 ∧ m / 10 % 10 < m % 10 ∧ m % 10 < X) else decide (m < 2000 ∧ m / 100 % 10 < X ∧ m / 10 % 10 < X ∧ m % 10 < X ∧ m / 10 % 10 ≠ m % 10 ∧ m / 100 % 10 ≠ m / 10 % 10 ∧ m / 100 % 10 ≠ m % 10)
theorem d10 {m : Nat} (h : m < 2 ^ 31) : nI m / (10 : Int32) = nI (m / 10) := nI_div (b := 10) h (by decide)
theorem d100 {m : Nat} (h : m < 2 ^ 31) : nI m / (100 : Int32) = nI (m / 100) := nI_div (b := 100) h (by decide)
theorem r10 {m : Nat} (h : m < 2 ^ 31) : nI m - nI m / (10 : Int32) * (10 : Int32) = nI (m % 10) := nI_rem (b := 10) h (by decide)
theorem x10 {m : Nat} (h : m < 2 ^ 31) : nI m / (10 : Int32) - nI m / (10 : Int32) / (10 : Int32) * (10 : Int32) = nI (m / 10 % 10) := by rw [d10 h, r10 (by omega)]
theorem x100 {m : Nat} (h : m < 2 ^ 31) : nI m / (100 : Int32) - nI m / (100 : Int32) / (10 : Int32) * (10 : Int32) = nI (m / 100 % 10) := by rw [d100 h, r10 (by omega)]
theorem kind_e {m : Nat} (h : m < 2000) : f_X13_kindOf (nI m) = some (nI (if m < 100 then 0 else if m < 1000 then 1 else 2)) := by
  unfold f_X13_kindOf
  rw [li_100, li_1000]
  by_cases h1 : m < 100
  · rw [if_neg (nI_ge h1 (by omega)), if_pos h1]; rfl
  · rw [if_pos (nI_le (by omega) (by omega)), if_neg h1]
    by_cases h2 : m < 1000
    · rw [if_neg (nI_ge h2 (by omega)), if_pos h2]; rfl
    · rw [if_pos (nI_le (by omega) (by omega)), if_neg h2]; rfl
def bI (b : Bool) : Int32 := if b then 1 else 0
theorem bI_t {b : Bool} (h : b = true) : bI b = 1 := by rw [h]; rfl
theorem bI_f {b : Bool} (h : b = false) : bI b = 0 := by rw [h]; rfl
theorem bI_0 {b : Bool} : bI b = 0 ↔ b = false := by cases b <;> decide
theorem bI_tf {b : Bool} : bI b = tf (b = true) := by
  cases b
  · rw [tf_f (by decide)]; rfl
  · rw [tf_t rfl]; rfl
theorem some_bI {b : Bool} {v : Int32} (h1 : b = true → v = 1) (h0 : b = false → v = 0) : some v = some (bI b) := by
  cases b
  · rw [h0 rfl]; rfl
  · rw [h1 rfl]; rfl
theorem isMove_e {tn : TnS} {X m : Nat} (hX : Tn_crossings tn = nI X) (hX7 : X ≤ 7) (h : m < 2000) : f_X13_isMove tn (nI m) = some (bI (isMv X m)) := by
  unfold f_X13_isMove
  rw [if_neg (nI_pos (by omega)), li_1999, if_pos (nI_le (by omega) (by omega)), lt1_e, lt1_e, lt1_e, x10 (by omega), r10 (by omega), x100 (by omega), hX, bd1_e (kind_e h)]
  have hx : m / 10 % 10 < 10 := Nat.mod_lt _ (by decide)
  have hy : m % 10 < 10 := Nat.mod_lt _ (by decide)
  have hz : m / 100 % 10 < 10 := Nat.mod_lt _ (by decide)
  generalize hxe : m / 10 % 10 = x at *
  generalize hye : m % 10 = y at *
  generalize hze : m / 100 % 10 = z at *
  by_cases h1 : m < 100
  · rw [if_pos h1, if_pos (by decide)]
    by_cases h2 : m < X
    · rw [if_neg (nI_ge h2 (by omega))]
      exact some_bI (fun _ => rfl) (fun h => by simp [isMv, h1, h2] at h)
    · rw [if_pos (nI_le (by omega) (by omega))]
      exact some_bI (fun h => by simp [isMv, h1, h2] at h) (fun _ => rfl)
  · rw [if_neg h1]
    by_cases h2 : m < 1000
    · rw [if_pos h2, if_neg (by decide), if_pos (by decide), li_200]
      simp only [nI_leI (show 200 < 2 ^ 31 by decide) (show m < 2 ^ 31 by omega), nI_leI (show y < 2 ^ 31 by omega) (show x < 2 ^ 31 by omega), nI_leI (show X < 2 ^ 31 by omega) (show y < 2 ^ 31 by omega)]
      split
      · exact some_bI (fun h => by simp [isMv, h1, h2] at h; omega) (fun _ => rfl)
      · split
        · exact some_bI (fun h => by simp [isMv, h1, h2] at h; omega) (fun _ => rfl)
        · split
          · exact some_bI (fun h => by simp [isMv, h1, h2] at h; omega) (fun _ => rfl)
          · exact some_bI (fun _ => rfl) (fun h => by simp [isMv, h1, h2] at h; omega)
    · rw [if_neg h2, if_neg (by decide), if_neg (by decide)]
      simp only [nI_leI (show X < 2 ^ 31 by omega) (show x < 2 ^ 31 by omega), nI_leI (show X < 2 ^ 31 by omega) (show y < 2 ^ 31 by omega), nI_leI (show X < 2 ^ 31 by omega) (show z < 2 ^ 31 by omega), nI_eq (show x < 2 ^ 31 by omega) (show y < 2 ^ 31 by omega), nI_eq (show z < 2 ^ 31 by omega) (show y < 2 ^ 31 by omega), nI_eq (show z < 2 ^ 31 by omega) (show x < 2 ^ 31 by omega)]
      split
      · exact some_bI (fun h => by simp [isMv, h1, h2] at h; omega) (fun _ => rfl)
      · split
        · exact some_bI (fun h => by simp [isMv, h1, h2] at h; omega) (fun _ => rfl)
        · split
          · exact some_bI (fun h => by simp [isMv, h1, h2] at h; omega) (fun _ => rfl)
          · split
            · exact some_bI (fun h => by simp [isMv, h1, h2] at h; omega) (fun _ => rfl)
            · split
              · exact some_bI (fun h => by simp [isMv, h1, h2] at h; omega) (fun _ => rfl)
              · split
                · exact some_bI (fun h => by simp [isMv, h1, h2] at h; omega) (fun _ => rfl)
                · exact some_bI (fun _ => rfl) (fun h => by simp [isMv, h1, h2] at h; omega)
/-! the numbers that pass a test, from one on -/
def MR (p : Nat → Bool) (a : Nat) : List Nat := (List.range' a (2000 - a)).filter p
theorem MR_t {p : Nat → Bool} {a : Nat} (h : a < 2000) (hp : p a = true) : MR p a = a :: MR p (a + 1) := by
  unfold MR
  have e : 2000 - a = (2000 - (a + 1)) + 1 := by omega
  rw [e, List.range'_succ, List.filter_cons, if_pos hp]
theorem MR_f {p : Nat → Bool} {a : Nat} (hp : p a = false) : MR p a = MR p (a + 1) := by
  unfold MR
  by_cases h : a < 2000
  · have e : 2000 - a = (2000 - (a + 1)) + 1 := by omega
    rw [e, List.range'_succ, List.filter_cons, if_neg (by rw [hp]; decide)]
  · have e1 : 2000 - a = 0 := by omega
    have e2 : 2000 - (a + 1) = 0 := by omega
    rw [e1, e2]; rfl
theorem MR_skip {p : Nat → Bool} {a b : Nat} (h : a ≤ b) (hp : ∀ k, a ≤ k → k < b → p k = false) : MR p a = MR p b := by
  induction b with
  | zero => rw [show a = 0 by omega]
  | succ b ih =>
    by_cases e : a = b + 1
    · rw [e]
    · rw [ih (by omega) (fun k h1 h2 => hp k h1 (by omega)), MR_f (hp b (by omega) (by omega))]
theorem MR_end {p : Nat → Bool} : MR p 2000 = [] := rfl
theorem MR_mem {p : Nat → Bool} {a m : Nat} : m ∈ MR p a ↔ a ≤ m ∧ m < 2000 ∧ p m = true := by
  unfold MR
  rw [List.mem_filter, List.mem_range'_1]
  constructor
  · rintro ⟨⟨h1, h2⟩, h3⟩; exact ⟨h1, by omega, h3⟩
  · rintro ⟨h1, h2, h3⟩; exact ⟨⟨h1, by omega⟩, h3⟩
/-- the first that passes a test -/
def fst1 (p : Nat → Bool) (a k : Nat) : Prop := (MR p a = [] ∧ k = 2000) ∨ (k < 2000 ∧ a ≤ k ∧ p k = true ∧ MR p a = k :: MR p (k + 1))
theorem nextMove_L {tn : TnS} {X : Nat} (hX : Tn_crossings tn = nI X) (hX7 : X ≤ 7) : ∀ n a, 2000 - a < n → a ≤ 2000 → ∃ k, f_X13_nextMove_L4 n (nI a) tn = some (nI k) ∧ fst1 (isMv X) a k := by
  intro n
  induction n with
  | zero => intro a h; omega
  | succ n ih =>
    intro a hn ha
    rw [f_X13_nextMove_L4, li_2000]
    by_cases h1 : a = 2000
    · rw [if_pos (by rw [h1]; decide)]
      exact ⟨a, rfl, Or.inl ⟨by rw [h1]; rfl, h1⟩⟩
    · have ha2 : a < 2000 := by omega
      rw [if_neg (nI_ge ha2 (by omega)), bd1_e (isMove_e hX hX7 ha2)]
      cases hv : isMv X a with
      | true =>
        rw [if_neg (by decide)]
        exact ⟨a, rfl, Or.inr ⟨ha2, Nat.le_refl _, hv, MR_t ha2 hv⟩⟩
      | false =>
        rw [if_pos (by decide), hX]
        have go : ∀ b, a < b → b ≤ 2000 → (∀ k, a ≤ k → k < b → isMv X k = false) → ∃ k, f_X13_nextMove_L4 n (nI b) tn = some (nI k) ∧ fst1 (isMv X) a k := by
          intro b hb hb2 hs
          obtain ⟨k, e, h⟩ := ih b (by omega) hb2
          refine ⟨k, e, ?_⟩
          rcases h with ⟨h1, h2⟩ | ⟨h1, h2, h3, h4⟩
          · exact Or.inl ⟨by rw [MR_skip (by omega) hs, h1], h2⟩
          · exact Or.inr ⟨h1, by omega, h3, by rw [MR_skip (by omega) hs, h4]⟩
        have step : ∃ k, f_X13_nextMove_L4 n (nI a + 1) tn = some (nI k) ∧ fst1 (isMv X) a k := by
          rw [nI_1]
          exact go (a + 1) (by omega) (by omega) (fun k h1 h2 => by rw [show k = a by omega]; exact hv)
        have L41 : ∃ k, f_X13_nextMove_L41 (nI a) tn (fun y0 y1 => f_X13_nextMove_L4 n y0 y1) = some (nI k) ∧ fst1 (isMv X) a k := by
          unfold f_X13_nextMove_L41 f_X13_nextMove_L61 f_X13_nextMove_L64
          by_cases h3 : a < 200
          · rw [li_200, if_pos (nI_lt h3 (by omega))]; exact step
          · rw [li_200, if_neg (nI_nlt (by omega) (by omega))]
            by_cases h4 : a < 1000
            · rw [li_1000, if_neg (nI_ge h4 (by omega))]
              exact go 1000 h4 (by omega) (fun k h1 h2 => by simp [isMv, show ¬ k < 100 by omega, h2, show ¬ k < 200 by omega])
            · rw [li_1000, if_pos (nI_le (by omega) (by omega))]; exact step
        by_cases h2 : a < 100
        · rw [li_100, if_neg (nI_ge h2 (by omega))]
          by_cases h3 : a < X
          · simp [isMv, h2, h3] at hv
          · rw [if_neg (nI_nlt (by omega) (by omega))]
            unfold f_X13_nextMove_L64
            exact go 100 h2 (by omega) (fun k h4 h5 => by simp [isMv, h5]; omega)
        · rw [li_100, if_pos (nI_le (by omega) (by omega))]; exact L41
theorem nextMove_e {tn : TnS} {X a : Nat} {v : Int32} (hX : Tn_crossings tn = nI X) (hX7 : X ≤ 7) (hv : v + 1 = nI a) (ha : a ≤ 2000) : ∃ k, f_X13_nextMove tn v = some (nI k) ∧ fst1 (isMv X) a k := by
  unfold f_X13_nextMove
  rw [lt1_e, hv]
  exact nextMove_L hX hX7 FU a (by rw [FU_e]; omega) ha
