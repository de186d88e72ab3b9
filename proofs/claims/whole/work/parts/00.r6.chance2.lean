def sw (once : Bool) (n : Nat) : Nat → Int64
  | 0 => 0
  | k + 1 => sw once n k + TBf once (14 * n + k)
def sr (once : Bool) (n : Nat) : Nat → Int64
  | 0 => 0
  | k + 1 => sr once n k + (Int32.toInt64 (nI k)) * TBf once (14 * n + k)
theorem sw_e : ∀ (once : Bool) (n : Nat), n < 14 → sw once n 14 = sw once n (n + 1) ∧ sr once n 14 = sr once n (n + 1) := by decide +kernel
/-- how the class's tables stand -/
def ChI (ch : ChS) : Prop := (Ch_filled ch = 0 ∧ ∀ i, i < 196 → Ch_often ch i = 0 ∧ Ch_onlyOnce ch i = 0) ∨ (Ch_filled ch = 1 ∧ ∀ i, i < 196 → Ch_often ch i = TBf false i ∧ Ch_onlyOnce ch i = TBf true i)
theorem waysInto_e {ch : ChS} (h : ChI ch) {n r : Nat} (hn : n ≤ 13) (hr : r ≤ 13) (once : Bool) : Ok (f_X1_waysInto ch (nI n) (nI r) (bI once)) (fun q => q.1 = TBf once (14 * n + r) ∧ ChI q.2) := by
  have fin : ∀ c1 : ChS, Ch_filled c1 = 1 → (∀ i, i < 196 → Ch_often c1 i = TBf false i ∧ Ch_onlyOnce c1 i = TBf true i) → Ok (f_X1_waysInto_L28 (nI n) (nI r) (bI once) c1) (fun q => q.1 = TBf once (14 * n + r) ∧ ChI q.2) := by
    intro c1 h1 h2
    unfold f_X1_waysInto_L28
    have e : f_X1_isRingCount (nI r) = some 1 := by
      unfold f_X1_isRingCount
      rw [if_neg (nI_pos (by omega)), li_13, if_neg (nI_nlt (by omega) (by omega))]
    rw [if_neg (nI_pos (by omega)), li_13, if_neg (nI_nlt (by omega) (by omega)), bd1_e e, if_neg (by decide), li_14, nI_mul, nI_add]
    cases once with
    | false =>
      rw [if_pos (by rfl), ckI (by omega) (by decide), nI_clamp (by omega), Ok_some]
      exact ⟨(h2 _ (by omega)).1, Or.inr ⟨h1, h2⟩⟩
    | true =>
      rw [if_neg (by decide), ckI (by omega) (by decide), nI_clamp (by omega), Ok_some]
      exact ⟨(h2 _ (by omega)).2, Or.inr ⟨h1, h2⟩⟩
  unfold f_X1_waysInto
  rcases h with ⟨h1, h2⟩ | ⟨h1, h2⟩
  · rw [if_pos h1, Ok_bd1]
    refine (chfill_e false (fun i hi => (h2 i hi).1)).mono (fun g hg => ?_)
    rw [lt1_e, Ok_bd1]
    refine (chfill_e true (f := Ch_onlyOnce (Ch_often' ch g)) (fun i hi => (h2 i hi).2)).mono (fun g2 hg2 => ?_)
    rw [lt1_e, lt1_e]
    exact fin _ rfl (fun i hi => ⟨hg i hi, hg2 i hi⟩)
  · rw [if_neg (by rw [h1]; decide)]
    exact fin ch h1 h2
theorem allWays_e {n : Nat} (hn : n ≤ 13) (once : Bool) : ∀ {ch : ChS}, ChI ch → Ok (f_X1_allWays ch (nI n) (bI once)) (fun q => q.1 = sw once n 14 ∧ ChI q.2) := by
  intro ch h
  have key : ∀ k r ch, 14 - r < k → r ≤ 14 → ChI ch → Ok (f_X1_allWays_L5 k (nI n) (bI once) (sw once n r) (nI r) ch) (fun q => q.1 = sw once n 14 ∧ ChI q.2) := by
    intro k
    induction k with
    | zero => intro r ch h; omega
    | succ k ih =>
      intro r ch hk hr h
      rw [f_X1_allWays_L5]
      by_cases c : r = 14
      · subst c
        rw [if_pos (by decide), Ok_some]
        exact ⟨rfl, h⟩
      · rw [li_13, if_neg (nI_nlt (by omega) (by omega)), Ok_bd2]
        refine (waysInto_e h hn (show r ≤ 13 by omega) once).mono (fun q hq => ?_)
        rw [lt1_e, lt1_e, nI_1, hq.1]
        exact ih (r + 1) q.2 (by omega) (by omega) hq.2
  unfold f_X1_allWays
  exact key FU 0 ch (by rw [FU_e]; omega) (by omega) h
theorem allRings_e {n : Nat} (hn : n ≤ 13) (once : Bool) : ∀ {ch : ChS}, ChI ch → Ok (f_X1_allRings ch (nI n) (bI once)) (fun q => q.1 = sr once n 14 ∧ ChI q.2) := by
  intro ch h
  have key : ∀ k r ch, 14 - r < k → r ≤ 14 → ChI ch → Ok (f_X1_allRings_L5 k (nI n) (bI once) (sr once n r) (nI r) ch) (fun q => q.1 = sr once n 14 ∧ ChI q.2) := by
    intro k
    induction k with
    | zero => intro r ch h; omega
    | succ k ih =>
      intro r ch hk hr h
      rw [f_X1_allRings_L5]
      by_cases c : r = 14
      · subst c
        rw [if_pos (by decide), Ok_some]
        exact ⟨rfl, h⟩
      · rw [li_13, if_neg (nI_nlt (by omega) (by omega)), Ok_bd2]
        refine (waysInto_e h hn (show r ≤ 13 by omega) once).mono (fun q hq => ?_)
        rw [lt1_e, lt1_e, nI_1, hq.1]
        exact ih (r + 1) q.2 (by omega) (by omega) hq.2
  unfold f_X1_allRings
  exact key FU 0 ch (by rw [FU_e]; omega) (by omega) h
/-! the common divisor, by Euclid's way -/
def gst : Nat → Int64 → Int64 → Option Int64
  | 0, _, _ => none
  | k + 1, a, b => if b = 0 then some a else gst k b (a - a / b * b)
theorem gst_c : ∀ k a b g i n, gst k a b = some g → i + k ≤ 200 → k < n → f_X1_commonDivisor_L9 n a b (nI i) = some g := by
  intro k
  induction k with
  | zero => intro a b g i n h; cases h
  | succ k ih =>
    intro a b g i n h hi hn
    cases n with
    | zero => omega
    | succ n =>
      rw [gst] at h
      rw [f_X1_commonDivisor_L9]
      by_cases c : b = 0
      · rw [if_pos c] at h
        rw [if_pos (lg0.mpr c)]; exact h
      · rw [if_neg c] at h
        rw [if_neg (fun e => c (lg0.mp e)), li_200, if_neg (nI_ge (show i < 200 by omega) (by omega)), nzl_i c, lt1_e, lt1_e, nI_1]
        exact ih b _ g (i + 1) n h (by omega) (by omega)
theorem gst_r {u l : Int64} {lw : Int32} {md : MdS} : ∀ k a b g n, gst k a b = some g → g ≠ 0 → k < n → f_X13_told_L26 n u l lw a b md = some (if lw = 0 then u / g else l / g, md) := by
  intro k
  induction k with
  | zero => intro a b g n h; cases h
  | succ k ih =>
    intro a b g n h hg hn
    cases n with
    | zero => omega
    | succ n =>
      rw [gst] at h
      rw [f_X13_told_L26]
      by_cases c : b = 0
      · rw [if_pos c] at h
        cases h
        rw [if_pos (lg0.mpr c)]
        by_cases d : lw = 0
        · rw [if_pos d, nzl_i hg, if_pos d]
        · rw [if_neg d, nzl_i hg, if_neg d]
      · rw [if_neg c] at h
        rw [if_neg (fun e => c (lg0.mp e)), nzl_i c, lt1_e]
        exact ih b _ g n h hg (by omega)
def gok (u l : Int64) : Bool := match gst 150 u l with
  | none => false
  | some g => decide (g ≠ 0)
theorem gok_all : ∀ (once : Bool) (n : Nat), n < 14 → 2 ≤ n → sw once n 14 ≠ 0 → (∀ r, r < 14 → gok (TBf once (14 * n + r)) (sw once n 14) = true) ∧ gok (sr once n 14) (sw once n 14) = true := by decide +kernel
theorem low_e {u l : Int64} (h : gok u l = true) (lw : Bool) {md : MdS} : ∃ v, f_X1_inLowestTerms u l (bI lw) = some v ∧ f_X13_told_L26 FU u l (bI lw) u l md = some (v, md) := by
  unfold gok at h
  cases hg : gst 150 u l with
  | none => rw [hg] at h; cases h
  | some g =>
    rw [hg] at h
    have hg0 : g ≠ 0 := of_decide_eq_true h
    refine ⟨if bI lw = 0 then u / g else l / g, ?_, gst_r 150 u l g FU hg hg0 (by rw [FU_e]; omega)⟩
    have e := gst_c 150 u l g 0 FU hg (by omega) (by rw [FU_e]; omega)
    unfold f_X1_inLowestTerms f_X1_commonDivisor f_X1_inLowestTerms_L17
    rw [show (0 : Int32) = nI 0 from rfl] at *
    rw [bd1_e e]
    have hz : ¬ lg_cmp g (0 : Int64) = nI 0 := fun e => hg0 (lg0.mp e)
    by_cases d : bI lw = nI 0
    · rw [if_pos d, if_neg hz, nzl_i hg0, if_pos d]
    · rw [if_neg d, if_neg hz, nzl_i hg0, if_neg d]
/-! the reference's table -/
def chv (a b : Nat) : Int64 := (f_X13_chosen (nI a) (nI b)).getD 0
theorem chv_e : ∀ a, a < 13 → ∀ b, b < 13 → b ≤ a → f_X13_chosen (nI a) (nI b) = some (chv a b) := by
  have h : ∀ a, a < 13 → ∀ b, b < 13 → b ≤ a → (f_X13_chosen (nI a) (nI b)).isSome = true := by decide +kernel
  intro a ha b hb hab
  unfold chv
  cases e : f_X13_chosen (nI a) (nI b) with
  | none => have := h a ha b hb hab; rw [e] at this; cases this
  | some v => rfl
def rgv : Nat → Int64
  | 0 => 1
  | s + 1 => rgv s * ((2 : Int64) * Int32.toInt64 (nI (s + 1)))
/-- what row k has at r behind rings of up to s + 1 -/
def acc (once : Bool) (k r : Nat) : Nat → Int64
  | 0 => 0
  | s + 1 => if once = true ∧ s = 0 then acc once k r s else acc once k r s + chv (k - 1) (s + 1) * rgv (s + 1) * TBf once (14 * (k - (s + 2)) + r - 1)
theorem acc_v : ∀ (once : Bool) (k : Nat), k < 14 → 1 ≤ k → ∀ r, r < 14 → 1 ≤ r → r ≤ k → acc once k r (k - 1) = TBf once (14 * k + r) := by decide +kernel
