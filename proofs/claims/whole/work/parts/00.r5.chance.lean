def TB0 : List Int64 := [1, 0, 0, 0, 0, 0, 0, 0, 0, 0, 0, 0, 0, 0, 0, 0, 0, 0, 0, 0, 0, 0, 0, 0, 0, 0, 0, 0, 0, 2, 0, 0, 0, 0, 0, 0, 0, 0, 0, 0, 0, 0, 0, 8, 0, 0, 0, 0, 0, 0, 0, 0, 0, 0, 0, 0, 0, 48, 12, 0, 0, 0, 0, 0, 0, 0, 0, 0, 0, 0, 0, 384, 160, 0, 0, 0, 0, 0, 0, 0, 0, 0, 0, 0, 0, 3840, 2080, 120, 0, 0, 0, 0, 0, 0, 0, 0, 0, 0, 0, 46080, 29568, 3360, 0, 0, 0, 0, 0, 0, 0, 0, 0, 0, 0, 645120, 467712, 76160, 1680, 0, 0, 0, 0, 0, 0, 0, 0, 0, 0, 10321920, 8220672, 1691648, 80640, 0, 0, 0, 0, 0, 0, 0, 0, 0, 0, 185794560, 159584256, 38868480, 2822400, 30240, 0, 0, 0, 0, 0, 0, 0, 0, 0, 3715891200, 3398123520, 941783040, 90280960, 2217600, 0, 0, 0, 0, 0, 0, 0, 0, 0, 81749606400, 78846197760, 24230080512, 2841287680, 110880000, 665280, 0, 0, 0, 0, 0, 0, 0, 0, 1961990553600, 1981490135040, 663076896768, 90793697280, 4827863040, 69189120, 0, 0, 0, 0, 0, 0, 0]
def TB1 : List Int64 := [1, 0, 0, 0, 0, 0, 0, 0, 0, 0, 0, 0, 0, 0, 0, 0, 0, 0, 0, 0, 0, 0, 0, 0, 0, 0, 0, 0, 0, 0, 0, 0, 0, 0, 0, 0, 0, 0, 0, 0, 0, 0, 0, 8, 0, 0, 0, 0, 0, 0, 0, 0, 0, 0, 0, 0, 0, 48, 0, 0, 0, 0, 0, 0, 0, 0, 0, 0, 0, 0, 0, 384, 0, 0, 0, 0, 0, 0, 0, 0, 0, 0, 0, 0, 0, 3840, 640, 0, 0, 0, 0, 0, 0, 0, 0, 0, 0, 0, 0, 46080, 13440, 0, 0, 0, 0, 0, 0, 0, 0, 0, 0, 0, 0, 645120, 252672, 0, 0, 0, 0, 0, 0, 0, 0, 0, 0, 0, 0, 10321920, 4902912, 143360, 0, 0, 0, 0, 0, 0, 0, 0, 0, 0, 0, 185794560, 101523456, 6451200, 0, 0, 0, 0, 0, 0, 0, 0, 0, 0, 0, 3715891200, 2262712320, 219985920, 0, 0, 0, 0, 0, 0, 0, 0, 0, 0, 0, 81749606400, 54321315840, 6996971520, 63078400, 0, 0, 0, 0, 0, 0, 0, 0, 0, 0, 1961990553600, 1401811107840, 221531701248, 4920115200, 0, 0, 0, 0, 0, 0, 0, 0, 0]
/-! in how many ways: what both tables hold -/
def TBn (once : Bool) : List Int64 := if once then TB1 else TB0
def TBf (once : Bool) (i : Nat) : Int64 := (TBn once).getD i 0
def lst (once : Bool) : Nat := if once then 3 else 2
theorem wbf_cg {f g : Nat → Int64} {l n r : Nat} (hn : n ≤ 13) (hr : r ≤ n) (hr1 : 1 ≤ r) (hl : l ≤ 3) (h : ∀ i, i < 14 * n → f i = g i) : ∀ k m (a b : Int64), 1 ≤ m → m ≤ n + 1 → f_X1_waysByFirstRing_L9 k (nI l) (nI n) (nI r) a b (nI m) f = f_X1_waysByFirstRing_L9 k (nI l) (nI n) (nI r) a b (nI m) g := by
  intro k
  induction k with
  | zero => intro m a b _ _; rfl
  | succ k ih =>
    intro m a b h1 h2
    rw [f_X1_waysByFirstRing_L9, f_X1_waysByFirstRing_L9]
    by_cases c : n < m
    · rw [if_pos (nI_lt c (by omega)), if_pos (nI_lt c (by omega))]
    · have hnm : ¬ nI n < nI m := nI_nlt (by omega) (by omega)
      unfold f_X1_waysByFirstRing_L42
      simp only [lt1_e, nI_1, hnm, if_false]
      have e : (((14 : Int32) * (nI n - nI m)) + nI r) - (1 : Int32) = nI (14 * (n - m) + r - 1) := by rw [nI_sub (by omega), li_14, nI_mul, nI_add, li_1, nI_sub (by omega)]
      rw [e, nI_clamp (by omega), h _ (by omega), ih (m + 1) _ _ (by omega) (by omega), ih (m + 1) _ _ (by omega) (by omega)]
theorem wbf_v : ∀ (once : Bool) (n : Nat), n < 14 → ∀ r, r < 14 → 1 ≤ r → r ≤ n → f_X1_waysByFirstRing (TBf once) (nI (lst once)) (nI n) (nI r) = some (TBf once (14 * n + r)) := by decide +kernel
theorem TB_out : ∀ (once : Bool) (n : Nat), n < 14 → ∀ r, r < 14 → (r = 0 ∧ n ≠ 0) ∨ n < r → TBf once (14 * n + r) = 0 := by decide +kernel
theorem TB_00 : ∀ once : Bool, TBf once 0 = 1 := by decide +kernel
/-- filled so far: all rows ahead of n, and of row n what lies ahead of r -/
def FT (once : Bool) (n r i : Nat) : Int64 := if i < 14 * n + r then TBf once i else 0
theorem chfill_e (once : Bool) {f : Nat → Int64} (h0 : ∀ i, i < 196 → f i = 0) : Ok (f_X1_fill f (nI (lst once))) (fun g => ∀ i, i < 196 → g i = TBf once i) := by
  have row : ∀ k n r (g : Nat → Int64) (K : Int32 → Int32 → (Nat → Int64) → Option (Nat → Int64)) (Q : (Nat → Int64) → Prop), n + 1 - r < k → 1 ≤ n → n ≤ 13 → 1 ≤ r → r ≤ n + 1 → (∀ i, i < 196 → g i = FT once n r i) → (∀ g', (∀ i, i < 196 → g' i = FT once (n + 1) 1 i) → Ok (K (nI (lst once)) (nI (n + 1)) g') Q) → Ok (f_X1_fill_L14 k (nI (lst once)) (nI n) (nI r) g K) Q := by
    intro k
    induction k with
    | zero => intro n r g K Q h; omega
    | succ k ih =>
      intro n r g K Q hk hn1 hn hr1 hr hg hK
      rw [f_X1_fill_L14]
      by_cases c : r = n + 1
      · subst c
        rw [if_pos (nI_lt (by omega) (by omega)), lt1_e, nI_1]
        refine hK g (fun i hi => ?_)
        rw [hg i hi]
        unfold FT
        by_cases a : i < 14 * n + (n + 1)
        · rw [if_pos a, if_pos (by omega)]
        · rw [if_neg a]
          by_cases b : i < 14 * (n + 1) + 1
          · rw [if_pos b]
            by_cases d : i = 14 * (n + 1)
            · have := TB_out once (n + 1)
              by_cases e : n + 1 < 14
              · rw [d]; exact (this e 0 (by omega) (Or.inl ⟨rfl, by omega⟩)).symm
              · omega
            · have := TB_out once n (by omega) (i - 14 * n) (by omega) (Or.inr (by omega))
              rw [show 14 * n + (i - 14 * n) = i by omega] at this
              exact this.symm
          · rw [if_neg b]
      · have hl : lst once ≤ 3 := by cases once <;> decide
        have hrow : f_X1_waysByFirstRing g (nI (lst once)) (nI n) (nI r) = some (TBf once (14 * n + r)) := by
          rw [← wbf_v once n (by omega) r (by omega) hr1 (by omega)]
          unfold f_X1_waysByFirstRing
          exact wbf_cg hn (by omega) hr1 hl (fun i hi => by
            rw [hg i (by omega)]
            unfold FT
            rw [if_pos (by omega)]) FU 1 0 1 (by omega) (by omega)
        rw [if_neg (nI_nlt (by omega) (by omega)), bd1_e hrow, li_14, nI_mul, nI_add, ckI (by omega) (by decide), lt1_e, lt1_e, nI_1, nI_clamp (by omega)]
        refine ih n (r + 1) _ K Q (by omega) hn1 hn (by omega) (by omega) (fun i hi => ?_) hK
        rw [updL_if]
        unfold FT
        by_cases a : i = 14 * n + r
        · rw [if_pos a, if_pos (by omega), a]
        · rw [if_neg a, hg i hi]
          unfold FT
          by_cases b : i < 14 * n + r
          · rw [if_pos b, if_pos (by omega)]
          · rw [if_neg b, if_neg (by omega)]
  have rows : ∀ k n (g : Nat → Int64), 14 - n < k → 1 ≤ n → n ≤ 14 → (∀ i, i < 196 → g i = FT once n 1 i) → Ok (f_X1_fill_L6 k (nI (lst once)) (nI n) g) (fun g => ∀ i, i < 196 → g i = TBf once i) := by
    intro k
    induction k with
    | zero => intro n g h; omega
    | succ k ih =>
      intro n g hk hn1 hn hg
      rw [f_X1_fill_L6]
      by_cases c : n = 14
      · subst c
        rw [if_pos (by decide), Ok_some]
        intro i hi
        rw [hg i hi]
        unfold FT
        rw [if_pos (by omega)]
      · rw [li_13, if_neg (nI_nlt (by omega) (by omega))]
        exact row FU n 1 g _ _ (by rw [FU_e]; omega) hn1 (by omega) (by omega) (by omega) hg (fun g' hg' => ih (n + 1) g' (by omega) (by omega) (by omega) hg')
  unfold f_X1_fill
  rw [show (0 : Int32) = nI 0 from rfl, ckI (by decide) (by decide), lt1_e, nI_clamp (by decide)]
  refine rows FU 1 _ (by rw [FU_e]; omega) (by omega) (by omega) (fun i hi => ?_)
  rw [updL_if]
  unfold FT
  by_cases a : i = 0
  · rw [if_pos a, a, if_pos (by decide), TB_00]
  · rw [if_neg a, h0 i hi]
    by_cases b : i < 14 * 1 + 1
    · rw [if_pos b]
      by_cases d : i = 14
      · have := TB_out once 1 (by decide) 0 (by decide) (Or.inl ⟨rfl, by decide⟩)
        rw [d]; exact this.symm
      · have := TB_out once 0 (by decide) i (by omega) (Or.inr (by omega))
        rw [Nat.mul_zero, Nat.zero_add] at this
        exact this.symm
    · rw [if_neg b]
