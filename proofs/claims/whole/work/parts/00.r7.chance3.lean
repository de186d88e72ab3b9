def RT (once : Bool) (k j r i : Nat) : Int64 := if i < 14 * k then TBf once i else if 14 * k < i ∧ i ≤ 14 * k + k then (if i < 14 * k + r then acc once k (i - 14 * k) (j + 1) else acc once k (i - 14 * k) j) else 0
def Wc (md md' : MdS) : Prop := ∃ f, md' = Md_ways' md f
theorem Wc.refl (md : MdS) : Wc md md := ⟨Md_ways md, rfl⟩
theorem Wc.u {a b : MdS} (h : Wc a b) (f : Nat → Int64) : Wc a (Md_ways' b f) := by obtain ⟨g, rfl⟩ := h; exact ⟨f, rfl⟩
theorem Wc.sc {a b : MdS} (h : Wc a b) : Sc a b := by obtain ⟨f, rfl⟩ := h; exact Sc.u_ways _ _
section LW
variable {once : Bool} {md0 : MdS}
theorem lw_r {n k s : Nat} (hk : k ≤ 13) (hs : 2 ≤ s) (hsk : s ≤ k) (hos : ¬ (once = true ∧ s - 2 = 0)) (K : Int32 → Int32 → Int32 → Int32 → Int64 → Int32 → MdS → Option MdS) (Q : MdS → Prop) :
    ∀ f r md, k + 1 - r < f → 1 ≤ r → r ≤ k + 1 → Wc md0 md → (∀ i, i < 196 → Md_ways md i = RT once k (s - 2) r i) →
    (∀ md', Wc md0 md' → (∀ i, i < 196 → Md_ways md' i = RT once k (s - 1) 1 i) → Ok (K (nI n) (bI once) (nI 14) (nI k) (rgv (s - 1)) (nI (s + 1)) md') Q) →
    Ok (f_X13_laysWays_L87 f (nI n) (bI once) (nI 14) (nI k) (rgv (s - 1)) (nI s) (nI r) md K) Q := by
  intro f
  induction f with
  | zero => intro r md h; omega
  | succ f ih =>
    intro r md hf hr1 hr hq hW hK
    rw [f_X13_laysWays_L87]
    by_cases c : r = k + 1
    · subst c
      rw [if_pos (nI_lt (by omega) (by omega))]
      unfold f_X13_laysWays_L147
      rw [lt1_e, nI_1]
      refine hK md hq (fun i hi => ?_)
      rw [hW i hi]
      unfold RT
      by_cases a : i < 14 * k
      · rw [if_pos a, if_pos a]
      · rw [if_neg a, if_neg a]
        by_cases b : 14 * k < i ∧ i ≤ 14 * k + k
        · rw [if_pos b, if_pos b, if_pos (by omega), if_neg (by omega), show s - 2 + 1 = s - 1 by omega]
        · rw [if_neg b, if_neg b]
    · have e1 : nI k - 1 = nI (k - 1) := by rw [li_1, nI_sub (by omega)]
      have e2 : nI s - 1 = nI (s - 1) := by rw [li_1, nI_sub (by omega)]
      have e3 : (nI 14 * (nI k - nI s)) + nI r - 1 = nI (14 * (k - s) + r - 1) := by rw [nI_sub (by omega), nI_mul, nI_add, li_1, nI_sub (by omega)]
      rw [if_neg (nI_nlt (by omega) (by omega)), e1, e2, e3, nI_mul, nI_add, ckI (by omega) (by decide), bd1_e (chv_e (k - 1) (by omega) (s - 1) (by omega) (by omega)), ckI (by omega) (by decide), ckI (by omega) (by decide), lt1_e, lt1_e, nI_1, nI_clamp (by omega), nI_clamp (by omega)]
      refine ih (r + 1) _ (by omega) (by omega) (by omega) (hq.u _) (fun i hi => ?_) hK
      rw [gs_ways, updL_if]
      by_cases a : i = 14 * k + r
      · subst a
        rw [if_pos rfl, hW _ hi, hW _ (by omega)]
        have w1 : RT once k (s - 2) r (14 * k + r) = acc once k r (s - 2) := by
          unfold RT
          rw [if_neg (by omega), if_pos (by omega), if_neg (by omega), show 14 * k + r - 14 * k = r by omega]
        have w2 : RT once k (s - 2) r (14 * (k - s) + r - 1) = TBf once (14 * (k - s) + r - 1) := by
          unfold RT
          rw [if_pos (by omega)]
        have w3 : RT once k (s - 2) (r + 1) (14 * k + r) = acc once k r (s - 2 + 1) := by
          unfold RT
          rw [if_neg (by omega), if_pos (by omega), if_pos (by omega), show 14 * k + r - 14 * k = r by omega]
        rw [w1, w2, w3, acc, if_neg hos, show s - 2 + 1 = s - 1 by omega, show s - 2 + 2 = s by omega]
      · rw [if_neg a, hW i hi]
        unfold RT
        by_cases b : i < 14 * k
        · rw [if_pos b, if_pos b]
        · rw [if_neg b, if_neg b]
          by_cases d : 14 * k < i ∧ i ≤ 14 * k + k
          · rw [if_pos d, if_pos d]
            by_cases e : i < 14 * k + r
            · rw [if_pos e, if_pos (by omega)]
            · rw [if_neg e, if_neg (by omega)]
          · rw [if_neg d, if_neg d]
theorem lw_s {n k : Nat} (hk1 : 1 ≤ k) (hk : k ≤ 13) (K : Int32 → Int32 → Int32 → Int32 → MdS → Option MdS) (Q : MdS → Prop) :
    ∀ f s md, k + 1 - s < f → 2 ≤ s → (s ≤ k + 1 ∨ s = 2) → Wc md0 md → (∀ i, i < 196 → Md_ways md i = RT once k (s - 2) 1 i) →
    (∀ md', Wc md0 md' → (∀ i, i < 196 → Md_ways md' i = if i < 14 * (k + 1) then TBf once i else 0) → Ok (K (nI n) (bI once) (nI 14) (nI (k + 1)) md') Q) →
    Ok (f_X13_laysWays_L50 f (nI n) (bI once) (nI 14) (nI k) (rgv (s - 2)) (nI s) md K) Q := by
  intro f
  induction f with
  | zero => intro s md h; omega
  | succ f ih =>
    intro s md hf hs hsk hq hW hK
    rw [f_X13_laysWays_L50]
    by_cases c : k < s
    · rw [if_pos (nI_lt c (by omega)), lt1_e, nI_1]
      refine hK md hq (fun i hi => ?_)
      rw [hW i hi]
      unfold RT
      have es : s - 2 = k - 1 := by omega
      by_cases a : i < 14 * k
      · rw [if_pos a, if_pos (by omega)]
      · rw [if_neg a]
        by_cases b : 14 * k < i ∧ i ≤ 14 * k + k
        · rw [if_pos b, if_neg (by omega), if_pos (by omega), es, acc_v once k (by omega) hk1 (i - 14 * k) (by omega) (by omega) (by omega), show 14 * k + (i - 14 * k) = i by omega]
        · rw [if_neg b]
          by_cases d : i < 14 * (k + 1)
          · rw [if_pos d]
            have := TB_out once k (by omega) (i - 14 * k) (by omega) (by omega)
            rw [show 14 * k + (i - 14 * k) = i by omega] at this
            exact this.symm
          · rw [if_neg d]
    · have e1 : nI s - 1 = nI (s - 1) := by rw [li_1, nI_sub (by omega)]
      have er : rgv (s - 2) * ((2 : Int64) * Int32.toInt64 (nI s - 1)) = rgv (s - 1) := by
        rw [e1]
        obtain ⟨q, rfl⟩ : ∃ q, s = q + 2 := ⟨s - 2, by omega⟩
        rfl
      rw [if_neg (nI_nlt (by omega) (by omega)), lt1_e, er]
      have next : ∀ md', Wc md0 md' → (∀ i, i < 196 → Md_ways md' i = RT once k (s - 1) 1 i) → Ok (f_X13_laysWays_L50 f (nI n) (bI once) (nI 14) (nI k) (rgv (s - 1)) (nI (s + 1)) md' K) Q := by
        intro md' q1 q2
        have := ih (s + 1) md' (by omega) (by omega) (by omega) q1 (by rw [show s + 1 - 2 = s - 1 by omega]; exact q2) hK
        rw [show s + 1 - 2 = s - 1 by omega] at this
        exact this
      have full : ¬ (once = true ∧ s - 2 = 0) → Ok (f_X13_laysWays_L84 (nI n) (bI once) (nI 14) (nI k) (rgv (s - 1)) (nI s) md (fun y0 y1 y2 y3 y4 y5 y6 => f_X13_laysWays_L50 f y0 y1 y2 y3 y4 y5 y6 K)) Q := by
        intro ho
        unfold f_X13_laysWays_L84
        exact lw_r hk hs (by omega) ho _ _ FU 1 md (by rw [FU_e]; omega) (by omega) (by omega) hq hW next
      cases ho : once with
      | false =>
        rw [if_pos (by rfl), ← ho]
        exact full (by rw [ho]; exact fun h => by cases h.1)
      | true =>
        rw [if_neg (by decide), ← ho]
        by_cases e : s = 2
        · rw [if_pos (by rw [e]; rfl)]
          unfold f_X13_laysWays_L147
          rw [lt1_e, nI_1]
          refine next md hq (fun i hi => ?_)
          rw [hW i hi]
          unfold RT
          subst e
          have : ∀ x, acc once k x 1 = acc once k x 0 := fun x => if_pos (c := once = true ∧ 0 = 0) ⟨ho, rfl⟩
          by_cases a : i < 14 * k
          · rw [if_pos a, if_pos a]
          · rw [if_neg a, if_neg a]
            by_cases b : 14 * k < i ∧ i ≤ 14 * k + k
            · rw [if_pos b, if_pos b, if_neg (by omega), if_neg (by omega), show 2 - 1 = 1 from rfl, this]
            · rw [if_neg b, if_neg b]
        · rw [li_2, if_neg (fun h => e (nI_inj h (by omega) (by omega)))]
          exact full (fun h => by omega)
theorem laysWays_e {n : Nat} (hn : n ≤ 13) {md : MdS} : Ok (f_X13_laysWays md (nI n) (bI once)) (fun md' => Wc md md' ∧ ∀ i, i < 14 * (n + 1) → Md_ways md' i = TBf once i) := by
  have rows : ∀ f k md1, n + 1 - k < f → 1 ≤ k → k ≤ n + 1 → Wc md md1 → (∀ i, i < 196 → Md_ways md1 i = if i < 14 * k then TBf once i else 0) → Ok (f_X13_laysWays_L38 f (nI n) (bI once) (nI 14) (nI k) md1) (fun md' => Wc md md' ∧ ∀ i, i < 14 * (n + 1) → Md_ways md' i = TBf once i) := by
    intro f
    induction f with
    | zero => intro k md1 h; omega
    | succ f ih =>
      intro k md1 hf hk1 hk hq hW
      rw [f_X13_laysWays_L38]
      by_cases c : k = n + 1
      · subst c
        rw [if_pos (nI_lt (by omega) (by omega)), Ok_some]
        exact ⟨hq, fun i hi => by rw [hW i (by omega), if_pos hi]⟩
      · rw [if_neg (nI_nlt (by omega) (by omega))]
        refine lw_s hk1 (by omega) _ _ FU 2 md1 (by rw [FU_e]; omega) (by omega) (Or.inr rfl) hq (fun i hi => ?_) (fun md' q1 q2 => ih (k + 1) md' (by omega) (by omega) (by omega) q1 q2)
        rw [hW i hi]
        unfold RT
        by_cases a : i < 14 * k
        · rw [if_pos a, if_pos a]
        · rw [if_neg a, if_neg a]
          by_cases b : 14 * k < i ∧ i ≤ 14 * k + k
          · rw [if_pos b, if_neg (by omega)]; rfl
          · rw [if_neg b]
  have zero : ∀ f k md1, 196 - k < f → k ≤ 196 → Wc md md1 → (∀ i, i < k → Md_ways md1 i = 0) → Ok (f_X13_laysWays_L6 f (nI n) (bI once) (nI 14) (nI k) md1) (fun md' => Wc md md' ∧ ∀ i, i < 14 * (n + 1) → Md_ways md' i = TBf once i) := by
    intro f
    induction f with
    | zero => intro k md1 h; omega
    | succ f ih =>
      intro k md1 hf hk hq hW
      rw [f_X13_laysWays_L6, nI_mul]
      by_cases c : k = 196
      · rw [if_pos (by rw [c]; decide), show (0 : Int32) = nI 0 from rfl, ckI (by decide) (by decide), lt1_e, nI_clamp (by decide)]
        refine rows FU 1 _ (by rw [FU_e]; omega) (by omega) (by omega) (hq.u _) (fun i hi => ?_)
        rw [gs_ways, updL_if]
        by_cases a : i = 0
        · rw [if_pos a, a, if_pos (by decide), TB_00]
        · rw [if_neg a, hW i (by omega)]
          by_cases b : i < 14 * 1
          · rw [if_pos b]
            have := TB_out once 0 (by decide) i (by omega) (Or.inr (by omega))
            rw [Nat.mul_zero, Nat.zero_add] at this
            exact this.symm
          · rw [if_neg b]
      · rw [if_neg (nI_ge (show k < 14 * 14 by omega) (by decide)), ckI (by omega) (by decide), lt1_e, lt1_e, nI_1, nI_clamp (by omega)]
        refine ih (k + 1) _ (by omega) (by omega) (hq.u _) (fun i hi => ?_)
        rw [gs_ways, updL_if]
        by_cases a : i = k
        · rw [if_pos a]
        · rw [if_neg a]; exact hW i (by omega)
  unfold f_X13_laysWays
  exact zero FU 0 md (by rw [FU_e]; omega) (by omega) (Wc.refl md) (fun i h => by omega)
end LW
