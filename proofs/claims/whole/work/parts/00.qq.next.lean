/-! come to by so many moves or fewer -/
def RK (tn : TnS) (pt : Option Nat) (lf : Int32) : Nat → Int64 → Int64 → Prop
  | 0, u, v => u = v
  | k + 1, u, v => RK tn pt lf k u v ∨ ∃ w, RK tn pt lf k u w ∧ v ∈ SUC tn pt lf w
section NEXT
variable {tn : TnS} {pt : Option Nat} {lf : Int32} {t0 : Int64}
theorem RK_refl (u : Int64) : ∀ k, RK tn pt lf k u u := by
  intro k
  induction k with
  | zero => rfl
  | succ k ih => exact Or.inl ih
theorem RK_mono {u v : Int64} : ∀ j k, k ≤ j → RK tn pt lf k u v → RK tn pt lf j u v := by
  intro j
  induction j with
  | zero => intro k hk h; rw [show k = 0 by omega] at h; exact h
  | succ j ih =>
    intro k hk h
    by_cases e : k = j + 1
    · rw [← e]; exact h
    · exact Or.inl (ih k (by omega) h)
theorem RK_left {b : Int64} (hb : b ∈ SUC tn pt lf t0) : ∀ k v, RK tn pt lf k b v → RK tn pt lf (k + 1) t0 v := by
  intro k
  induction k with
  | zero => intro v h; have h : b = v := h; rw [← h]; exact Or.inr ⟨t0, rfl, hb⟩
  | succ k ih =>
    intro v h
    rcases h with h | ⟨w, h1, h2⟩
    · exact Or.inl (ih v h)
    · exact Or.inr ⟨w, ih w h1, h2⟩
/-- what a level is -/
def LvI (tn : TnS) (pt : Option Nat) (lf : Int32) (t0 : Int64) (k : Nat) (seen : List Int64) (fr : Nat) : Prop :=
  seen.Nodup ∧ seen.length ≤ 4000 ∧ fr ≤ seen.length ∧ (∀ v, v ∈ seen ↔ RK tn pt lf k t0 v) ∧ (∀ v, v ∈ seen.drop fr → ∀ j, j < k → ¬ RK tn pt lf j t0 v) ∧ (∀ w, w ∈ seen.take fr → ∀ v, v ∈ SUC tn pt lf w → v ∈ seen) ∧ (∀ w, w ∈ seen.take fr → ∃ j, j < k ∧ RK tn pt lf j t0 w)
theorem lvl_I : ∀ k seen fr, lvl tn pt lf t0 k = some (seen, fr) → LvI tn pt lf t0 k seen fr := by
  intro k
  induction k with
  | zero =>
    intro seen fr h
    cases h
    refine ⟨by simp, by simp, by simp, fun v => ?_, fun v _ j hj => (by omega), fun w hw => (by cases hw), fun w hw => (by cases hw)⟩
    rw [List.mem_singleton]
    exact ⟨fun h => h.symm, fun h => (show t0 = v from h).symm⟩
  | succ k ih =>
    intro s' fr' h
    rw [lvl] at h
    cases hl : lvl tn pt lf t0 k with
    | none => rw [hl] at h; cases h
    | some q =>
      obtain ⟨seen, fr⟩ := q
      rw [hl] at h
      replace h : (match addAll seen ((seen.drop fr).flatMap (SUC tn pt lf)) with | none => none | some s' => some (s', seen.length)) = some (s', fr') := h
      cases ha : addAll seen ((seen.drop fr).flatMap (SUC tn pt lf)) with
      | none => rw [ha] at h; cases h
      | some s2 =>
        rw [ha] at h
        cases h
        obtain ⟨i1, i2, i3, i4, i5, i6, i7⟩ := ih seen fr hl
        obtain ⟨a1, a2, a3, e, a4⟩ := addAll_nd _ _ _ ha i1 i2
        have hm : ∀ v, v ∈ s' ↔ RK tn pt lf (k + 1) t0 v := by
          intro v
          rw [a3 v]
          constructor
          · rintro (h | h)
            · exact Or.inl ((i4 v).mp h)
            · obtain ⟨w, h1, h2⟩ := List.mem_flatMap.mp h
              exact Or.inr ⟨w, (i4 w).mp (List.mem_of_mem_drop h1), h2⟩
          · rintro (h | ⟨w, h1, h2⟩)
            · exact Or.inl ((i4 v).mpr h)
            · have hw := (i4 w).mpr h1
              rw [← List.take_append_drop fr seen] at hw
              rcases List.mem_append.mp hw with h | h
              · exact Or.inl (i6 w h v h2)
              · exact Or.inr (List.mem_flatMap.mpr ⟨w, h, h2⟩)
        refine ⟨a1, a2, by rw [a4, List.length_append]; omega, hm, fun v hv j hj hr => ?_, fun w hw v hv => ?_, fun w hw => ?_⟩
        · have h1 : v ∈ seen := (i4 v).mpr (RK_mono k j (by omega) hr)
          rw [a4, List.drop_append_of_le_length (Nat.le_refl _), List.drop_length, List.nil_append] at hv
          rw [a4, List.nodup_append] at a1
          exact a1.2.2 v h1 v hv rfl
        · rw [a4, List.take_append_of_le_length (Nat.le_refl _), List.take_length] at hw
          exact (hm v).mpr (Or.inr ⟨w, (i4 w).mp hw, hv⟩)
        · rw [a4, List.take_append_of_le_length (Nat.le_refl _), List.take_length] at hw
          exact ⟨k, by omega, (i4 w).mp hw⟩
theorem addAll_fits {S : List Int64} (hS : S.length ≤ 4000) : ∀ (xs seen : List Int64), seen.Nodup → (∀ v, v ∈ seen → v ∈ S) → (∀ v, v ∈ xs → v ∈ S) → ∃ s', addAll seen xs = some s' := by
  intro xs
  induction xs with
  | nil => intro seen _ _ _; exact ⟨seen, rfl⟩
  | cons x xs ih =>
    intro seen hn h1 h2
    rw [addAll]
    by_cases c : x ∈ seen
    · rw [if_pos c]
      exact ih seen hn h1 (fun v hv => h2 v (List.mem_cons_of_mem _ hv))
    · have hn2 : (seen ++ [x]).Nodup := by
        rw [List.nodup_append]
        exact ⟨hn, by simp, fun a ha b hb e => c (by rw [List.mem_singleton.mp hb] at e; rw [← e]; exact ha)⟩
      have hsub : ∀ v, v ∈ seen ++ [x] → v ∈ S := fun v hv => by
        rcases List.mem_append.mp hv with h | h
        · exact h1 v h
        · rw [List.mem_singleton.mp h]; exact h2 x (by simp)
      have hl := hn2.length_le_of_subset (fun v hv => hsub v hv)
      rw [List.length_append, List.length_singleton] at hl
      rw [if_neg c, if_neg (by omega)]
      exact ih _ hn2 hsub (fun v hv => h2 v (List.mem_cons_of_mem _ hv))
theorem lvl_fits {S : List Int64} (hS : S.length ≤ 4000) : ∀ k, (∀ v, RK tn pt lf k t0 v → v ∈ S) → ∃ q, lvl tn pt lf t0 k = some q := by
  intro k
  induction k with
  | zero => intro _; exact ⟨_, rfl⟩
  | succ k ih =>
    intro h
    obtain ⟨⟨seen, fr⟩, hq⟩ := ih (fun v hv => h v (Or.inl hv))
    have hi := lvl_I k seen fr hq
    obtain ⟨s', hs⟩ := addAll_fits hS ((seen.drop fr).flatMap (SUC tn pt lf)) seen hi.1 (fun v hv => h v (Or.inl ((hi.2.2.2.1 v).mp hv))) (fun v hv => by
      obtain ⟨w, h1, h2⟩ := List.mem_flatMap.mp hv
      exact h v (Or.inr ⟨w, (hi.2.2.2.1 w).mp (List.mem_of_mem_drop h1), h2⟩))
    refine ⟨(s', seen.length), ?_⟩
    rw [lvl, hq]
    show (match addAll seen ((seen.drop fr).flatMap (SUC tn pt lf)) with | none => none | some s' => some (s', seen.length)) = _
    rw [hs]
/-- a loose one can be come to -/
def LZ (tn : TnS) (pt : Option Nat) (lf : Int32) (k : Nat) (u : Int64) : Prop := ∃ v, RK tn pt lf k u v ∧ lsB tn v = true
theorem any_LZ {k : Nat} {seen : List Int64} {fr : Nat} (h : lvl tn pt lf t0 k = some (seen, fr)) (hno : ∀ j, j < k → ¬ LZ tn pt lf j t0) : (seen.drop fr).any (lsB tn) = true ↔ LZ tn pt lf k t0 := by
  obtain ⟨i1, i2, i3, i4, i5, i6, i7⟩ := lvl_I k seen fr h
  constructor
  · intro h
    obtain ⟨v, hv, hl⟩ := List.any_eq_true.mp h
    exact ⟨v, (i4 v).mp (List.mem_of_mem_drop hv), hl⟩
  · rintro ⟨v, hv, hl⟩
    refine List.any_eq_true.mpr ⟨v, ?_, hl⟩
    have hm := (i4 v).mpr hv
    rw [← List.take_append_drop fr seen] at hm
    rcases List.mem_append.mp hm with h | h
    · obtain ⟨j, hj, hr⟩ := i7 v h
      exact absurd ⟨v, hr, hl⟩ (hno j hj)
    · exact h
theorem fewG_at {d : Nat} (hs : ∀ k, k ≤ d → ∃ q, lvl tn pt lf t0 k = some q) : ∀ rem k, k + rem = d → (∀ j, j < k → ¬ LZ tn pt lf j t0) →
    (∀ n, k ≤ n → n ≤ d → (∀ j, j < n → ¬ LZ tn pt lf j t0) → LZ tn pt lf n t0 → fewG tn pt lf t0 rem k = nI n) ∧ ((∀ j, j ≤ d → ¬ LZ tn pt lf j t0) → fewG tn pt lf t0 rem k = -2) := by
  intro rem
  induction rem with
  | zero =>
    intro k hk hno
    obtain ⟨⟨seen, fr⟩, hq⟩ := hs k (by omega)
    have ha := any_LZ hq hno
    refine ⟨fun n h1 h2 h3 h4 => ?_, fun h => ?_⟩
    · rw [show n = k by omega] at h4 ⊢
      rw [fewG, hq]
      exact if_pos (ha.mpr h4)
    · rw [fewG, hq]
      exact if_neg (fun h2 => h k (by omega) (ha.mp h2))
  | succ rem ih =>
    intro k hk hno
    obtain ⟨⟨seen, fr⟩, hq⟩ := hs k (by omega)
    have ha := any_LZ hq hno
    refine ⟨fun n h1 h2 h3 h4 => ?_, fun h => ?_⟩
    · by_cases e : n = k
      · rw [e] at h4 ⊢
        rw [fewG, hq]
        exact if_pos (ha.mpr h4)
      · have hnk : ¬ LZ tn pt lf k t0 := h3 k (by omega)
        rw [fewG, hq]
        refine (if_neg (fun h2 => hnk (ha.mp h2))).trans ?_
        refine (ih (k + 1) (by omega) (fun j hj => ?_)).1 n (by omega) h2 h3 h4
        exact h3 j (by omega)
    · have hnk : ¬ LZ tn pt lf k t0 := h k (by omega)
      rw [fewG, hq]
      refine (if_neg (fun h2 => hnk (ha.mp h2))).trans ?_
      exact (ih (k + 1) (by omega) (fun j hj => h j (by omega))).2 h
theorem lvl_le {d : Nat} {q : List Int64 × Nat} (h : lvl tn pt lf t0 d = some q) : ∀ k, k ≤ d → ∃ q, lvl tn pt lf t0 k = some q := by
  intro k hk
  cases e : lvl tn pt lf t0 k with
  | none => rw [lvl_none d k hk e] at h; cases h
  | some q => exact ⟨q, rfl⟩
/-- what an answer of so many moves says -/
theorem fewG_nI : ∀ rem k n, k + rem ≤ 100 → (∀ j, j < k → ¬ LZ tn pt lf j t0) → fewG tn pt lf t0 rem k = nI n → n ≤ 100 → (∃ q, lvl tn pt lf t0 n = some q) ∧ k ≤ n ∧ (∀ j, j < n → ¬ LZ tn pt lf j t0) ∧ LZ tn pt lf n t0 := by
  intro rem
  have n2 : ∀ n, n ≤ 100 → ¬ ((-2 : Int32) = nI n) := fun n hn e => by
    have e := e.symm
    rw [nI_neg2 (by omega)] at e
    exact e
  have n9 : ∀ n, n ≤ 100 → ¬ ((-9 : Int32) = nI n) := fun n hn e => by
    have := congrArg Int32.toInt e
    rw [nI_toInt (by omega)] at this
    have e2 : (-9 : Int32).toInt = -9 := by decide
    omega
  induction rem with
  | zero =>
    intro k n hkr hno h hn
    rw [fewG] at h
    cases hl : lvl tn pt lf t0 k with
    | none => rw [hl] at h; exact absurd h (n9 n hn)
    | some q =>
      obtain ⟨seen, fr⟩ := q
      rw [hl] at h
      replace h : (if (seen.drop fr).any (lsB tn) = true then nI k else -2) = nI n := h
      by_cases c : (seen.drop fr).any (lsB tn) = true
      · rw [if_pos c] at h
        have e : k = n := nI_inj h (by omega) (by omega)
        subst e
        exact ⟨⟨_, hl⟩, Nat.le_refl _, hno, (any_LZ hl hno).mp c⟩
      · rw [if_neg c] at h; exact absurd h (n2 n hn)
  | succ rem ih =>
    intro k n hkr hno h hn
    rw [fewG] at h
    cases hl : lvl tn pt lf t0 k with
    | none => rw [hl] at h; exact absurd h (n9 n hn)
    | some q =>
      obtain ⟨seen, fr⟩ := q
      rw [hl] at h
      replace h : (if (seen.drop fr).any (lsB tn) = true then nI k else fewG tn pt lf t0 rem (k + 1)) = nI n := h
      by_cases c : (seen.drop fr).any (lsB tn) = true
      · rw [if_pos c] at h
        have e : k = n := nI_inj h (by omega) (by omega)
        subst e
        exact ⟨⟨_, hl⟩, Nat.le_refl _, hno, (any_LZ hl hno).mp c⟩
      · rw [if_neg c] at h
        obtain ⟨a, b, c', d⟩ := ih (k + 1) n (by omega) (fun j hj => by
          by_cases e : j = k
          · rw [e]; exact fun h => c ((any_LZ hl hno).mpr h)
          · exact hno j (by omega)) h hn
        exact ⟨a, by omega, c', d⟩
end NEXT
