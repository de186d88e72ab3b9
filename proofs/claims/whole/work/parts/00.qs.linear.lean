/-! sums, and rows of numbers mod p -/
def sm : Nat → (Nat → Nat) → Nat
  | 0, _ => 0
  | n + 1, f => sm n f + f n
theorem sm_congr {f g : Nat → Nat} : ∀ n, (∀ i, i < n → f i = g i) → sm n f = sm n g := by
  intro n
  induction n with
  | zero => intro _; rfl
  | succ n ih => intro h; rw [sm, sm, ih (fun i hi => h i (by omega)), h n (by omega)]
theorem sm_add {f g : Nat → Nat} : ∀ n, sm n (fun i => f i + g i) = sm n f + sm n g := by
  intro n
  induction n with
  | zero => rfl
  | succ n ih => rw [sm, sm, sm, ih]; omega
theorem sm_mul {f : Nat → Nat} (c : Nat) : ∀ n, sm n (fun i => c * f i) = c * sm n f := by
  intro n
  induction n with
  | zero => rfl
  | succ n ih => rw [sm, sm, ih, Nat.mul_add]
theorem sm_zero : ∀ n, sm n (fun _ => 0) = 0 := by
  intro n
  induction n with
  | zero => rfl
  | succ n ih => rw [sm, ih]
theorem sm_mod {p : Nat} {f g : Nat → Nat} : ∀ n, (∀ i, i < n → f i % p = g i % p) → sm n f % p = sm n g % p := by
  intro n
  induction n with
  | zero => intro _; rfl
  | succ n ih => intro h; rw [sm, sm, Nat.add_mod, ih (fun i hi => h i (by omega)), h n (by omega), ← Nat.add_mod]
def skp (j0 j : Nat) : Nat := if j < j0 then j else j + 1
theorem sm_skip {f : Nat → Nat} {j0 : Nat} : ∀ k, j0 ≤ k → sm (k + 1) f = f j0 + sm k (fun j => f (skp j0 j)) := by
  intro k
  induction k with
  | zero => intro h; rw [show j0 = 0 by omega]; simp [sm]
  | succ k ih =>
    intro h
    by_cases e : j0 = k + 1
    · subst e
      rw [sm]
      have : sm (k + 1) f = sm (k + 1) (fun j => f (skp (k + 1) j)) := sm_congr _ (fun i hi => by unfold skp; rw [if_pos hi])
      omega
    · rw [sm, ih (by omega)]
      show _ = f j0 + (sm k (fun j => f (skp j0 j)) + f (skp j0 k))
      have : skp j0 k = k + 1 := by unfold skp; rw [if_neg (by omega)]
      rw [this]
      omega
/-- only at one place other than 0 -/
theorem sm_one {p : Nat} {f : Nat → Nat} {j0 n : Nat} (h0 : j0 < n) (h : ∀ j, j < n → j ≠ j0 → f j % p = 0) : sm n f % p = f j0 % p := by
  cases n with
  | zero => omega
  | succ n =>
    rw [sm_skip (j0 := j0) n (by omega)]
    have : sm n (fun j => f (skp j0 j)) % p = sm n (fun _ => 0) % p := sm_mod n (fun i hi => by
      have hs : skp j0 i < n + 1 ∧ skp j0 i ≠ j0 := by unfold skp; split <;> omega
      rw [h _ hs.1 hs.2]; simp)
    rw [Nat.add_mod, this, sm_zero]
    simp
def PR (p : Nat) : Prop := 1 < p ∧ ∀ a b : Nat, (a * b) % p = 0 → a % p = 0 ∨ b % p = 0
theorem PR_of {p : Nat} (h1 : 1 < p) (h : ∀ a, a < p → ∀ b, b < p → (a * b) % p = 0 → a = 0 ∨ b = 0) : PR p := by
  refine ⟨h1, fun a b e => ?_⟩
  rw [Nat.mul_mod] at e
  exact h _ (Nat.mod_lt _ (by omega)) _ (Nat.mod_lt _ (by omega)) e
theorem PR_3 : PR 3 := PR_of (by decide) (by decide)
theorem PR_5 : PR 5 := PR_of (by decide) (by decide)
theorem PR_7 : PR 7 := PR_of (by decide) (by decide)
/-- more numbers than equations: one of them can be other than 0 -/
theorem homog {p : Nat} (hp : PR p) : ∀ (m k : Nat) (A : Nat → Nat → Nat), m < k → ∃ w : Nat → Nat, (∃ j, j < k ∧ w j % p ≠ 0) ∧ ∀ i, i < m → sm k (fun j => A i j * w j) % p = 0 := by
  intro m
  induction m with
  | zero =>
    intro k A hk
    exact ⟨fun _ => 1, ⟨0, hk, by rw [Nat.mod_eq_of_lt hp.1]; decide⟩, fun i hi => by omega⟩
  | succ m ih =>
    intro k A hk
    by_cases hz : ∀ j, j < k → A m j % p = 0
    · obtain ⟨w, h1, h2⟩ := ih k A (by omega)
      refine ⟨w, h1, fun i hi => ?_⟩
      by_cases e : i = m
      · rw [e]
        have : sm k (fun j => A m j * w j) % p = sm k (fun _ => 0) % p := sm_mod k (fun j hj => by rw [Nat.mul_mod, hz j hj]; simp)
        rw [this, sm_zero]; simp
      · exact h2 i (by omega)
    · obtain ⟨j0, hj0, hne⟩ : ∃ j0, j0 < k ∧ A m j0 % p ≠ 0 := by
        apply Classical.byContradiction
        intro hn
        exact hz (fun j hj => Classical.byContradiction (fun h => hn ⟨j, hj, h⟩))
      obtain ⟨k', rfl⟩ : ∃ k', k = k' + 1 := ⟨k - 1, by omega⟩
      obtain ⟨w, ⟨j1, hj1, hw1⟩, h2⟩ := ih k' (fun i j => A i (skp j0 j) * A m j0 + (p - 1) * A i j0 * A m (skp j0 j)) (by omega)
      have unsk : ∀ x, x < k' + 1 → x ≠ j0 → ∃ j, j < k' ∧ skp j0 j = x := fun x hx hne => by
        by_cases c : x < j0
        · exact ⟨x, by omega, by unfold skp; rw [if_pos c]⟩
        · exact ⟨x - 1, by omega, by unfold skp; rw [if_neg (by omega)]; omega⟩
      let S := sm k' (fun j => A m (skp j0 j) * w j)
      let w' : Nat → Nat := fun x => if x = j0 then (p - 1) * S else w (if x < j0 then x else x - 1) * A m j0
      have w's : ∀ j, w' (skp j0 j) = w j * A m j0 := fun j => by
        show (if skp j0 j = j0 then _ else w (if skp j0 j < j0 then skp j0 j else skp j0 j - 1) * A m j0) = _
        unfold skp
        by_cases c : j < j0
        · rw [if_pos c, if_neg (by omega), if_pos c]
        · rw [if_neg c, if_neg (by omega), if_neg (by omega)]
          simp
      have w'0 : w' j0 = (p - 1) * S := if_pos rfl
      have hp1 := hp.1
      have key : ∀ i, sm (k' + 1) (fun j => A i j * w' j) = A i j0 * ((p - 1) * S) + sm k' (fun j => A i (skp j0 j) * (w j * A m j0)) := fun i => by
        rw [sm_skip (j0 := j0) k' (by omega), w'0]
        congr 1
        exact sm_congr k' (fun j _ => by rw [w's])
      refine ⟨w', ⟨skp j0 j1, by unfold skp; split <;> omega, ?_⟩, fun i hi => ?_⟩
      · rw [w's]
        intro e
        rcases hp.2 _ _ e with e | e
        · exact hw1 e
        · exact hne e
      · rw [key]
        by_cases e : i = m
        · rw [e]
          have e2 : sm k' (fun j => A m (skp j0 j) * (w j * A m j0)) = A m j0 * S := by
            rw [← sm_mul]
            refine sm_congr k' (fun j _ => ?_)
            rw [← Nat.mul_assoc, Nat.mul_comm]
          rw [e2, ← Nat.mul_add]
          have e3 : (p - 1) * S + S = p * S := by
            rw [← Nat.succ_mul]
            congr 1
            omega
          rw [e3, Nat.mul_left_comm]
          exact Nat.mul_mod_right p _
        · have h3 := h2 i (by omega)
          have e2 : A i j0 * ((p - 1) * S) + sm k' (fun j => A i (skp j0 j) * (w j * A m j0)) = sm k' (fun j => (A i (skp j0 j) * A m j0 + (p - 1) * A i j0 * A m (skp j0 j)) * w j) := by
            have e3 : A i j0 * ((p - 1) * S) = sm k' (fun j => ((p - 1) * A i j0 * A m (skp j0 j)) * w j) := by
              show A i j0 * ((p - 1) * sm k' (fun j => A m (skp j0 j) * w j)) = _
              rw [← Nat.mul_assoc, ← sm_mul]
              refine sm_congr k' (fun j _ => ?_)
              rw [Nat.mul_comm (A i j0), Nat.mul_assoc _ _ (w j)]
            rw [e3, ← sm_add]
            refine sm_congr k' (fun j _ => ?_)
            rw [Nat.add_mul, Nat.add_comm]
            congr 1
            rw [Nat.mul_assoc, Nat.mul_comm (w j)]
          rw [e2]
          exact h3
/-- steps: pivots, and nothing below them, nor in the rows behind -/
def ECH (p m n r : Nat) (E : Nat → Nat → Nat) (pc : Nat → Nat) : Prop :=
  r ≤ m ∧ (∀ i, i < r → pc i < n ∧ E i (pc i) % p ≠ 0 ∧ ∀ k, i < k → k < m → E k (pc i) % p = 0) ∧ (∀ i, r ≤ i → i < m → ∀ c, c < n → E i c % p = 0)
def KER (p m n : Nat) (E : Nat → Nat → Nat) (v : Nat → Nat) : Prop := ∀ i, i < m → sm n (fun c => E i c * v c) % p = 0
/-- a sum over places that are named once -/
theorem sm_pick {p n : Nat} {g : Nat → Nat} {f : Nat → Nat} : ∀ r (pc : Nat → Nat), (∀ i, i < r → pc i < n) → (∀ i k, i < r → k < r → pc i = pc k → i = k) → (∀ c, c < n → (∀ i, i < r → pc i ≠ c) → f c % p = 0) → (∀ i, i < r → f (pc i) % p = g i % p) → sm n f % p = sm r g % p := by
  intro r
  induction r generalizing f with
  | zero =>
    intro pc _ _ h _
    have : sm n f % p = sm n (fun _ => 0) % p := sm_mod n (fun c hc => by rw [h c hc (fun i hi => by omega)]; simp)
    rw [this, sm_zero]; rfl
  | succ r ih =>
    intro pc h1 h2 h3 h4
    have hr := h1 r (by omega)
    -- f without the last place
    have e1 : sm n f = sm n (fun c => if c = pc r then 0 else f c) + f (pc r) := by
      cases n with
      | zero => omega
      | succ n =>
        rw [sm_skip n (show pc r ≤ n by omega), sm_skip (f := fun c => if c = pc r then 0 else f c) n (show pc r ≤ n by omega)]
        have : sm n (fun j => f (skp (pc r) j)) = sm n (fun j => if skp (pc r) j = pc r then 0 else f (skp (pc r) j)) := sm_congr n (fun j _ => by
          have : skp (pc r) j ≠ pc r := by unfold skp; split <;> omega
          rw [if_neg this])
        simp only [if_pos]
        omega
    rw [e1, sm, Nat.add_mod, ih (f := fun c => if c = pc r then 0 else f c) pc (fun i hi => h1 i (by omega)) (fun i k hi hk => h2 i k (by omega) (by omega)) (fun c hc hn => ?_) (fun i hi => ?_), h4 r (by omega), ← Nat.add_mod]
    · by_cases e : c = pc r
      · simp [e]
      · simp only [if_neg e]
        refine h3 c hc (fun i hi => ?_)
        by_cases e2 : i = r
        · rw [e2]; exact fun h => e h.symm
        · exact hn i (by omega)
    · have : pc i ≠ pc r := fun e => by have := h2 i r (by omega) (by omega) e; omega
      simp only [if_neg this]
      exact h4 i (by omega)
theorem sm_diag {p r i0 : Nat} {g : Nat → Nat} (h0 : i0 < r) (h : ∀ i, i < r → i ≠ i0 → g i % p = 0) : sm r g % p = g i0 % p := sm_one h0 h
theorem ECH.inj {p m n r : Nat} {E : Nat → Nat → Nat} {pc : Nat → Nat} (h : ECH p m n r E pc) {i k : Nat} (hi : i < r) (hk : k < r) (e : pc i = pc k) : i = k := by
  rcases Nat.lt_trichotomy i k with c | c | c
  · have := (h.2.1 i hi).2.2 k c (by have := h.1; omega)
    rw [e] at this
    exact absurd this (h.2.1 k hk).2.1
  · exact c
  · have := (h.2.1 k hk).2.2 i c (by have := h.1; omega)
    rw [← e] at this
    exact absurd this (h.2.1 i hi).2.1
/-- a kernel tells how many pivots there are at least -/
theorem rank_le {p m1 m2 n r1 r2 : Nat} {E1 E2 : Nat → Nat → Nat} {pc1 pc2 π : Nat → Nat} (hp : PR p) (h1 : ECH p m1 n r1 E1 pc1) (h2 : ECH p m2 n r2 E2 pc2) (hπ : ∀ c, c < n → π c < n) (hi : ∀ c d, c < n → d < n → π c = π d → c = d)
    (hK : ∀ v, KER p m1 n E1 v → KER p m2 n E2 (fun c => v (π c))) : r2 ≤ r1 := by
  apply Classical.byContradiction
  intro hlt
  obtain ⟨w, ⟨j, hj, hw⟩, hs⟩ := homog hp r1 r2 (fun i k => E1 i (π (pc2 k))) (by omega)
  have hpc : ∀ i, i < r2 → pc2 i < n := fun i h => (h2.2.1 i h).1
  -- the vector that has w at the second one's pivots
  let v : Nat → Nat := fun c => sm r2 (fun k => if π (pc2 k) = c then w k else 0)
  have hv : ∀ k, k < r2 → v (π (pc2 k)) = w k := fun k hk => by
    show sm r2 (fun i => if π (pc2 i) = π (pc2 k) then w i else 0) = w k
    have key : ∀ n', n' ≤ r2 → sm n' (fun i => if π (pc2 i) = π (pc2 k) then w i else 0) = if k < n' then w k else 0 := by
      intro n'
      induction n' with
      | zero => intro _; rfl
      | succ n' ih =>
        intro hn
        rw [sm, ih (by omega)]
        by_cases e : n' = k
        · subst e; simp
        · have : π (pc2 n') ≠ π (pc2 k) := fun h => e (h2.inj (by omega) hk (hi _ _ (hpc _ (by omega)) (hpc _ hk) h))
          rw [if_neg this]
          by_cases c : k < n'
          · rw [if_pos c, if_pos (by omega)]; rfl
          · rw [if_neg c, if_neg (by omega)]
    rw [key r2 (Nat.le_refl _), if_pos hk]
  have hv0 : ∀ c, (∀ k, k < r2 → π (pc2 k) ≠ c) → v c = 0 := fun c h => by
    show sm r2 (fun i => if π (pc2 i) = c then w i else 0) = 0
    exact (sm_congr (g := fun _ => 0) r2 (fun i hi => if_neg (h i hi))).trans (sm_zero r2)
  have hk1 : KER p m1 n E1 v := by
    intro i him
    by_cases c : i < r1
    · rw [sm_pick (g := fun k => E1 i (π (pc2 k)) * w k) r2 (fun k => π (pc2 k)) (fun k hk => hπ _ (hpc k hk)) (fun a b ha hb e => h2.inj ha hb (hi _ _ (hpc a ha) (hpc b hb) e)) (fun c hc hn => by rw [hv0 c hn]; simp) (fun k hk => by rw [hv k hk])]
      exact hs i c
    · have : sm n (fun c => E1 i c * v c) % p = sm n (fun _ => 0) % p := sm_mod n (fun c hc => by rw [Nat.mul_mod, h1.2.2 i (by omega) him c hc]; simp)
      rw [this, sm_zero]; simp
  have hk2 := hK v hk1
  -- the last place that isn't 0
  have hlast : ∃ i, i < r2 ∧ w i % p ≠ 0 ∧ ∀ k, i < k → k < r2 → w k % p = 0 := by
    have : ∀ d, d ≤ r2 → (∀ k, r2 - d ≤ k → k < r2 → w k % p = 0) ∨ ∃ i, i < r2 ∧ w i % p ≠ 0 ∧ ∀ k, i < k → k < r2 → w k % p = 0 := by
      intro d
      induction d with
      | zero => intro _; exact Or.inl (fun k h1 h2 => by omega)
      | succ d ih =>
        intro hd
        rcases ih (by omega) with h | h
        · by_cases c : w (r2 - (d + 1)) % p = 0
          · refine Or.inl (fun k h1 h2 => ?_)
            by_cases e : k = r2 - (d + 1)
            · rw [e]; exact c
            · exact h k (by omega) h2
          · exact Or.inr ⟨r2 - (d + 1), by omega, c, fun k h1 h2 => h k (by omega) h2⟩
        · exact Or.inr h
    rcases this r2 (Nat.le_refl _) with h | h
    · exact absurd (h j (by omega) hj) hw
    · exact h
  obtain ⟨i, hir, hwi, hgt⟩ := hlast
  have h3 := hk2 i (by have := h2.1; omega)
  rw [sm_pick (g := fun k => E2 i (pc2 k) * w k) r2 pc2 hpc (fun a b ha hb e => h2.inj ha hb e) (fun c hc hn => ?_) (fun k hk => by show E2 i (pc2 k) * v (π (pc2 k)) % p = _; rw [hv k hk]), sm_diag hir (fun k hk hne => ?_)] at h3
  · rcases hp.2 _ _ h3 with h | h
    · exact (h2.2.1 i hir).2.1 h
    · exact hwi h
  · by_cases c : i < k
    · rw [Nat.mul_mod, hgt k c hk]; simp
    · rw [Nat.mul_mod, (h2.2.1 k hk).2.2 i (by omega) (by have := h2.1; omega)]; simp
  · have : v (π c) = 0 := hv0 _ (fun k hk e => hn k hk (hi _ _ (hpc k hk) hc e))
    show E2 i c * v (π c) % p = 0
    rw [this]; simp
