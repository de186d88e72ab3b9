/-! how rows are cleared, whatever the way -/
def PRG (p m n r c : Nat) (E0 E : Nat → Nat → Nat) (pc : Nat → Nat) : Prop :=
  r ≤ m ∧ (∀ i, i < r → pc i < c ∧ E i (pc i) % p ≠ 0 ∧ ∀ k, i < k → k < m → E k (pc i) % p = 0) ∧ (∀ i, r ≤ i → i < m → ∀ d, d < c → E i d % p = 0) ∧ (∀ v, KER p m n E v ↔ KER p m n E0 v)
section ELIM
variable {p m n r c : Nat} {E0 E E' : Nat → Nat → Nat} {pc : Nat → Nat}
theorem PRG.start : PRG p m n 0 0 E E pc := ⟨by omega, fun i h => by omega, fun i _ _ d h => by omega, fun v => Iff.rfl⟩
theorem PRG.none (h : PRG p m n r c E0 E pc) (hz : ∀ i, r ≤ i → i < m → E i c % p = 0) : PRG p m n r (c + 1) E0 E pc := by
  refine ⟨h.1, fun i hi => ⟨by have := (h.2.1 i hi).1; omega, (h.2.1 i hi).2⟩, fun i h1 h2 d hd => ?_, h.2.2.2⟩
  by_cases e : d = c
  · rw [e]; exact hz i h1 h2
  · exact h.2.2.1 i h1 h2 d (by omega)
def swp (r j i : Nat) : Nat := if i = r then j else if i = j then r else i
theorem KER_perm {σ : Nat → Nat} (h1 : ∀ i, i < m → σ i < m) (h2 : ∀ i, i < m → σ (σ i) = i) (hE : ∀ i, i < m → ∀ d, d < n → E' i d % p = E (σ i) d % p) (v : Nat → Nat) : KER p m n E' v ↔ KER p m n E v := by
  have key : ∀ i, i < m → sm n (fun d => E' i d * v d) % p = sm n (fun d => E (σ i) d * v d) % p := fun i hi => sm_mod n (fun d hd => by rw [Nat.mul_mod, hE i hi d hd, ← Nat.mul_mod])
  constructor
  · intro h i hi
    have := h (σ i) (h1 i hi)
    rw [key _ (h1 i hi), h2 i hi] at this
    exact this
  · intro h i hi
    rw [key i hi]
    exact h (σ i) (h1 i hi)
theorem PRG.swap (h : PRG p m n r c E0 E pc) (hc : c < n) {j : Nat} (hj : r ≤ j) (hjm : j < m) (hE : ∀ i, i < m → ∀ d, d < n → E' i d % p = E (swp r j i) d % p) : PRG p m n r c E0 E' pc := by
  have s1 : ∀ i, i < m → swp r j i < m := fun i hi => by unfold swp; split <;> (try split) <;> omega
  have s2 : ∀ i, i < m → swp r j (swp r j i) = i := fun i hi => by
    unfold swp
    by_cases e1 : i = r
    · rw [if_pos e1]
      by_cases e2 : j = r
      · rw [if_pos e2]; omega
      · rw [if_neg e2, if_pos rfl]; exact e1.symm
    · rw [if_neg e1]
      by_cases e2 : i = j
      · rw [if_pos e2, if_pos rfl]; exact e2.symm
      · rw [if_neg e2, if_neg e1, if_neg e2]
  have s3 : ∀ i, i < r → swp r j i = i := fun i hi => by unfold swp; rw [if_neg (by omega), if_neg (by omega)]
  have s4 : ∀ i, r ≤ i → i < m → r ≤ swp r j i := fun i h1 h2 => by unfold swp; split <;> (try split) <;> omega
  refine ⟨h.1, fun i hi => ?_, fun i h1 h2 d hd => ?_, fun v => (KER_perm s1 s2 hE v).trans (h.2.2.2 v)⟩
  · obtain ⟨q1, q2, q3⟩ := h.2.1 i hi
    have him : i < m := by have := h.1; omega
    refine ⟨q1, ?_, fun k hk hkm => ?_⟩
    · rw [hE i him _ (by omega), s3 i hi]; exact q2
    · rw [hE k hkm _ (by omega)]
      by_cases c2 : k < r
      · rw [s3 k c2]; exact q3 k hk hkm
      · exact q3 _ (by have := s4 k (by omega) hkm; omega) (s1 k hkm)
  · rw [hE i h2 d (by omega)]
    exact h.2.2.1 _ (s4 i h1 h2) (s1 i h2) d hd
/-- the rows behind the pivot's, cleared up to one -/
def CLR (p m n r c k : Nat) (E E' : Nat → Nat → Nat) : Prop :=
  (∀ i, i < m → (i ≤ r ∨ k ≤ i) → ∀ d, d < n → E' i d % p = E i d % p) ∧ (∀ i, r < i → i < k → i < m → ∃ α β, α % p ≠ 0 ∧ (∀ d, d < n → E' i d % p = (α * E i d + β * E r d) % p) ∧ E' i c % p = 0)
theorem CLR.start : CLR p m n r c (r + 1) E E := ⟨fun _ _ _ _ _ => rfl, fun i h1 h2 => by omega⟩
theorem PRG.clear (hp : PR p) (h : PRG p m n r c E0 E pc) (hc : c < n) (hr : r < m) (hpiv : E r c % p ≠ 0) (hC : CLR p m n r c m E E') : PRG p m n (r + 1) (c + 1) E0 E' (fun i => if i = r then c else pc i) := by
  have lo : ∀ i, i ≤ r → ∀ d, d < n → E' i d % p = E i d % p := fun i hi => hC.1 i (by omega) (Or.inl hi)
  have zer : ∀ i, r < i → i < m → ∀ d, d < n → E i d % p = 0 → E r d % p = 0 → E' i d % p = 0 := fun i h1 h2 d hd e1 e2 => by
    obtain ⟨α, β, _, q, _⟩ := hC.2 i h1 h2 h2
    rw [q d hd, Nat.add_mod, Nat.mul_mod, e1, Nat.mul_mod β, e2]
    simp
  refine ⟨by omega, fun i hi => ?_, fun i h1 h2 d hd => ?_, fun v => ?_⟩
  · by_cases e : i = r
    · simp only [e, if_pos]
      refine ⟨by omega, by rw [lo r (Nat.le_refl _) c hc]; exact hpiv, fun k h1 h2 => ?_⟩
      obtain ⟨_, _, _, _, q⟩ := hC.2 k h1 h2 h2
      exact q
    · simp only [if_neg e]
      obtain ⟨q1, q2, q3⟩ := h.2.1 i (by omega)
      refine ⟨by omega, by rw [lo i (by omega) _ (by omega)]; exact q2, fun k h1 h2 => ?_⟩
      by_cases c2 : k ≤ r
      · rw [lo k c2 _ (by omega)]; exact q3 k h1 h2
      · exact zer k (by omega) h2 _ (by omega) (q3 k h1 h2) (q3 r (by omega) hr)
  · by_cases e : d = c
    · rw [e]
      obtain ⟨_, _, _, _, q⟩ := hC.2 i (by omega) h2 h2
      exact q
    · exact zer i (by omega) h2 d (by omega) (h.2.2.1 i (by omega) h2 d (by omega)) (h.2.2.1 r (Nat.le_refl _) hr d (by omega))
  · rw [← h.2.2.2 v]
    have same : ∀ i, i ≤ r → sm n (fun d => E' i d * v d) % p = sm n (fun d => E i d * v d) % p := fun i hi => sm_mod n (fun d hd => by rw [Nat.mul_mod, lo i hi d hd, ← Nat.mul_mod])
    have comb : ∀ i, r < i → i < m → ∃ α β, α % p ≠ 0 ∧ sm n (fun d => E' i d * v d) % p = (α * sm n (fun d => E i d * v d) + β * sm n (fun d => E r d * v d)) % p := fun i h1 h2 => by
      obtain ⟨α, β, ha, q, _⟩ := hC.2 i h1 h2 h2
      refine ⟨α, β, ha, ?_⟩
      rw [← sm_mul, ← sm_mul, ← sm_add]
      refine sm_mod n (fun d hd => ?_)
      rw [Nat.mul_mod, q d hd, ← Nat.mul_mod]
      congr 1
      rw [Nat.add_mul, Nat.mul_assoc, Nat.mul_assoc]
    constructor
    · intro hk i hi
      by_cases c2 : i ≤ r
      · rw [← same i c2]; exact hk i hi
      · obtain ⟨α, β, ha, q⟩ := comb i (by omega) hi
        have h0 := hk i hi
        have hr0 : sm n (fun d => E r d * v d) % p = 0 := by rw [← same r (Nat.le_refl _)]; exact hk r hr
        rw [q, Nat.add_mod, Nat.mul_mod β, hr0, Nat.mul_zero, Nat.zero_mod, Nat.add_zero, Nat.mod_mod] at h0
        exact (hp.2 _ _ h0).resolve_left ha
    · intro hk i hi
      by_cases c2 : i ≤ r
      · rw [same i c2]; exact hk i hi
      · obtain ⟨α, β, _, q⟩ := comb i (by omega) hi
        rw [q, Nat.add_mod, Nat.mul_mod, hk i hi, Nat.mul_mod β, hk r hr]
        simp
theorem PRG.fin (h : PRG p m n r n E0 E pc) : ECH p m n r E pc := ⟨h.1, h.2.1, h.2.2.1⟩
end ELIM
/-- a row of the colours' equations -/
def rowE (p A B C c : Nat) : Nat := ((if c = A then 2 else 0) + (if c = B then p - 1 else 0) + (if c = C then p - 1 else 0)) % p
theorem floorMod_s : ∀ p, p = 3 ∨ p = 5 ∨ p = 7 → ∀ u, u < 37 → ∀ w, w < 37 → f_J9_floorMod_7cf53 (nI u - nI w) (nI p) = some (nI ((u + (p - 1) * w) % p)) := by
  rintro p (rfl | rfl | rfl)
  · decide +kernel
  · decide +kernel
  · decide +kernel
theorem floorMod_0 {p u : Nat} (hp : p = 3 ∨ p = 5 ∨ p = 7) (hu : u < 37) : f_J9_floorMod_7cf53 (nI u) (nI p) = some (nI (u % p)) := by
  have h := floorMod_s p hp u hu 0 (by decide)
  have e : nI u - nI 0 = nI u := Int32.sub_zero _
  rw [e, Nat.mul_zero, Nat.add_zero] at h
  exact h
theorem turned_s : ∀ p, p = 3 ∨ p = 5 ∨ p = 7 → ∀ v, v < p → v ≠ 0 → ∃ u, u < p ∧ f_X13_turned (nI v) (nI p) = some (nI u) ∧ (u * v) % p = 1 := by
  rintro p (rfl | rfl | rfl) v hv h0
  · have : v = 1 ∨ v = 2 := by omega
    rcases this with rfl | rfl
    · exact ⟨1, by decide, by decide +kernel, by decide⟩
    · exact ⟨2, by decide, by decide +kernel, by decide⟩
  · have : v = 1 ∨ v = 2 ∨ v = 3 ∨ v = 4 := by omega
    rcases this with rfl | rfl | rfl | rfl
    · exact ⟨1, by decide, by decide +kernel, by decide⟩
    · exact ⟨3, by decide, by decide +kernel, by decide⟩
    · exact ⟨2, by decide, by decide +kernel, by decide⟩
    · exact ⟨4, by decide, by decide +kernel, by decide⟩
  · have : v = 1 ∨ v = 2 ∨ v = 3 ∨ v = 4 ∨ v = 5 ∨ v = 6 := by omega
    rcases this with rfl | rfl | rfl | rfl | rfl | rfl
    · exact ⟨1, by decide, by decide +kernel, by decide⟩
    · exact ⟨4, by decide, by decide +kernel, by decide⟩
    · exact ⟨5, by decide, by decide +kernel, by decide⟩
    · exact ⟨2, by decide, by decide +kernel, by decide⟩
    · exact ⟨3, by decide, by decide +kernel, by decide⟩
    · exact ⟨6, by decide, by decide +kernel, by decide⟩
theorem PR_p {p : Nat} (hp : p = 3 ∨ p = 5 ∨ p = 7) : PR p := by
  rcases hp with rfl | rfl | rfl
  · exact PR_3
  · exact PR_5
  · exact PR_7
