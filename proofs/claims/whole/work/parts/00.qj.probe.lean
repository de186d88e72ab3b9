theorem nI_and (a b : Nat) : nI a &&& nI b = nI (a &&& b) := by
  refine Int32.toBitVec_inj.mp ?_
  rw [Int32.toBitVec_and]
  show BitVec.ofNat 32 a &&& BitVec.ofNat 32 b = BitVec.ofNat 32 (a &&& b)
  exact (BitVec.ofNat_and).symm
theorem nI_mask13 (a : Nat) : nI a &&& (8191 : Int32) = nI (a % 8192) := by
  rw [li_8191, nI_and]
  congr 1
  exact Nat.and_two_pow_sub_one_eq_mod a 13
theorem nI_mask14 (a : Nat) : nI a &&& (16383 : Int32) = nI (a % 16384) := by
  rw [li_16383, nI_and]
  congr 1
  exact Nat.and_two_pow_sub_one_eq_mod a 14
/-! a table in which the next free place is taken -/
def Lpr (N : Nat) (h : Int64 → Nat) (tb : Nat → Option Int64) (ks : List Int64) : Prop :=
  (∀ k, k ∈ ks → ∃ d, d < N ∧ tb ((h k + d) % N) = some k ∧ ∀ e, e < d → tb ((h k + e) % N) ≠ none) ∧
  (∀ s, s < N → ∀ k, tb s = some k → k ∈ ks) ∧ (∀ s s', s < N → s' < N → ∀ k, tb s = some k → tb s' = some k → s = s')
section PROBE
variable {N : Nat} {h : Int64 → Nat} {tb : Nat → Option Int64} {ks : List Int64}
theorem Lpr.empty (hN : ∀ s, s < N → tb s = none) : Lpr N h tb [] := ⟨fun k hk => (by cases hk), fun s hs k e => (by rw [hN s hs] at e; cases e), fun s s' hs _ k e _ => by rw [hN s hs] at e; cases e⟩
theorem Lpr.free (hL : Lpr N h tb ks) (hlen : ks.length < N) : ∃ s, s < N ∧ tb s = none := by
  apply Classical.byContradiction
  intro hn
  have hall : ∀ s, s < N → ∃ k, tb s = some k := fun s hs => by
    cases e : tb s with
    | none => exact absurd ⟨s, hs, e⟩ hn
    | some k => exact ⟨k, rfl⟩
  have hnd : ((List.range N).map (fun s => (tb s).getD 0)).Nodup := by
    refine (List.pairwise_map).mpr ((List.nodup_range (n := N)).imp_of_mem (fun {a b} ha hb hab e => ?_))
    obtain ⟨k, ek⟩ := hall a (List.mem_range.mp ha)
    obtain ⟨k', ek'⟩ := hall b (List.mem_range.mp hb)
    rw [ek, ek'] at e
    have e : k = k' := e
    subst e
    exact hab (hL.2.2 a b (List.mem_range.mp ha) (List.mem_range.mp hb) k ek ek')
  have hsub : ((List.range N).map (fun s => (tb s).getD 0)) ⊆ ks := by
    intro x hx
    obtain ⟨s, hs, rfl⟩ := List.mem_map.mp hx
    obtain ⟨k, ek⟩ := hall s (List.mem_range.mp hs)
    have := hL.2.1 s (List.mem_range.mp hs) k ek
    simp only [ek, Option.getD_some]
    exact this
  have := hnd.length_le_of_subset hsub
  rw [List.length_map, List.length_range] at this
  omega
theorem least {P : Nat → Prop} : ∀ n, P n → ∃ d, d ≤ n ∧ P d ∧ ∀ e, e < d → ¬ P e := by
  intro n
  induction n using Nat.strongRecOn with
  | ind n ih =>
    intro hp
    by_cases c : ∃ e, e < n ∧ P e
    · obtain ⟨e, h1, h2⟩ := c
      obtain ⟨d, h3, h4, h5⟩ := ih e h1 h2
      exact ⟨d, by omega, h4, h5⟩
    · exact ⟨n, Nat.le_refl _, hp, fun e he hpe => c ⟨e, he, hpe⟩⟩
theorem Lpr.probe (hL : Lpr N h tb ks) (hlen : ks.length < N) (k : Int64) (hk : h k < N) : ∃ d, d < N ∧ (∀ e, e < d → ∃ k', tb ((h k + e) % N) = some k' ∧ k' ≠ k) ∧ ((tb ((h k + d) % N) = some k ∧ k ∈ ks) ∨ (tb ((h k + d) % N) = none ∧ k ∉ ks)) := by
  obtain ⟨s, hs, es⟩ := hL.free hlen
  have hd0 : ∃ d, d < N ∧ (h k + d) % N = s := by
    by_cases c : h k ≤ s
    · exact ⟨s - h k, by omega, by rw [show h k + (s - h k) = s by omega]; exact Nat.mod_eq_of_lt hs⟩
    · refine ⟨s + N - h k, by omega, ?_⟩
      rw [show h k + (s + N - h k) = s + N by omega, Nat.add_mod_right]
      exact Nat.mod_eq_of_lt hs
  obtain ⟨d0, hd1, hd2⟩ := hd0
  obtain ⟨d, h1, h2, h3⟩ := least (P := fun d => tb ((h k + d) % N) = none ∨ tb ((h k + d) % N) = some k) d0 (Or.inl (by rw [hd2]; exact es))
  have hpath : ∀ e, e < d → ∃ k', tb ((h k + e) % N) = some k' ∧ k' ≠ k := fun e he => by
    have := h3 e he
    cases c : tb ((h k + e) % N) with
    | none => exact absurd (Or.inl c) this
    | some k' => exact ⟨k', rfl, fun e2 => this (Or.inr (by rw [c, e2]))⟩
  refine ⟨d, by omega, hpath, ?_⟩
  rcases h2 with h2 | h2
  · refine Or.inr ⟨h2, fun hmem => ?_⟩
    obtain ⟨d', q1, q2, q3⟩ := hL.1 k hmem
    rcases Nat.lt_trichotomy d d' with c | c | c
    · exact q3 d c h2
    · rw [c, q2] at h2; cases h2
    · obtain ⟨k', e1, e2⟩ := hpath d' c
      rw [q2] at e1
      cases e1
      exact e2 rfl
  · exact Or.inl ⟨h2, hL.2.1 _ (Nat.mod_lt _ (by omega)) k h2⟩
theorem Lpr.insert (hL : Lpr N h tb ks) {k : Int64} {d : Nat} (hN : 0 < N) (hd : d < N) (hpath : ∀ e, e < d → ∃ k', tb ((h k + e) % N) = some k' ∧ k' ≠ k) (hnone : tb ((h k + d) % N) = none) (hk : k ∉ ks) {tb' : Nat → Option Int64} (ht : ∀ s, s < N → tb' s = if s = (h k + d) % N then some k else tb s) : Lpr N h tb' (ks ++ [k]) := by
  have hm : ∀ x, x % N < N := fun x => Nat.mod_lt _ hN
  refine ⟨fun j hj => ?_, fun s hs j e => ?_, fun s s' hs hs' j e e' => ?_⟩
  · rcases List.mem_append.mp hj with h1 | h1
    · obtain ⟨d', q1, q2, q3⟩ := hL.1 j h1
      refine ⟨d', q1, ?_, fun e he => ?_⟩
      · rw [ht _ (hm _), if_neg (fun e => by rw [e, hnone] at q2; cases q2)]; exact q2
      · rw [ht _ (hm _)]
        by_cases c : (h j + e) % N = (h k + d) % N
        · rw [if_pos c]; exact fun e => by cases e
        · rw [if_neg c]; exact q3 e he
    · rw [List.mem_singleton.mp h1]
      refine ⟨d, hd, by rw [ht _ (hm _), if_pos rfl], fun e he => ?_⟩
      rw [ht _ (hm _)]
      by_cases c : (h k + e) % N = (h k + d) % N
      · rw [if_pos c]; exact fun e => by cases e
      · rw [if_neg c]
        obtain ⟨k', e1, _⟩ := hpath e he
        rw [e1]; exact fun e => by cases e
  · rw [ht s hs] at e
    by_cases c : s = (h k + d) % N
    · rw [if_pos c] at e
      cases e
      simp
    · rw [if_neg c] at e
      exact List.mem_append_left _ (hL.2.1 s hs j e)
  · rw [ht s hs] at e
    rw [ht s' hs'] at e'
    by_cases c : s = (h k + d) % N
    · rw [if_pos c] at e
      cases e
      by_cases c' : s' = (h k + d) % N
      · rw [c, c']
      · rw [if_neg c'] at e'
        exact absurd (hL.2.1 s' hs' k e') hk
    · rw [if_neg c] at e
      by_cases c' : s' = (h k + d) % N
      · rw [if_pos c'] at e'
        cases e'
        exact absurd (hL.2.1 s hs k e) hk
      · rw [if_neg c'] at e'
        exact hL.2.2 s s' hs hs' j e e'
end PROBE
theorem hash_e {x : Int64} {b n : Nat} (hb : b < 64) (h32 : 33 ≤ b) (hn : ((Int32.toInt64 (nI b)).toUInt64 &&& Int64.toUInt64 63).toBitVec % 64 = BitVec.ofNat 64 b) (hv : n = 2 ^ (64 - b)) : ∃ k, k < n ∧ Int64.toInt32 ((Int64.toUInt64 x >>> ((Int32.toInt64 (nI b)).toUInt64 &&& Int64.toUInt64 63)).toInt64) = nI k := by
  have e : ((Int64.toUInt64 x >>> ((Int32.toInt64 (nI b)).toUInt64 &&& Int64.toUInt64 63)).toInt64).toBitVec = x.toBitVec >>> b := by
    show (Int64.toUInt64 x >>> ((Int32.toInt64 (nI b)).toUInt64 &&& Int64.toUInt64 63)).toBitVec = _
    rw [UInt64.toBitVec_shiftRight, hn, BitVec.ushiftRight_eq', BitVec.toNat_ofNat, Nat.mod_eq_of_lt (by omega)]
    rfl
  have hlt : (x.toBitVec >>> b).toNat < 2 ^ (64 - b) := by
    rw [BitVec.toNat_ushiftRight, Nat.shiftRight_eq_div_pow]
    refine Nat.div_lt_of_lt_mul ?_
    rw [← Nat.pow_add, show b + (64 - b) = 64 by omega]
    exact x.toBitVec.isLt
  have h31 : 2 ^ (64 - b) ≤ 2 ^ 31 := Nat.pow_le_pow_right (by decide) (by omega)
  refine ⟨(x.toBitVec >>> b).toNat, by rw [hv]; exact hlt, i32_of ?_⟩
  rw [e, BitVec.signExtend_eq_setWidth_of_le _ (by decide), BitVec.toNat_setWidth]
  exact Nat.mod_eq_of_lt (by omega)
