/-! all standings of the links gone along so far: (hand, ring, row) as they were come to -/
def alo (to : ToS) (h : Nat) : Bool := decide (hxv to (hlv to h) = h)
def sT (to : ToS) (h : Nat) : List (Nat × Nat) := (stL to (hlv to h) (alo to h) 1).map (fun v => (hlv to h, v))
def wL (to : ToS) (T : List (Nat × Nat × Nat)) : List (Nat × Nat) := T.flatMap (fun t => sT to t.1)
section ALLS
variable {to : ToS} {rd : TnS} {P L X : Nat} {T : List (Nat × Nat × Nat)}
theorem pv_inj (hT : TB to rd P L X) {l q l' q' v : Nat} (hl : l < 8) (hq : q < 10) (hl' : l' < 8) (hq' : q' < 10) (h : pv to l q = some v) (h' : pv to l' q' = some v) : l = l' ∧ q = q' := by
  have hv := (pv_lt hT hl hq h).1
  by_cases c : v % 2 = 0
  · have e : v = 2 * (v / 2) := by omega
    have a := (pv_u hT hl hq (x := v / 2) (by omega)).mpr (by rw [h]; congr 1)
    have a' := (pv_u hT hl' hq' (x := v / 2) (by omega)).mpr (by rw [h']; congr 1)
    exact ⟨nI_inj (a.1.symm.trans a'.1) (by omega) (by omega), nI_inj (a.2.symm.trans a'.2) (by omega) (by omega)⟩
  · have e : v = 2 * (v / 2) + 1 := by omega
    have a := (pv_o hT hl hq (x := v / 2) (by omega)).mpr (by rw [h]; congr 1)
    have a' := (pv_o hT hl' hq' (x := v / 2) (by omega)).mpr (by rw [h']; congr 1)
    exact ⟨nI_inj (a.1.symm.trans a'.1) (by omega) (by omega), nI_inj (a.2.symm.trans a'.2) (by omega) (by omega)⟩
theorem mem_stL {l v : Nat} {al : Bool} : v ∈ stL to l al 1 ↔ ∃ q, 1 ≤ q ∧ q ≤ 9 ∧ pv to l q = some v := by
  unfold stL
  rw [List.mem_filterMap]
  constructor
  · rintro ⟨k, hk, e⟩
    rw [List.mem_range'_1] at hk
    refine ⟨plc al k, ?_, ?_, e⟩
    · unfold plc; split <;> omega
    · unfold plc; split <;> omega
  · rintro ⟨q, h1, h2, e⟩
    refine ⟨plc al q, ?_, ?_⟩
    · rw [List.mem_range'_1]
      unfold plc; split <;> omega
    · have : plc al (plc al q) = q := by unfold plc; repeat' split
                                         all_goals omega
      rw [this]; exact e
theorem stL_nd (hT : TB to rd P L X) {l : Nat} (hl : l < 8) {al : Bool} : (stL to l al 1).Nodup := by
  unfold stL
  refine List.Pairwise.filterMap (R := fun a b => 1 ≤ a ∧ a < b ∧ b ≤ 9) _ ?_ ?_
  · intro a a' hr b hb b' hb' e
    subst e
    have h1 : plc al a < 10 := by unfold plc; split <;> omega
    have h2 : plc al a' < 10 := by unfold plc; split <;> omega
    have := (pv_inj hT hl h1 hl h2 hb hb').2
    unfold plc at this
    split at this <;> omega
  · have hp : (List.range' 1 9).Pairwise (fun a b => a < b) := List.pairwise_lt_range'
    refine List.Pairwise.imp_of_mem ?_ hp
    intro a b ha hb hab
    rw [List.mem_range'_1] at ha hb
    omega
/-- the links gone along are others each time -/
def LD' (to : ToS) (T : List (Nat × Nat × Nat)) : Prop := ∀ (i j : Nat) (s t : Nat × Nat × Nat), T[i]? = some s → T[j]? = some t → hlv to s.1 = hlv to t.1 → i = j
theorem mem_wL {l v : Nat} : (l, v) ∈ wL to T ↔ ∃ t, t ∈ T ∧ hlv to t.1 = l ∧ ∃ q, 1 ≤ q ∧ q ≤ 9 ∧ pv to l q = some v := by
  unfold wL sT
  rw [List.mem_flatMap]
  constructor
  · rintro ⟨t, ht, h⟩
    rw [List.mem_map] at h
    obtain ⟨v', h1, h2⟩ := h
    cases h2
    exact ⟨t, ht, rfl, mem_stL.mp h1⟩
  · rintro ⟨t, ht, rfl, h⟩
    exact ⟨t, ht, List.mem_map.mpr ⟨v, mem_stL.mpr h, rfl⟩⟩
theorem wL_nd (hT : TB to rd P L X) : ∀ T : List (Nat × Nat × Nat), (∀ t, t ∈ T → hlv to t.1 < 8) → (T.map (fun t => hlv to t.1)).Nodup → ((wL to T).map Prod.snd).Nodup := by
  intro T
  induction T with
  | nil => intro _ _; exact List.nodup_nil
  | cons t T ih =>
    intro h8 hnd
    rw [List.map_cons, List.nodup_cons] at hnd
    have ht := h8 t (List.mem_cons_self)
    have e1 : wL to (t :: T) = sT to t.1 ++ wL to T := rfl
    rw [e1, List.map_append, List.nodup_append]
    refine ⟨?_, ih (fun s hs => h8 s (List.mem_cons_of_mem _ hs)) hnd.2, ?_⟩
    · unfold sT
      rw [List.map_map]
      have : (Prod.snd ∘ fun v => (hlv to t.1, v)) = (id : Nat → Nat) := rfl
      rw [this, List.map_id]
      exact stL_nd hT ht
    · intro a ha b hb e
      subst e
      rw [List.mem_map] at ha hb
      obtain ⟨⟨l1, v1⟩, a1, rfl⟩ := ha
      obtain ⟨⟨l2, v2⟩, b1, b2⟩ := hb
      have b2 : v2 = v1 := b2
      subst b2
      unfold sT at a1
      rw [List.mem_map] at a1
      obtain ⟨v', a2, a3⟩ := a1
      cases a3
      obtain ⟨q, q1, q2, q3⟩ := mem_stL.mp a2
      obtain ⟨s, s1, s2, q', q4, q5, q6⟩ := mem_wL.mp b1
      have hs8 := h8 s (List.mem_cons_of_mem _ s1)
      have := (pv_inj hT ht (by omega) (by rw [← s2]; exact hs8) (by omega) q3 q6).1
      exact hnd.1 (List.mem_map.mpr ⟨s, s1, by rw [s2, this]⟩)
theorem wL_len (hT : TB to rd P L X) (h8 : ∀ t, t ∈ T → hlv to t.1 < 8) (hnd : (T.map (fun t => hlv to t.1)).Nodup) : (wL to T).length ≤ 2 * X := by
  have h1 := wL_nd hT T h8 hnd
  have h2 := h1.length_le_of_subset (l₂ := List.range (2 * X)) (fun v hv => by
    rw [List.mem_map] at hv
    obtain ⟨⟨l, v'⟩, a1, rfl⟩ := hv
    obtain ⟨t, t1, t2, q, q1, q2, q3⟩ := mem_wL.mp a1
    rw [List.mem_range]
    exact (pv_lt hT (by rw [← t2]; exact h8 t t1) (by omega) q3).1)
  rw [List.length_map, List.length_range] at h2
  exact h2
theorem wL_snoc {t : Nat × Nat × Nat} : wL to (T ++ [t]) = wL to T ++ sT to t.1 := by
  unfold wL
  rw [List.flatMap_append]
  simp
end ALLS
