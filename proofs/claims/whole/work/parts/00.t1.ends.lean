/-! all rings are traced: what stands where -/
section ENDS
variable {to : ToS} {rd tn : TnS} {P X R : Nat} {T : List (Nat × Nat × Nat)} {ri0 ri : RiS} {fm : Nat → Nat}
def ln (to : ToS) (T : List (Nat × Nat × Nat)) (i : Nat) : Nat := (wL to (T.take i)).length
theorem wL_app {A B : List (Nat × Nat × Nat)} : wL to (A ++ B) = wL to A ++ wL to B := by unfold wL; rw [List.flatMap_append]
theorem ln_mono {i j : Nat} (h : i ≤ j) : ln to T i ≤ ln to T j := by
  unfold ln
  have : T.take j = T.take i ++ (T.take j).drop i := by
    have := (List.take_append_drop i (T.take j)).symm
    rwa [List.take_take, Nat.min_eq_left h] at this
  rw [this, wL_app, List.length_append]
  omega
theorem ln_0 : ln to T 0 = 0 := rfl
theorem ln_all : ln to T T.length = (wL to T).length := by unfold ln; rw [List.take_length]
/-- of which of the ring a standing is -/
theorem wL_at : ∀ (T : List (Nat × Nat × Nat)) {s l v : Nat}, (wL to T)[s]? = some (l, v) → ∃ (i : Nat) (t : Nat × Nat × Nat), T[i]? = some t ∧ hlv to t.1 = l ∧ ln to T i ≤ s ∧ s < ln to T (i + 1) := by
  intro T
  induction T with
  | nil => intro s l v h; simp [wL] at h
  | cons a T ih =>
    intro s l v h
    have e : wL to (a :: T) = sT to a.1 ++ wL to T := by unfold wL; rw [List.flatMap_cons]
    rw [e] at h
    by_cases c : s < (sT to a.1).length
    · rw [List.getElem?_append_left c] at h
      refine ⟨0, a, rfl, ?_, by rw [ln_0]; omega, ?_⟩
      · have := List.mem_of_getElem? h
        unfold sT at this
        rw [List.mem_map] at this
        obtain ⟨w, _, e2⟩ := this
        injection e2 with e2
      · have : ln to (a :: T) 1 = (sT to a.1).length := by unfold ln wL; simp
        rw [this]; exact c
    · rw [List.getElem?_append_right (by omega)] at h
      obtain ⟨i, t, h1, h2, h3, h4⟩ := ih h
      have e3 : ∀ k, ln to (a :: T) (k + 1) = (sT to a.1).length + ln to T k := by
        intro k
        unfold ln wL
        rw [List.take_succ_cons, List.flatMap_cons, List.length_append]
      refine ⟨i + 1, t, by rw [List.getElem?_cons_succ]; exact h1, h2, ?_, ?_⟩
      · rw [e3]; omega
      · rw [e3]; omega
/-- all that the two traces leave -/
def ALLT (to : ToS) (rd : TnS) (ri0 : RiS) (P X R : Nat) (T : List (Nat × Nat × Nat)) (fm : Nat → Nat) (ri : RiS) (tn : TnS) : Prop :=
  1 ≤ P ∧ TB to rd P P X ∧ RH to P ri0 ∧ AOK to rd ri0 P R T fm ri tn ∧ (∀ p, p < P → ∃ t, t ∈ T ∧ t.1 / 2 = p)
theorem ALLT.len (h : ALLT to rd ri0 P X R T fm ri tn) : T.length = P := by
  obtain ⟨_, hT, hH, hA, hv⟩ := h
  obtain ⟨hSr, hSc, hTo, hC, hV, hSI, hG⟩ := hA
  have a := hTo.1.length_le_of_subset (l₂ := List.range P) (fun a ha => by
    rw [List.mem_map] at ha
    obtain ⟨s, hs, rfl⟩ := ha
    have := (hTo.2.2 s hs).1
    rw [List.mem_range]; omega)
  have b := (List.nodup_range (n := P)).length_le_of_subset (l₂ := T.map (fun t => t.1 / 2)) (fun a ha => by
    rw [List.mem_range] at ha
    obtain ⟨t, ht, e⟩ := hv a ha
    rw [List.mem_map]
    exact ⟨t, ht, e⟩)
  rw [List.length_map, List.length_range] at a b
  omega
/-- a link is gone along once -/
theorem ALLT.link (h : ALLT to rd ri0 P X R T fm ri tn) {l : Nat} (hl : l < P) : ∃ (i : Nat) (t : Nat × Nat × Nat), T[i]? = some t ∧ hlv to t.1 = l := by
  obtain ⟨_, hT, hH, hA, hv⟩ := h
  obtain ⟨hSr, hSc, hTo, hC, hV, hSI, hG⟩ := hA
  obtain ⟨_, f1, f2, f3, f4, f5⟩ := hT.hf.1 l hl
  obtain ⟨t, ht, e⟩ := hv (hxv to l / 2) (by omega)
  obtain ⟨s, hs, es⟩ := hV (hxv to l) f1 ⟨t, ht, e⟩
  obtain ⟨i, hi, ei⟩ := List.getElem_of_mem hs
  exact ⟨i, s, by rw [List.getElem?_eq_getElem hi, ei], es.trans f4⟩
theorem ALLT.lt8 (h : ALLT to rd ri0 P X R T fm ri tn) {t : Nat × Nat × Nat} (ht : t ∈ T) : t.1 < 2 * P ∧ hlv to t.1 < P ∧ t.2.2 < 8 ∧ t.2.1 < R := by
  obtain ⟨_, hT, hH, hA, hv⟩ := h
  obtain ⟨hSr, hSc, hTo, hC, hV, hSI, hG⟩ := hA
  have a := hTo.2.2 t ht
  obtain ⟨i, hi, ei⟩ := List.getElem_of_mem ht
  exact ⟨a.1, (hT.hf.2 t.1 a.1).2.1, a.2.1, (hG.2.2.2.1 i t (by rw [List.getElem?_eq_getElem hi, ei])).1⟩
theorem ALLT.R8 (h : ALLT to rd ri0 P X R T fm ri tn) : 1 ≤ R ∧ R ≤ P ∧ P ≤ 8 := by
  have hl := h.len
  obtain ⟨h1, hT, hH, hA, hv⟩ := h
  obtain ⟨hSr, hSc, hTo, hC, hV, hSI, gf1, gf2, gf3, gf4, gf5⟩ := hA
  have := fm_le gf1 gf3 R (Nat.le_refl _)
  rw [gf2] at this
  have hn := hT.1.1
  refine ⟨?_, by omega, hn.1⟩
  by_cases c : R = 0
  · rw [c, gf1] at gf2; omega
  · omega
theorem ALLT.wlen (h : ALLT to rd ri0 P X R T fm ri tn) : (wL to T).length = 2 * X := by
  have hlk := @ALLT.link _ _ _ _ _ _ _ _ _ _ h
  obtain ⟨h1, hT, hH, hA, hv⟩ := h
  obtain ⟨hSr, hSc, hTo, hC, hV, hSI, gf1, gf2, gf3, gf4, gf5⟩ := hA
  have hn := hT.1.1
  have h8 : ∀ t, t ∈ T → hlv to t.1 < 8 := fun t ht => by
    have := (hT.hf.2 t.1 (hTo.2.2 t ht).1).2.1
    omega
  have a := wL_len hT h8 hTo.2.1
  have b := (List.nodup_range (n := 2 * X)).length_le_of_subset (l₂ := (wL to T).map Prod.snd) (fun v hv => by
    rw [List.mem_range] at hv
    rw [List.mem_map]
    obtain ⟨lo, po, lu, pu, g, ⟨g1, g2, g3, g4⟩, ⟨g5, g6, g7, g8⟩, g9⟩ := hT.2.2.2.2.2.1 (v / 2) (by omega)
    by_cases c : v % 2 = 0
    · obtain ⟨i, t, t1, t2⟩ := hlk (l := lu) (by omega)
      exact ⟨(lu, v), mem_wL.mpr ⟨t, List.mem_of_getElem? t1, t2, pu, by omega, by omega, by rw [(pv_u hT (by omega) (by omega) (by omega)).mp ⟨g5, g7⟩]; congr 1; omega⟩, rfl⟩
    · obtain ⟨i, t, t1, t2⟩ := hlk (l := lo) (by omega)
      exact ⟨(lo, v), mem_wL.mpr ⟨t, List.mem_of_getElem? t1, t2, po, by omega, by omega, by rw [(pv_o hT (by omega) (by omega) (by omega)).mp ⟨g1, g3⟩]; congr 1; omega⟩, rfl⟩)
  rw [List.length_map, List.length_range] at b
  omega
/-- rows and rings along the list -/
theorem ALLT.ord (h : ALLT to rd ri0 P X R T fm ri tn) {i j : Nat} {s t : Nat × Nat × Nat} (hi : T[i]? = some s) (hj : T[j]? = some t) :
    (i ≤ j → s.2.1 ≤ t.2.1 ∧ (s.2.1 = t.2.1 → s.2.2 ≤ t.2.2)) ∧ (s.2.1 = t.2.1 → s.2.2 = t.2.2 → i = j) ∧ (s.2.1 = t.2.1 → (i < j ↔ s.2.2 < t.2.2)) := by
  obtain ⟨h1, hT, hH, hA, hv⟩ := h
  obtain ⟨hSr, hSc, hTo, hC, hV, hSI, gf1, gf2, gf3, gf4, gf5⟩ := hA
  obtain ⟨a1, a2, a3⟩ := gf4 i s hi
  obtain ⟨b1, b2, b3⟩ := gf4 j t hj
  refine ⟨fun hij => ⟨?_, fun e => ?_⟩, fun e1 e2 => ?_, fun e => ?_⟩
  · by_cases c : s.2.1 ≤ t.2.1
    · exact c
    · have := fm_mono gf3 s.2.1 (t.2.1 + 1) (by omega) (by omega)
      omega
  · rw [e] at a2; omega
  · rw [e1] at a2; omega
  · rw [e] at a2; omega
end ENDS
