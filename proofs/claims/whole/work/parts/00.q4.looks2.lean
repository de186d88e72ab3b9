def oI (o : Option Nat) : Int32 := match o with
  | none => -1
  | some s => nI s
def CW (tn : TnS) (t : Int64) : Prop :=
  (∀ s, s < nS tn → nib t s ≠ 15 → nib t s < 2 * nX tn) ∧ (∀ s k, s < nS tn → k < nS tn → nib t s ≠ 15 → nib t s = nib t k → s = k) ∧
  (∀ s, nS tn ≤ s → s < 16 → nib t s = 0) ∧ (∀ x, x < nX tn → ((∃ s, s < nS tn ∧ nib t s = 2 * x) ↔ (∃ s, s < nS tn ∧ nib t s = 2 * x + 1)))
def spt (tn : TnS) (t : Int64) (p : Nat) : Option Nat := (List.range (nS tn)).find? (fun s => nib t s == p)
theorem spt_none {tn : TnS} {t : Int64} {p : Nat} : spt tn t p = none ↔ ∀ s, s < nS tn → nib t s ≠ p := by
  unfold spt
  rw [List.find?_eq_none]
  constructor
  · intro h s hs e
    exact h s (List.mem_range.mpr hs) (by simp [e])
  · intro h s hs e
    exact h s (List.mem_range.mp hs) (by simpa using e)
theorem spt_some {tn : TnS} {t : Int64} {p s : Nat} (hC : CW tn t) (hp : p ≠ 15) : spt tn t p = some s ↔ s < nS tn ∧ nib t s = p := by
  constructor
  · intro h
    unfold spt at h
    have h1 := List.find?_some h
    have h2 := List.mem_of_find?_eq_some h
    exact ⟨List.mem_range.mp h2, by simpa using h1⟩
  · rintro ⟨hs, e⟩
    cases h : spt tn t p with
    | none => exact absurd e (spt_none.mp h s hs)
    | some k =>
      unfold spt at h
      have h1 : nib t k = p := by simpa using List.find?_some h
      have h2 := List.mem_range.mp (List.mem_of_find?_eq_some h)
      rw [hC.2.1 k s h2 hs (by rw [h1]; exact hp) (by rw [h1, e])]
def Looked (md : MdS) (tn : TnS) (pt : Option Nat) (t : Int64) : Prop := (∀ p, p < 15 → Md_spotOf md p = oI (spt tn t p)) ∧ (∀ a, a < nS tn → nib t a ≠ 15 → NXv tn pt t a (Md_nextOf md a))
theorem n15 {t : Int64} {k : Nat} (l : ¬ nib t k = 15) : ¬ nI (nib t k) = 15 := fun h => l (nI_inj h (by have := nib_lt t k; omega) (by omega))
section LOOKS2
variable {tn : TnS} {pt : Option Nat} {t : Int64}
theorem rLooks3 (hT : TW tn) (hw : ptW tn pt) :
    ∀ n k (md : MdS), nS tn + 1 - k < n → k ≤ nS tn → Md_parted md = ptv pt → (∀ p, p < 15 → Md_spotOf md p = oI (spt tn t p)) → (∀ a, a < k → nib t a ≠ 15 → NXv tn pt t a (Md_nextOf md a)) →
    Ok (f_X13_looks_L63 n t (nI k) md tn) (fun md' => Lk md md' ∧ Looked md' tn pt t) := by
  have h14 := hT.s14
  intro n
  induction n with
  | zero => intro k md h; omega
  | succ n ih =>
    intro k md hn hk hp hs hd
    rw [f_X13_looks_L63, hT.S]
    by_cases hk2 : k = nS tn
    · rw [if_pos (by rw [hk2]; exact nI_le (Nat.le_refl _) (by omega)), Ok_some]
      exact ⟨Lk.refl md, hs, fun a ha => hd a (by omega)⟩
    · have hkS : k < nS tn := by omega
      rw [if_neg (nI_ge hkS (by omega)), bd1_e (at_e t k (by omega))]
      have step : ∀ v : Int32, (nib t k ≠ 15 → NXv tn pt t k v) → Ok (f_X13_looks_L99 t (nI k) (nI k) v md tn (fun y0 y1 y2 y3 => f_X13_looks_L63 n y0 y1 y2 y3)) (fun md' => Lk md md' ∧ Looked md' tn pt t) := by
        intro v hv
        unfold f_X13_looks_L99
        rw [ckI (by omega) (by omega), nI_clamp (by omega), lt1_e, lt1_e, nI_1]
        refine (ih (k + 1) (Md_nextOf' md (upd (Md_nextOf md) k v)) (by omega) (by omega) ((Lk.u_nextOf _ _).parted.trans hp) (by rw [gn_spotOf_nextOf]; exact hs) (fun a ha la => ?_)).mono (fun r h => ⟨(Lk.u_nextOf _ _).trans h.1, h.2⟩)
        rw [gs_nextOf]
        by_cases e : a = k
        · subst e; rw [upd_at]; exact hv la
        · rw [upd_ne e]; exact hd a (by omega) la
      by_cases l : nib t k = 15
      · rw [if_pos (by rw [l]; rfl)]
        exact step _ (fun h => absurd l h)
      · rw [if_neg (n15 l), Ok_bd1]
        exact (rNext hT hp hw hkS l).mono (fun v hv => step v (fun _ => hv))
theorem rLooks2 (hT : TW tn) (hC : CW tn t) (hw : ptW tn pt) :
    ∀ n k (md : MdS), nS tn + 1 - k < n → k ≤ nS tn → Md_parted md = ptv pt → (∀ p, p < 15 → Md_spotOf md p = oI ((List.range k).find? (fun s => nib t s == p))) →
    Ok (f_X13_looks_L23 n t (nI k) md tn) (fun md' => Lk md md' ∧ Looked md' tn pt t) := by
  have h14 := hT.s14
  intro n
  induction n with
  | zero => intro k md h; omega
  | succ n ih =>
    intro k md hn hk hp hs
    rw [f_X13_looks_L23, hT.S]
    by_cases hk2 : k = nS tn
    · rw [if_pos (by rw [hk2]; exact nI_le (Nat.le_refl _) (by omega))]
      refine rLooks3 hT hw FU 0 md (by rw [FU_e]; omega) (by omega) hp (fun p h => ?_) (fun a h => by omega)
      rw [hs p h, hk2]
      rfl
    · have hkS : k < nS tn := by omega
      rw [if_neg (nI_ge hkS (by omega)), bd1_e (at_e t k (by omega))]
      have hr : ∀ p, p ≠ nib t k → (List.range (k + 1)).find? (fun s => nib t s == p) = (List.range k).find? (fun s => nib t s == p) := by
        intro p hp
        rw [List.range_succ, List.find?_append]
        have : (nib t k == p) = false := by simpa using fun h => hp h.symm
        simp [List.find?, this]
      by_cases l : nib t k = 15
      · rw [if_pos (by rw [l]; rfl)]
        unfold f_X13_looks_L55
        rw [lt1_e, nI_1]
        exact ih (k + 1) md (by omega) (by omega) hp (fun p h => by rw [hs p h, hr p (by omega)])
      · have hn := nib_lt t k
        rw [if_neg (n15 l), bd1_e (at_e t k (by omega)), ckI (by omega) (by omega), nI_clamp (by omega), lt1_e]
        unfold f_X13_looks_L55
        rw [lt1_e, nI_1]
        refine (ih (k + 1) (Md_spotOf' md (upd (Md_spotOf md) (nib t k) (nI k))) (by omega) (by omega) ((Lk.u_spotOf _ _).parted.trans hp) (fun p h => ?_)).mono (fun r h => ⟨(Lk.u_spotOf _ _).trans h.1, h.2⟩)
        rw [gs_spotOf]
        by_cases e : p = nib t k
        · subst e
          rw [upd_at, List.range_succ, List.find?_append]
          have : (List.range k).find? (fun s => nib t s == nib t k) = none := by
            rw [List.find?_eq_none]
            intro s h1 h2
            have h3 := List.mem_range.mp h1
            have h4 : nib t s = nib t k := by simpa using h2
            have := hC.2.1 s k (by omega) hkS (by rw [h4]; exact l) h4
            omega
          rw [this]
          simp [List.find?, oI]
        · rw [upd_ne e, hs p h, hr p e]
theorem rLooks (hT : TW tn) (hC : CW tn t) (hw : ptW tn pt) {md : MdS} (hp : Md_parted md = ptv pt) : Ok (f_X13_looks md tn t) (fun md' => Lk md md' ∧ Looked md' tn pt t) := by
  unfold f_X13_looks
  have : ∀ n k (md : MdS), 17 - k < n → k ≤ 16 → Md_parted md = ptv pt → (∀ p, p < k → Md_spotOf md p = -1) → Ok (f_X13_looks_L2 n t (nI k) md tn) (fun md' => Lk md md' ∧ Looked md' tn pt t) := by
    intro n
    induction n with
    | zero => intro k md h; omega
    | succ n ih =>
      intro k md hn hk hp hs
      rw [f_X13_looks_L2]
      by_cases hk2 : k = 16
      · rw [if_pos (by rw [hk2]; decide)]
        exact rLooks2 hT hC hw FU 0 md (by rw [FU_e]; have := hT.s14; omega) (by omega) hp (fun p h => by rw [hs p (by omega)]; rfl)
      · rw [li_16, if_neg (nI_ge (show k < 16 by omega) (by omega)), ckI (by omega) (by omega), nI_clamp (by omega), lt1_e, lt1_e, nI_1]
        refine (ih (k + 1) (Md_spotOf' md (upd (Md_spotOf md) k (-1))) (by omega) (by omega) ((Lk.u_spotOf _ _).parted.trans hp) (fun p h => ?_)).mono (fun r h => ⟨(Lk.u_spotOf _ _).trans h.1, h.2⟩)
        rw [gs_spotOf]
        by_cases e : p = k
        · rw [e, upd_at]
        · rw [upd_ne e]; exact hs p (by omega)
  exact this FU 0 md (by rw [FU_e]; omega) (by omega) hp (fun p h => by omega)
end LOOKS2
