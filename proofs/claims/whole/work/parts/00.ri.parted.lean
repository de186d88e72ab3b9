section PARTED
variable {tn : TnS} {pt : Option Nat} {t u : Int64} {lf : Int32} {l : Nat}
/-- a crossing that goes when a link is parted, looked for among the first standings -/
def GO (tn : TnS) (t : Int64) (l n x : Nat) : Prop := ∃ s, s < n ∧ lk tn s = l ∧ nib t s ≠ 15 ∧ nib t s / 2 = x
def PD (tn : TnS) (t : Int64) (l n : Nat) (u : Int64) : Prop :=
  (∀ s, s < nS tn → GO tn t l n (nib t s / 2) → nib u s = 15) ∧ (∀ s, s < nS tn → ¬ GO tn t l n (nib t s / 2) → nib u s = nib t s) ∧ (∀ s, nS tn ≤ s → s < 16 → nib u s = nib t s)
theorem GO_s {n x : Nat} : GO tn t l (n + 1) x ↔ GO tn t l n x ∨ (lk tn n = l ∧ nib t n ≠ 15 ∧ nib t n / 2 = x) := by
  constructor
  · rintro ⟨s, h1, h2⟩
    by_cases e : s = n
    · subst e; exact Or.inr h2
    · exact Or.inl ⟨s, by omega, h2⟩
  · rintro (⟨s, h1, h2⟩ | h)
    · exact ⟨s, by omega, h2⟩
    · exact ⟨n, by omega, h⟩
theorem nib_wo (hT : TW tn) (hC : CW tn t) {x : Nat} (hx : x < 7) (h0 : LV tn t (2 * x)) (h1 : LV tn t (2 * x + 1)) {s : Nat} (hs : s < nS tn) : nib (wo tn t u x) s = if nib t s / 2 = x then 15 else nib u s := by
  have h14 := hT.s14
  obtain ⟨_, a1, _⟩ := lv_sp h0 hC (by omega)
  obtain ⟨_, b1, _⟩ := lv_sp h1 hC (by omega)
  have i0 := sp_iff h0 hC (by omega) hs
  have i1 := sp_iff h1 hC (by omega) hs
  unfold wo
  rw [nib_wth _ _ _ _ (by omega) (by omega) (by omega), nib_wth _ _ _ _ (by omega) (by omega) (by omega)]
  by_cases c : nib t s / 2 = x
  · rw [if_pos c]
    by_cases d : s = sp tn t (2 * x + 1)
    · rw [if_pos d]
    · rw [if_neg d, if_pos (i0.mpr (by have := fun e => d (i1.mpr e); omega))]
  · rw [if_neg c, if_neg (fun e => c (by have := i1.mp e; omega)), if_neg (fun e => c (by have := i0.mp e; omega))]
theorem nib_wo2 (hT : TW tn) (hC : CW tn t) {x : Nat} (hx : x < 7) (h0 : LV tn t (2 * x)) (h1 : LV tn t (2 * x + 1)) {s : Nat} (hs : nS tn ≤ s) (h16 : s < 16) : nib (wo tn t u x) s = nib u s := by
  have h14 := hT.s14
  obtain ⟨_, a1, _⟩ := lv_sp h0 hC (by omega)
  obtain ⟨_, b1, _⟩ := lv_sp h1 hC (by omega)
  unfold wo
  rw [nib_wth _ _ _ _ (by omega) (by omega) (by omega), nib_wth _ _ _ _ (by omega) (by omega) (by omega), if_neg (by omega), if_neg (by omega)]
theorem CW.both (hT : TW tn) (hC : CW tn t) {s : Nat} (hs : s < nS tn) (hl : nib t s ≠ 15) : nib t s / 2 < nX tn ∧ LV tn t (2 * (nib t s / 2)) ∧ LV tn t (2 * (nib t s / 2) + 1) := by
  have hb := hC.1 s hs hl
  have hx : nib t s / 2 < nX tn := by omega
  have h4 := hC.2.2.2 _ hx
  refine ⟨hx, ?_⟩
  by_cases e : nib t s % 2 = 0
  · have h0 : LV tn t (2 * (nib t s / 2)) := ⟨s, hs, by omega⟩
    exact ⟨h0, h4.mp h0⟩
  · have h0 : LV tn t (2 * (nib t s / 2) + 1) := ⟨s, hs, by omega⟩
    exact ⟨h4.mpr h0, h0⟩
theorem PD.step (hT : TW tn) (hC : CW tn t) {n : Nat} (hn : n < nS tn) (h : PD tn t l n u) (h1 : lk tn n = l) (h2 : nib t n ≠ 15) : PD tn t l (n + 1) (wo tn t u (nib t n / 2)) := by
  obtain ⟨b1, b2, b3⟩ := hC.both hT hn h2
  have h7 := hT.x7
  refine ⟨fun s hs hg => ?_, fun s hs hg => ?_, fun s hs h16 => ?_⟩
  · rw [nib_wo hT hC (by omega) b2 b3 hs]
    by_cases c : nib t s / 2 = nib t n / 2
    · rw [if_pos c]
    · rw [if_neg c]
      exact h.1 s hs ((GO_s.mp hg).resolve_right (fun e => c e.2.2.symm))
  · rw [nib_wo hT hC (by omega) b2 b3 hs, if_neg (fun e => hg (GO_s.mpr (Or.inr ⟨h1, h2, e.symm⟩)))]
    exact h.2.1 s hs (fun e => hg (GO_s.mpr (Or.inl e)))
  · rw [nib_wo2 hT hC (by omega) b2 b3 hs h16]
    exact h.2.2 s hs h16
theorem PD.stay {n : Nat} (h : PD tn t l n u) (h1 : ¬ (lk tn n = l ∧ nib t n ≠ 15)) : PD tn t l (n + 1) u := by
  refine ⟨fun s hs hg => h.1 s hs ((GO_s.mp hg).resolve_right (fun e => h1 ⟨e.1, e.2.1⟩)), fun s hs hg => h.2.1 s hs (fun e => hg (GO_s.mpr (Or.inl e))), h.2.2⟩
theorem PD.zero : PD tn t l 0 t := ⟨fun s _ ⟨_, h, _⟩ => absurd h (by omega), fun _ _ _ => rfl, fun _ _ _ => rfl⟩
theorem PD.dead (hT : TW tn) (hC : CW tn t) {n : Nat} (hn : n ≤ nS tn) (h : PD tn t l n u) {s : Nat} (hs : s < nS tn) (e : nib t s = 15) : nib u s = 15 := by
  have h7 := hT.x7
  rw [h.2.1 s hs, e]
  rintro ⟨a, h1, h2, h3, h4⟩
  have := hC.1 a (by omega) h3
  omega
theorem PD.live {n : Nat} (h : PD tn t l n u) {s : Nat} (hs : s < nS tn) (e : nib u s ≠ 15) : ¬ GO tn t l n (nib t s / 2) ∧ nib u s = nib t s := by
  have : ¬ GO tn t l n (nib t s / 2) := fun g => e (h.1 s hs g)
  exact ⟨this, h.2.1 s hs this⟩
theorem cnt_same {a b : Int64} (h : ∀ s, s < nS tn → nib a s = nib b s) : cnt tn a = cnt tn b := by
  unfold cnt
  refine countP_same (fun i hi => ?_)
  unfold lvB
  rw [h i hi]
theorem PD.cstep (hT : TW tn) (hC : CW tn t) {n : Nat} (hn : n < nS tn) (h : PD tn t l n u) (h2 : nib t n ≠ 15) (h0 : cnt tn u % 2 = 0) : cnt tn (wo tn t u (nib t n / 2)) % 2 = 0 := by
  obtain ⟨b1, b2, b3⟩ := hC.both hT hn h2
  have h7 := hT.x7
  have hnib : ∀ s, s < nS tn → nib (wo tn t u (nib t n / 2)) s = if nib t s / 2 = nib t n / 2 then 15 else nib u s := fun s hs => nib_wo hT hC (by omega) b2 b3 hs
  by_cases g : GO tn t l n (nib t n / 2)
  · rw [cnt_same (b := u) (fun s hs => ?_)]
    · exact h0
    · rw [hnib s hs]
      by_cases c : nib t s / 2 = nib t n / 2
      · rw [if_pos c, h.1 s hs (by rw [c]; exact g)]
      · rw [if_neg c]
  · obtain ⟨_, a1, a2⟩ := lv_sp b2 hC (by omega)
    obtain ⟨_, c1, c2⟩ := lv_sp b3 hC (by omega)
    have ua : nib u (sp tn t (2 * (nib t n / 2))) = 2 * (nib t n / 2) := by
      rw [h.2.1 _ a1 (by rw [a2, show 2 * (nib t n / 2) / 2 = nib t n / 2 by omega]; exact g), a2]
    have ub : nib u (sp tn t (2 * (nib t n / 2) + 1)) = 2 * (nib t n / 2) + 1 := by
      rw [h.2.1 _ c1 (by rw [c2, show (2 * (nib t n / 2) + 1) / 2 = nib t n / 2 by omega]; exact g), c2]
    have := countP_two (p := lvB u) (q := lvB (wo tn t u (nib t n / 2))) (a := sp tn t (2 * (nib t n / 2))) (b := sp tn t (2 * (nib t n / 2) + 1)) (n := nS tn) a1 c1 (fun e => by rw [e, c2] at a2; omega)
      (by unfold lvB; rw [ua]; simp; omega) (by unfold lvB; rw [ub]; simp; omega)
      (by unfold lvB; rw [hnib _ a1, if_pos (by rw [a2]; omega)]; simp)
      (by unfold lvB; rw [hnib _ c1, if_pos (by rw [c2]; omega)]; simp)
      (fun i hi na nb => by
        unfold lvB
        rw [hnib i hi, if_neg (fun e => ?_)]
        have q0 : ¬ nib t i = 2 * (nib t n / 2) := fun e => na ((sp_iff b2 hC (by omega) hi).mpr e)
        have q1 : ¬ nib t i = 2 * (nib t n / 2) + 1 := fun e => nb ((sp_iff b3 hC (by omega) hi).mpr e)
        omega)
    unfold cnt at h0 ⊢
    omega
/-- what is parted is well -/
theorem PD.DW (hT : TW tn) (hD : DW tn pt t) (hl : l < nL tn) (h : PD tn t l (nS tn) u) (h0 : cnt tn u % 2 = 0) : DW tn (some l) u := by
  have hC := hD.1
  have lv : ∀ {s}, s < nS tn → nib u s ≠ 15 → ¬ GO tn t l (nS tn) (nib t s / 2) ∧ nib u s = nib t s := fun hs e => h.live hs e
  refine ⟨⟨?_, ?_, ?_, ?_⟩, h0, ?_, ?_⟩
  · intro s hs e
    have a := (lv hs e).2
    rw [a]
    exact hC.1 s hs (by rw [← a]; exact e)
  · intro s k hs hk e1 e2
    have a := (lv hs e1).2
    have b := (lv hk (by rw [← e2]; exact e1)).2
    exact hC.2.1 s k hs hk (by rw [← a]; exact e1) (by rw [← a, ← b]; exact e2)
  · intro s h1 h2
    rw [h.2.2 s h1 h2]
    exact hC.2.2.1 s h1 h2
  · intro x hx
    have h7 := hT.x7
    have h4 := hC.2.2.2 x hx
    constructor
    · rintro ⟨s, hs, e⟩
      obtain ⟨g, e2⟩ := lv hs (by omega)
      obtain ⟨k, hk, e3⟩ := h4.mp ⟨s, hs, by omega⟩
      exact ⟨k, hk, by rw [h.2.1 k hk (by rw [show nib t k / 2 = nib t s / 2 by omega]; exact g)]; exact e3⟩
    · rintro ⟨s, hs, e⟩
      obtain ⟨g, e2⟩ := lv hs (by omega)
      obtain ⟨k, hk, e3⟩ := h4.mpr ⟨s, hs, by omega⟩
      exact ⟨k, hk, by rw [h.2.1 k hk (by rw [show nib t k / 2 = nib t s / 2 by omega]; exact g)]; exact e3⟩
  · intro l' e
    obtain rfl : l = l' := Option.some.inj e
    refine ⟨hl, fun s hs e2 => ?_⟩
    by_cases c : nib t s = 15
    · exact h.dead hT hC (Nat.le_refl _) hs c
    · exact h.1 s hs ⟨s, hs, e2, c, rfl⟩
  · intro x hx s k hs hk e1 e2
    have h7 := hT.x7
    exact hD.2.2.2 x hx s k hs hk (by rw [← (lv hs (by omega)).2]; exact e1) (by rw [← (lv hk (by omega)).2]; exact e2)
theorem parted_L (hT : TW tn) (hC : CW tn t) (hl : l < nL tn) {md : MdS} (hL : Looked md tn pt t) : ∀ rem n i u, i + rem = nS tn → rem < n → PD tn t l i u → cnt tn u % 2 = 0 →
    Ok (f_X13_partedFrom_L11 n t (nI l) u (nI i) md tn) (fun q => PD tn t l (nS tn) q.1 ∧ cnt tn q.1 % 2 = 0 ∧ q.2 = md) := by
  have h14 := hT.s14
  have h8 := hT.l8
  intro rem
  induction rem with
  | zero =>
    intro n i u hi hn h h0
    cases n with
    | zero => omega
    | succ n =>
      rw [f_X13_partedFrom_L11, hT.S, if_pos (nI_le (by omega) (by omega)), Ok_some]
      obtain rfl : i = nS tn := by omega
      exact ⟨h, h0, rfl⟩
  | succ rem ih =>
    intro n i u hi hn h h0
    cases n with
    | zero => omega
    | succ n =>
      have hi2 : i < nS tn := by omega
      have hlk := hT.lkL hi2
      rw [f_X13_partedFrom_L11, hT.S, if_neg (nI_ge (show i < nS tn by omega) (by omega)), ckI (by omega) (by decide), nI_clamp (by omega), hT.elk hi2]
      unfold f_X13_partedFrom_L64
      simp only [lt1_e, nI_1]
      by_cases c : lk tn i = l
      · rw [if_pos (by rw [c]), bd1_e (at_e t i (by omega))]
        by_cases d : nib t i = 15
        · rw [if_pos (by rw [d]; rfl)]
          exact ih n (i + 1) u (by omega) (by omega) (h.stay (fun e => e.2 d)) h0
        · obtain ⟨b1, b2, b3⟩ := hC.both hT hi2 d
          have hn16 := nib_lt t i
          have h7 := hT.x7
          rw [if_neg (n15 d), bd1_e (at_e t i (by omega)), li_2, nI_div (by omega) (by omega), bd1_e (without_e hT hL hC (by omega) b2 b3)]
          exact ih n (i + 1) _ (by omega) (by omega) (h.step hT hC hi2 c d) (h.cstep hT hC hi2 d h0)
      · rw [if_neg (fun e => c (nI_inj e (by omega) (by omega)))]
        exact ih n (i + 1) u (by omega) (by omega) (h.stay (fun e => c e.1)) h0
theorem parted_e (hT : TW tn) (hD : DW tn pt t) (hl : l < nL tn) {md : MdS} (hp : Md_parted md = ptv pt) : Ok (f_X13_partedFrom md tn t (nI l)) (fun q => PD tn t l (nS tn) q.1 ∧ DW tn (some l) q.1 ∧ Lk md q.2) := by
  unfold f_X13_partedFrom
  rw [Ok_bd1]
  refine (rLooks hT hD.1 hD.pt hp).mono (fun md1 h => ?_)
  refine (parted_L hT hD.1 hl h.2 (nS tn) FU 0 t (by omega) (by rw [FU_e]; have := hT.s14; omega) PD.zero hD.2.1).mono (fun q hq => ?_)
  exact ⟨hq.1, hq.1.DW hT hD hl hq.2.1, by rw [hq.2.2]; exact h.1⟩
end PARTED
