def NXv (tn : TnS) (pt : Option Nat) (t : Int64) (a : Nat) (v : Int32) : Prop := (v = -1 ∧ ∀ b, ¬ NX tn pt t a b) ∨ ∃ b, v = nI b ∧ NX tn pt t a b
section LOOKS
variable {md : MdS} {tn : TnS} {pt : Option Nat} {t : Int64} {s : Nat}
theorem NX.uniq {a b c : Nat} (h : NX tn pt t a b) (k : NX tn pt t a c) : b = c := by
  obtain ⟨ha, hb, la, lb, e, h⟩ := h
  obtain ⟨_, hc, _, lc, e', k⟩ := k
  rcases h with ⟨h1, h2, _⟩ | ⟨h1, h2, h3, _⟩ <;> rcases k with ⟨k1, k2, _⟩ | ⟨k1, k2, k3, _⟩
  · rcases Nat.lt_trichotomy b c with q | q | q
    · exact absurd (k2 b h1 q) lb
    · exact q
    · exact absurd (h2 c k1 q) lc
  · exact absurd (k2 b h1 hb e.symm) lb
  · exact absurd (h2 c k1 hc e'.symm) lc
  · rcases Nat.lt_trichotomy b c with q | q | q
    · exact absurd (k3 b q e.symm) lb
    · exact q
    · exact absurd (h3 c q e'.symm) lc
theorem rNext2 (hT : TW tn) (hp : Md_parted md = ptv pt) (hw : ptW tn pt) (hs : s < nS tn) (ls : nib t s ≠ 15)
    (H1 : ∀ k, s < k → k < nS tn → rg tn k = rg tn s → nib t k = 15) :
    ∀ n k, s + 1 - k < n → k ≤ s + 1 → (∀ j, j < k → rg tn j = rg tn s → nib t j = 15) → Ok (f_X13_nextFrom_L114 n t (nI s) (nI (rg tn s)) (nI k) md tn) (NXv tn pt t s) := by
  have h14 := hT.s14
  have hr8 := hT.r8
  have hrs := hT.rgR hs
  intro n
  induction n with
  | zero => intro k h; omega
  | succ n ih =>
    intro k hn hk hd
    rw [f_X13_nextFrom_L114]
    have hks : k ≤ s := by
      apply Classical.byContradiction
      intro h
      exact ls (hd s (by omega) rfl)
    have hkS : k < nS tn := by omega
    have hrk := hT.rgR hkS
    rw [if_neg (nI_nlt hks (by omega)), ckI (by omega) (by omega), nI_clamp (by omega), nI_clamp (by omega), hT.erg hkS]
    by_cases e : rg tn k = rg tn s
    · rw [if_pos (by rw [e]), bd1_e (at_e t k (by omega))]
      by_cases l : nib t k = 15
      · rw [if_pos (by rw [l]; rfl)]
        unfold f_X13_nextFrom_L209
        rw [lt1_e, nI_1]
        refine ih (k + 1) (by omega) (by omega) (fun j hj he => ?_)
        by_cases hjk : j = k
        · rw [hjk]; exact l
        · exact hd j (by omega) he
      · have hn15 : ¬ nI (nib t k) = 15 := fun h => l (nI_inj h (by have := nib_lt t k; omega) (by omega))
        rw [if_neg hn15, ckI (by omega) (by omega), hT.elk hs, ckI (hT.lk8 hs) (by omega), nI_clamp (by have := hT.lk8 hs; omega), hT.ero (hT.lkL hs)]
        have hro := hT.ro8 (hT.lkL hs)
        have hro2 := hT.ro8 (hT.lkL hkS)
        rw [li_8, bd1_e (rOpen hT hp hw (nI_1 _) (by omega) (by omega) (by omega))]
        by_cases c1 : cut tn pt (ro tn (lk tn s) + 1) 8 (rg tn s)
        · rw [tf_t c1, if_neg (by decide), Ok_some]
          refine Or.inl ⟨rfl, fun b hb => ?_⟩
          obtain ⟨_, hb2, _, lb, eb, h⟩ := hb
          rcases h with ⟨h1, _⟩ | ⟨_, _, _, h4, _⟩
          · exact lb (H1 b h1 hb2 eb.symm)
          · exact h4 c1
        · rw [tf_f c1, if_pos rfl, ckI (by omega) (by omega), hT.elk hkS, ckI (hT.lk8 hkS) (by omega), nI_clamp (by have := hT.lk8 hkS; omega), hT.ero (hT.lkL hkS)]
          rw [bd1_e (rOpen hT hp hw (f := 0) (by decide) (by omega) (by omega) (by omega))]
          by_cases c2 : cut tn pt 0 (ro tn (lk tn k)) (rg tn s)
          · rw [tf_t c2, if_neg (by decide), Ok_some]
            refine Or.inl ⟨rfl, fun b hb => ?_⟩
            obtain ⟨_, hb2, _, lb, eb, h⟩ := hb
            rcases h with ⟨h1, _⟩ | ⟨h0, _, h3, _, h5⟩
            · exact lb (H1 b h1 hb2 eb.symm)
            · rcases Nat.lt_trichotomy b k with q | q | q
              · exact lb (hd b q eb.symm)
              · rw [q] at h5; exact h5 c2
              · exact l (h3 k q e)
          · rw [tf_f c2, if_pos rfl, Ok_some]
            exact Or.inr ⟨k, rfl, hs, hkS, ls, l, e.symm, Or.inr ⟨hks, H1, hd, c1, c2⟩⟩
    · rw [if_neg (fun h => e (nI_inj h (by omega) (by omega)))]
      unfold f_X13_nextFrom_L209
      rw [lt1_e, nI_1]
      refine ih (k + 1) (by omega) (by omega) (fun j hj he => ?_)
      by_cases hjk : j = k
      · rw [hjk] at he; exact absurd he e
      · exact hd j (by omega) he
theorem rNext1 (hT : TW tn) (hp : Md_parted md = ptv pt) (hw : ptW tn pt) (hs : s < nS tn) (ls : nib t s ≠ 15) :
    ∀ n k, nS tn + 1 - k < n → s < k → k ≤ nS tn → (∀ j, s < j → j < k → rg tn j = rg tn s ∧ nib t j = 15) → Ok (f_X13_nextFrom_L16 n t (nI s) (nI (rg tn s)) (nI k) md tn) (NXv tn pt t s) := by
  have h14 := hT.s14
  have hr8 := hT.r8
  have hrs := hT.rgR hs
  intro n
  induction n with
  | zero => intro k h; omega
  | succ n ih =>
    intro k hn hsk hkS hd
    rw [f_X13_nextFrom_L16, hT.S]
    by_cases hk : k = nS tn
    · rw [if_pos (by rw [hk]; exact nI_le (Nat.le_refl _) (by omega))]
      unfold f_X13_nextFrom_L111
      exact rNext2 hT hp hw hs ls (fun k h1 h2 _ => (hd k h1 (by omega)).2) FU 0 (by rw [FU_e]; omega) (by omega) (fun j h => by omega)
    · have hkS : k < nS tn := by omega
      have hrk := hT.rgR hkS
      rw [if_neg (nI_ge hkS (by omega)), ckI (by omega) (by omega), nI_clamp (by omega), nI_clamp (by omega), hT.erg hkS]
      by_cases e : rg tn k = rg tn s
      · rw [if_pos (by rw [e]), bd1_e (at_e t k (by omega))]
        by_cases l : nib t k = 15
        · rw [if_pos (by rw [l]; rfl), lt1_e, nI_1]
          refine ih (k + 1) (by omega) (by omega) (by omega) (fun j h1 h2 => ?_)
          by_cases hjk : j = k
          · rw [hjk]; exact ⟨e, l⟩
          · exact hd j h1 (by omega)
        · have hn15 : ¬ nI (nib t k) = 15 := fun h => l (nI_inj h (by have := nib_lt t k; omega) (by omega))
          have hro := hT.ro8 (hT.lkL hs)
          have hro2 := hT.ro8 (hT.lkL hkS)
          rw [if_neg hn15, ckI (by omega) (by omega), hT.elk hs, ckI (hT.lk8 hs) (by omega), ckI (by omega) (by omega), hT.elk hkS, ckI (hT.lk8 hkS) (by omega), nI_clamp (by have := hT.lk8 hs; omega), nI_clamp (by have := hT.lk8 hkS; omega), hT.ero (hT.lkL hs), hT.ero (hT.lkL hkS)]
          rw [bd1_e (rOpen hT hp hw (nI_1 _) (by omega) (by omega) (by omega))]
          by_cases c1 : cut tn pt (ro tn (lk tn s) + 1) (ro tn (lk tn k)) (rg tn s)
          · rw [tf_t c1, if_neg (by decide), Ok_some]
            refine Or.inl ⟨rfl, fun b hb => ?_⟩
            obtain ⟨_, hb2, _, lb, eb, h⟩ := hb
            rcases h with ⟨h1, h2, h3⟩ | ⟨_, h2, _⟩
            · rcases Nat.lt_trichotomy b k with q | q | q
              · exact lb (hd b h1 q).2
              · rw [q] at h3; exact h3 c1
              · exact l (h2 k hsk q)
            · exact l (h2 k hsk hkS e)
          · rw [tf_f c1, if_pos rfl, Ok_some]
            exact Or.inr ⟨k, rfl, hs, hkS, ls, l, e.symm, Or.inl ⟨hsk, fun j h1 h2 => (hd j h1 h2).2, c1⟩⟩
      · rw [if_neg (fun h => e (nI_inj h (by omega) (by omega)))]
        unfold f_X13_nextFrom_L111
        refine rNext2 hT hp hw hs ls (fun j h1 h2 h3 => ?_) FU 0 (by rw [FU_e]; omega) (by omega) (fun j h => by omega)
        by_cases hjk : j < k
        · exact (hd j h1 hjk).2
        · have q1 := (hT.mono (show k ≤ j by omega) h2).1
          have q2 := (hT.mono (show s ≤ k by omega) hkS).1
          omega
theorem rNext (hT : TW tn) (hp : Md_parted md = ptv pt) (hw : ptW tn pt) (hs : s < nS tn) (ls : nib t s ≠ 15) : Ok (f_X13_nextFrom md tn t (nI s)) (NXv tn pt t s) := by
  have h14 := hT.s14
  unfold f_X13_nextFrom
  rw [ckI (by omega) (by omega), nI_clamp (by omega), hT.erg hs, lt1_e, lt1_e, nI_1]
  exact rNext1 hT hp hw hs ls FU (s + 1) (by rw [FU_e]; omega) (by omega) (by omega) (fun j h1 h2 => by omega)
end LOOKS
