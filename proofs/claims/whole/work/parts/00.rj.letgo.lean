section LETGO
variable {ri : RiS} {tn : TnS} {pt : Option Nat} {t u kc : Int64} {l : Nat}
theorem nib_clr (k : Int64) (s s' : Nat) (hs : s < 16) (hs' : s' < 16) : nib (k &&& (((15 : Int64) <<< (Int32.toInt64 ((4 : Int32) * nI s) &&& 63)) ^^^ (-1 : Int64))) s' = if s' = s then 0 else nib k s' := by
  rw [nib_and, nib_xor, nib_15 s s' hs hs', nib_neg1 s' hs']
  by_cases e : s' = s
  · rw [if_pos e, if_pos e, (n16_clr _ (nib_lt k s')).1]
  · rw [if_neg e, if_neg e, (n16_clr _ (nib_lt k s')).2]
def KI (tn : TnS) (t kc : Int64) (l i : Nat) (k : Int64) : Prop :=
  ∀ s, s < 16 → ((s < i → GO tn t l (nS tn) (nib t s / 2) → nib k s = 0) ∧ (¬ (s < i ∧ GO tn t l (nS tn) (nib t s / 2)) → nib k s = nib kc s))
theorem letGo60 (hT : TW tn) (hR : TR ri tn) (hC : CW tn t) (hl : l < nL tn) (hK : KR tn kc t) {x3 : Int32} (hx : ∀ z, z < 32 → (bitB x3 z = true ↔ GO tn t l (nS tn) z)) (mo0 : MoS) :
    ∀ rem n i (mo : MoS), i + rem = nS tn → rem < n → KI tn t kc l i (Mo_key mo) → Mo_plus mo = Mo_plus mo0 → Mo_seed mo = Mo_seed mo0 →
    Ok (f_X4_letGo_L60 n (nI l) x3 (nI i) mo ri) (fun mo' => Mo_parted mo' = nI l ∧ Mo_plus mo' = Mo_plus mo0 ∧ Mo_seed mo' = Mo_seed mo0 ∧ KI tn t kc l (nS tn) (Mo_key mo')) := by
  have h14 := hT.s14
  intro rem
  induction rem with
  | zero =>
    intro n i mo hi hn h e1 e2
    cases n with
    | zero => omega
    | succ n =>
      rw [f_X4_letGo_L60, hR.S, if_pos (nI_le (by omega) (by omega)), lt1_e, Ok_some]
      obtain rfl : i = nS tn := by omega
      exact ⟨rfl, e1, e2, h⟩
  | succ rem ih =>
    intro n i mo hi hn h e1 e2
    cases n with
    | zero => omega
    | succ n =>
      have hi2 : i < nS tn := by omega
      have hnt := nib_lt t i
      have hp : f_X4_passAt (Mo_key mo) (nI i) = some (if nib t i = 15 then -1 else nI (nib t i)) := by
        rw [← hK.pass h14 hi2, passAt_e _ _ (by omega), passAt_e _ _ (by omega), (h i (by omega)).2 (fun e => absurd e.1 (by omega))]
      have stay : ¬ GO tn t l (nS tn) (nib t i / 2) → KI tn t kc l (i + 1) (Mo_key mo) := fun g s hs => ⟨fun h1 h2 => by
          by_cases e : s = i
          · rw [e] at h2; exact absurd h2 g
          · exact (h s hs).1 (by omega) h2, fun h1 => (h s hs).2 (fun e => h1 ⟨by omega, e.2⟩)⟩
      rw [f_X4_letGo_L60, hR.S, if_neg (nI_ge (show i < nS tn by omega) (by omega)), bd1_e hp]
      unfold f_X4_letGo_L118
      simp only [lt1_e, nI_1]
      by_cases d : nib t i = 15
      · rw [if_pos d, if_pos rfl]
        refine ih n (i + 1) mo (by omega) (by omega) (stay ?_) e1 e2
        rintro ⟨a, h1, h2, h3, h4⟩
        have := hC.1 a (by omega) h3
        have := hT.x7
        omega
      · rw [if_neg d, if_neg (by rw [nI_neg1 (by omega)]; exact id), li_2, nI_div (by omega) (by omega), shr_1 _ _ (by omega)]
        by_cases g : bitB x3 (nib t i / 2) = true
        · have gg := (hx _ (by omega)).mp g
          rw [g, if_neg (by decide)]
          refine ih n (i + 1) _ (by omega) (by omega) (fun s hs => ?_) e1 e2
          show (s < i + 1 → _ → nib (Mo_key mo &&& (((15 : Int64) <<< (Int32.toInt64 ((4 : Int32) * nI i) &&& 63)) ^^^ (-1 : Int64))) s = 0) ∧ (_ → nib (Mo_key mo &&& (((15 : Int64) <<< (Int32.toInt64 ((4 : Int32) * nI i) &&& 63)) ^^^ (-1 : Int64))) s = _)
          rw [nib_clr _ _ _ (by omega) hs]
          by_cases e : s = i
          · subst e
            rw [if_pos rfl]
            exact ⟨fun _ _ => rfl, fun h1 => absurd ⟨by omega, gg⟩ h1⟩
          · rw [if_neg e]
            exact ⟨fun h1 h2 => (h s hs).1 (by omega) h2, fun h1 => (h s hs).2 (fun e2 => h1 ⟨by omega, e2.2⟩)⟩
        · have gf : bitB x3 (nib t i / 2) = false := by revert g; cases bitB x3 (nib t i / 2) <;> simp
          rw [gf, if_pos (by decide)]
          exact ih n (i + 1) mo (by omega) (by omega) (stay (fun e => g ((hx _ (by omega)).mpr e))) e1 e2
theorem letGo5 (hT : TW tn) (hR : TR ri tn) (hC : CW tn t) (hl : l < nL tn) {mo : MoS} (hK : KR tn (Mo_key mo) t) :
    ∀ rem n i (x3 : Int32), i + rem = nS tn → rem < n → (∀ z, z < 32 → (bitB x3 z = true ↔ GO tn t l i z)) →
    Ok (f_X4_letGo_L5 n (nI l) x3 (nI i) mo ri) (fun mo' => Mo_parted mo' = nI l ∧ Mo_plus mo' = Mo_plus mo ∧ Mo_seed mo' = Mo_seed mo ∧ KI tn t (Mo_key mo) l (nS tn) (Mo_key mo')) := by
  have h14 := hT.s14
  have h8 := hT.l8
  intro rem
  induction rem with
  | zero =>
    intro n i x3 hi hn h
    cases n with
    | zero => omega
    | succ n =>
      rw [f_X4_letGo_L5, hR.S, if_pos (nI_le (by omega) (by omega))]
      obtain rfl : i = nS tn := by omega
      exact letGo60 hT hR hC hl hK h mo (nS tn) FU 0 mo (by omega) (by rw [FU_e]; omega) (fun s hs => ⟨fun e => absurd e (by omega), fun _ => rfl⟩) rfl rfl
  | succ rem ih =>
    intro n i x3 hi hn h
    cases n with
    | zero => omega
    | succ n =>
      have hi2 : i < nS tn := by omega
      have hnt := nib_lt t i
      have hlk := hT.lkL hi2
      rw [f_X4_letGo_L5, hR.S, if_neg (nI_ge (show i < nS tn by omega) (by omega)), bd1_e (hK.pass h14 hi2)]
      unfold f_X4_letGo_L51
      simp only [lt1_e, nI_1]
      by_cases d : nib t i = 15
      · rw [if_pos d, if_pos rfl]
        exact ih n (i + 1) x3 (by omega) (by omega) (fun z hz => (h z hz).trans (by rw [GO_s]; exact ⟨Or.inl, fun e => e.resolve_right (fun e => e.2.1 d)⟩))
      · rw [if_neg d, if_neg (by rw [nI_neg1 (by omega)]; exact id), ckI (by omega) (by decide), nI_clamp (by omega), hR.2.1 i hi2]
        by_cases c : lk tn i = l
        · rw [if_pos (by rw [c]), li_2, nI_div (by omega) (by omega)]
          refine ih n (i + 1) _ (by omega) (by omega) (fun z hz => ?_)
          rw [bit_or, bit_one _ _ (by omega) hz, GO_s, Bool.or_eq_true, h z hz, decide_eq_true_eq]
          exact ⟨fun e => e.elim Or.inl (fun e => Or.inr ⟨c, d, e.symm⟩), fun e => e.elim Or.inl (fun e => Or.inr e.2.2.symm)⟩
        · rw [if_neg (fun e => c (nI_inj e (by omega) (by omega)))]
          exact ih n (i + 1) x3 (by omega) (by omega) (fun z hz => (h z hz).trans (by rw [GO_s]; exact ⟨Or.inl, fun e => e.resolve_right (fun e => c e.1)⟩))
theorem letGo_e (hT : TW tn) (hR : TR ri tn) (hC : CW tn t) (hl : l < nL tn) {mo : MoS} (hK : KR tn (Mo_key mo) t) :
    Ok (f_X4_letGo mo ri (nI l)) (fun mo' => Mo_parted mo' = nI l ∧ Mo_plus mo' = Mo_plus mo ∧ Mo_seed mo' = Mo_seed mo ∧ ∀ u, PD tn t l (nS tn) u → KR tn (Mo_key mo') u) := by
  have h14 := hT.s14
  unfold f_X4_letGo
  refine (letGo5 hT hR hC hl hK (nS tn) FU 0 0 (by omega) (by rw [FU_e]; omega) (fun z hz => ?_)).mono (fun mo' h => ⟨h.1, h.2.1, h.2.2.1, fun u hu s hs => ?_⟩)
  · rw [bit_0]
    exact ⟨fun e => (by cases e), fun ⟨_, e, _⟩ => absurd e (by omega)⟩
  · have hk := h.2.2.2 s hs
    have hk0 := hK s hs
    by_cases c : s < nS tn
    · rw [if_pos c] at hk0 ⊢
      by_cases g : GO tn t l (nS tn) (nib t s / 2)
      · rw [hk.1 c g, hu.1 s c g]
      · rw [hk.2 (fun e => g e.2), hk0, hu.2.1 s c g]
    · rw [if_neg c] at hk0 ⊢
      rw [hk.2 (fun e => c e.1), hk0]
end LETGO
