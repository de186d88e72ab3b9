section TURN
variable {tn : TnS} {t u kc : Int64} {x : Nat}
def KT (kc : Int64) (x i : Nat) (k : Int64) : Prop := ∀ s, s < 16 → nib k s = if s < i ∧ nib kc s ≠ 0 ∧ (nib kc s - 1) / 2 = x then nib kc s ^^^ ((2 * x + 1) ^^^ (2 * x + 2)) else nib kc s
theorem turn_L (hx : x < 7) (mo0 : MoS) : ∀ rem n i (mo : MoS), i + rem = 14 → rem < n → KT kc x i (Mo_key mo) → Mo_plus mo = Mo_plus mo0 → Mo_seed mo = Mo_seed mo0 → Mo_parted mo = Mo_parted mo0 →
    Ok (f_X4_turnOver_L16 n (nI x) (Int32.toInt64 (nI ((2 * x + 1) ^^^ (2 * x + 2)))) (nI i) mo) (fun mo' => Mo_plus mo' = Mo_plus mo0 ^^^ ((1 : Int32) <<< (nI x &&& 31)) ∧ Mo_seed mo' = Mo_seed mo0 ∧ Mo_parted mo' = Mo_parted mo0 ∧ KT kc x 14 (Mo_key mo')) := by
  intro rem
  induction rem with
  | zero =>
    intro n i mo hi hn h e1 e2 e3
    cases n with
    | zero => omega
    | succ n =>
      obtain rfl : i = 14 := by omega
      rw [f_X4_turnOver_L16, if_pos (by decide), lt1_e, Ok_some]
      exact ⟨by rw [← e1]; rfl, e2, e3, h⟩
  | succ rem ih =>
    intro n i mo hi hn h e1 e2 e3
    cases n with
    | zero => omega
    | succ n =>
      have q14 : ¬ (nI 14 ≤ nI i) := nI_ge (show i < 14 by omega) (by omega)
      have hk := h i (by omega)
      rw [if_neg (fun e => absurd e.1 (by omega))] at hk
      have hb := nib_lt kc i
      have hc := (tov_c x hx).2
      rw [f_X4_turnOver_L16, if_neg (show ¬ ((14 : Int32) ≤ nI i) from q14), bd1_e (passAt_e _ i (by omega)), hk]
      unfold f_X4_turnOver_L63
      simp only [lt1_e, nI_1]
      have stay : ¬ (nib kc i ≠ 0 ∧ (nib kc i - 1) / 2 = x) → KT kc x (i + 1) (Mo_key mo) := fun g s hs => by
        rw [h s hs]
        by_cases e : s = i
        · subst e
          rw [if_neg (fun q => absurd q.1 (by omega)), if_neg (fun q => g q.2)]
        · by_cases c : s < i ∧ nib kc s ≠ 0 ∧ (nib kc s - 1) / 2 = x
          · rw [if_pos c, if_pos ⟨by omega, c.2⟩]
          · rw [if_neg c, if_neg (fun q => c ⟨by omega, q.2⟩)]
      by_cases d : nib kc i = 0
      · rw [if_pos d, if_pos rfl]
        exact ih n (i + 1) mo (by omega) (by omega) (stay (fun q => q.1 d)) e1 e2 e3
      · rw [if_neg d, if_neg (by rw [nI_neg1 (by omega)]; exact id), li_2, nI_div (by omega) (by omega)]
        by_cases c : (nib kc i - 1) / 2 = x
        · rw [if_pos (by rw [c])]
          refine ih n (i + 1) _ (by omega) (by omega) (fun s hs => ?_) e1 e2 e3
          show nib (Mo_key mo ^^^ ((Int32.toInt64 (nI ((2 * x + 1) ^^^ (2 * x + 2)))) <<< (Int32.toInt64 ((4 : Int32) * nI i) &&& 63))) s = _
          rw [nib_xor, nib_shl _ _ _ hc (by omega) hs, h s hs]
          by_cases e : s = i
          · subst e
            rw [if_neg (fun q => absurd q.1 (by omega)), if_pos rfl, if_pos ⟨by omega, d, c⟩]
          · rw [if_neg e, Nat.xor_zero]
            by_cases c2 : s < i ∧ nib kc s ≠ 0 ∧ (nib kc s - 1) / 2 = x
            · rw [if_pos c2, if_pos ⟨by omega, c2.2⟩]
            · rw [if_neg c2, if_neg (fun q => c2 ⟨by omega, q.2⟩)]
        · rw [if_neg (fun e => c (nI_inj e (by omega) (by omega)))]
          exact ih n (i + 1) mo (by omega) (by omega) (stay (fun q => c q.2)) e1 e2 e3
theorem turnOver_e (hT : TW tn) (hx : x < nX tn) {mo : MoS} (hK : KR tn (Mo_key mo) t) : Ok (f_X4_turnOver mo (nI x)) (fun mo' => Mo_plus mo' = Mo_plus mo ^^^ ((1 : Int32) <<< (nI x &&& 31)) ∧ Mo_seed mo' = Mo_seed mo ∧ Mo_parted mo' = Mo_parted mo ∧ ∀ u, LD tn t x u → KR tn (Mo_key mo') u) := by
  have h7 := hT.x7
  have h14 := hT.s14
  unfold f_X4_turnOver
  rw [lt1_e, (tov_c x (by omega)).1]
  refine (turn_L (kc := Mo_key mo) (by omega) mo 14 FU 0 mo (by omega) (by rw [FU_e]; omega) (fun s hs => by rw [if_neg (fun q => absurd q.1 (by omega))]) rfl rfl rfl).mono (fun mo' h => ⟨h.1, h.2.1, h.2.2.1, fun u hu s hs => ?_⟩)
  have hk := h.2.2.2 s hs
  have h0 := hK s hs
  by_cases c : s < nS tn
  · rw [if_pos c] at h0 ⊢
    rw [hk, h0, hu.1 s c, ← tov_key x (by omega) (nib t s) (nib_lt t s)]
    by_cases d : (nib t s + 1) % 16 ≠ 0 ∧ ((nib t s + 1) % 16 - 1) / 2 = x
    · rw [if_pos ⟨by omega, d⟩, if_pos d]
    · rw [if_neg (fun q => d q.2), if_neg d]
  · rw [if_neg c] at h0 ⊢
    rw [hk, h0, if_neg (fun q => q.2.1 rfl)]
end TURN
