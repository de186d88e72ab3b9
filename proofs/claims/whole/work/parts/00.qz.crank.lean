/-! the class's rows -/
def PIo (co : CoS) : Prop := (∀ i, i < 7 → Co_pi co i < 7) ∧ (∀ i j, i < 7 → j < 7 → Co_pi co i = Co_pi co j → i = j)
def CMx (p m : Nat) (co : CoS) (E : Nat → Nat → Nat) : Prop := ∀ i, i < m → ∀ c, c < 16 → Co_rw co (Co_pi co i) c = nI (E i c) ∧ E i c < p
theorem vaup_at {α : Type} {f : Nat → α} {k : Nat} {x : α} : va_up f k x k = x := if_pos rfl
theorem vaup_ne {α : Type} {f : Nat → α} {k j : Nat} {x : α} (h : j ≠ k) : va_up f k x j = f j := if_neg h
theorem fill_e {N : Nat} (hN : N < 1000) (v : Int32) (f : Nat → Int32) : Ok (f_J7_fill_53178 f N v) (fun g => (∀ i, i < N → g i = v) ∧ ∀ i, N ≤ i → g i = f i) := by
  have key : ∀ n k (g : Nat → Int32), N - k < n → k ≤ N → (∀ i, i < k → g i = v) → (∀ i, k ≤ i → g i = f i) → Ok (f_J7_fill_53178_L5 n v (nI k) (nI N) g N) (fun g => (∀ i, i < N → g i = v) ∧ ∀ i, N ≤ i → g i = f i) := by
    intro n
    induction n with
    | zero => intro k g h; omega
    | succ n ih =>
      intro k g hn hk h1 h2
      rw [f_J7_fill_53178_L5]
      by_cases e : k = N
      · subst e
        rw [if_pos (nI_le (Nat.le_refl _) (by omega)), Ok_some]
        exact ⟨h1, h2⟩
      · rw [if_neg (nI_ge (show k < N by omega) (by omega)), ckI (by omega) (by omega), lt1_e, lt1_e, nI_clamp (by omega), nI_1]
        refine ih (k + 1) _ (by omega) (by omega) (fun i hi => ?_) (fun i hi => ?_)
        · by_cases e2 : i = k
          · rw [e2, upd_at]
          · rw [upd_ne e2]; exact h1 i (by omega)
        · rw [upd_ne (by omega)]; exact h2 i (by omega)
  unfold f_J7_fill_53178
  rw [lt1_e]
  exact key FU 0 f (by rw [FU_e]; omega) (by omega) (fun i h => by omega) (fun _ _ => rfl)
theorem cr_s (co : CoS) (f : Nat → Nat → Int32) : Co_rw (Co_rw' co f) = f := rfl
theorem cr_o (co : CoS) (f : Nat → Nat → Int32) : Co_overArc (Co_rw' co f) = Co_overArc co := rfl
theorem cr_b (co : CoS) (f : Nat → Nat → Int32) : Co_arcBefore (Co_rw' co f) = Co_arcBefore co := rfl
theorem cr_h (co : CoS) (f : Nat → Nat → Int32) : Co_arcBehind (Co_rw' co f) = Co_arcBehind co := rfl
section CRANK
variable {p : Nat} {co : CoS}
def frow (co : CoS) : (Nat → Int32) × (Nat → Int32) × (Nat → Int32) × (Nat → Nat) × Int32 := (Co_overArc co, Co_arcBefore co, Co_arcBehind co, Co_pi co, Co_arcs co)
theorem fillRow_e (hp : p = 3 ∨ p = 5 ∨ p = 7) {j x A B C : Nat} (hj : j < 7) (hx : x < 7) (hA : A < 16) (hB : B < 16) (hC : C < 16) (h1 : Co_overArc co x = nI A) (h2 : Co_arcBefore co x = nI B) (h3 : Co_arcBehind co x = nI C) :
    Ok (f_X2_fillRow co j (nI x) (nI p)) (fun co' => frow co' = frow co ∧ (∀ k, k ≠ j → Co_rw co' k = Co_rw co k) ∧ ∀ c, c < 16 → Co_rw co' j c = nI (rowE p A B C c)) := by
  have hp7 : p ≤ 7 ∧ 3 ≤ p := by omega
  unfold f_X2_fillRow
  rw [ckn_i hj, Ok_bd1]
  refine (fill_e (N := 16) (by decide) 0 (Co_rw co j)).mono (fun g hg => ?_)
  obtain ⟨g1, _⟩ := hg
  -- what stands in the row behind the three sums
  have sums : ∀ (f : Nat → Int32), (∀ c, c < 16 → f c = 0) → ∀ c, c < 16 → upd (upd (upd f A (f A + 2)) B ((upd f A (f A + 2)) B + (nI p - 1))) C ((upd (upd f A (f A + 2)) B ((upd f A (f A + 2)) B + (nI p - 1))) C + (nI p - 1)) c = nI ((if c = A then 2 else 0) + (if c = B then p - 1 else 0) + (if c = C then p - 1 else 0)) := by
    intro f hf c hc
    have e1 : ∀ d, d < 16 → upd f A (f A + 2) d = nI (if d = A then 2 else 0) := fun d hd => by
      by_cases e : d = A
      · rw [e, upd_at, hf A hA, if_pos rfl]; rfl
      · rw [upd_ne e, hf d hd, if_neg e]; rfl
    have ep : nI p - 1 = nI (p - 1) := by rw [li_1, nI_sub (by omega)]
    have e2 : ∀ d, d < 16 → upd (upd f A (f A + 2)) B ((upd f A (f A + 2)) B + (nI p - 1)) d = nI ((if d = A then 2 else 0) + (if d = B then p - 1 else 0)) := fun d hd => by
      by_cases e : d = B
      · rw [e, upd_at, e1 B hB, ep, nI_add, if_pos (rfl : B = B)]
      · rw [upd_ne e, e1 d hd, if_neg e, Nat.add_zero]
    by_cases e : c = C
    · rw [e, upd_at, e2 C hC, ep, nI_add, if_pos (rfl : C = C)]
    · rw [upd_ne e, e2 c hc, if_neg e, Nat.add_zero]
  -- the last loop
  have key : ∀ n k (c1 : CoS), 16 - k < n → k ≤ 16 → frow c1 = frow co → (∀ i, i ≠ j → Co_rw c1 i = Co_rw co i) → (∀ c, c < k → Co_rw c1 j c = nI (rowE p A B C c)) → (∀ c, k ≤ c → c < 16 → Co_rw c1 j c = nI ((if c = A then 2 else 0) + (if c = B then p - 1 else 0) + (if c = C then p - 1 else 0))) →
      Ok (f_X2_fillRow_L48 n (nI p) (nI k) c1 j) (fun co' => frow co' = frow co ∧ (∀ k, k ≠ j → Co_rw co' k = Co_rw co k) ∧ ∀ c, c < 16 → Co_rw co' j c = nI (rowE p A B C c)) := by
    intro n
    induction n with
    | zero => intro k c1 h; omega
    | succ n ih =>
      intro k c1 hn hk f1 f2 f3 f4
      rw [f_X2_fillRow_L48, ckn_i hj]
      by_cases e : k = 16
      · rw [if_pos (by rw [e]; decide), Ok_some]
        subst e
        exact ⟨f1, f2, f3⟩
      · have hk2 : k < 16 := by omega
        have hb : (if k = A then 2 else 0) + (if k = B then p - 1 else 0) + (if k = C then p - 1 else 0) < 37 := by
          have : (if k = A then 2 else 0) ≤ 2 := by split <;> omega
          have : (if k = B then p - 1 else 0) ≤ 6 := by split <;> omega
          have : (if k = C then p - 1 else 0) ≤ 6 := by split <;> omega
          omega
        rw [li_16, if_neg (nI_ge hk2 (by omega)), ckn_i hj, ckI hk2 (by decide), nI_clamp (by omega), f4 k (Nat.le_refl _) hk2, bd1_e (floorMod_0 hp hb), ckn_i hj, ckI hk2 (by decide), lt1_e, lt1_e, nI_1]
        refine ih (k + 1) _ (by omega) (by omega) f1 (fun i hi => ?_) (fun c hc => ?_) (fun c hc hc2 => ?_)
        · show va_up (Co_rw c1) j _ i = _
          rw [vaup_ne hi]; exact f2 i hi
        · show va_up (Co_rw c1) j _ j c = _
          rw [vaup_at]
          by_cases e2 : c = k
          · rw [e2, upd_at]; rfl
          · rw [upd_ne e2]; exact f3 c (by omega)
        · show va_up (Co_rw c1) j _ j c = _
          rw [vaup_at, upd_ne (by omega)]
          exact f4 c (by omega) hc2
  simp only [lt1_e]
  rw [ckI hx (by decide), ckn_i hj, nI_clamp (by omega)]
  show Ok (ck (Co_overArc co x) 16 (ckn j 7 (ck (Co_overArc co x) 16 (ck (nI x) 7 (ckn j 7 (ck (Co_arcBefore co x) 16 (ckn j 7 (ck (Co_arcBefore co x) 16 (ck (nI x) 7 (ckn j 7 (ck (Co_arcBehind co x) 16 (ckn j 7 (ck (Co_arcBehind co x) 16 _))))))))))))) _
  rw [h1, ckI hA (by decide), ckn_i hj, ckI hA (by decide), ckI hx (by decide), ckn_i hj, h2, ckI hB (by decide), ckn_i hj, ckI hB (by decide), ckI hx (by decide), ckn_i hj, h3, ckI hC (by decide), ckn_i hj, ckI hC (by decide)]
  refine key FU 0 _ (by rw [FU_e]; omega) (by omega) rfl (fun i hi => ?_) (fun c h => by omega) (fun c _ hc => ?_)
  · show va_up (va_up (va_up (va_up (Co_rw co) j g) j _) j _) j _ i = _
    rw [vaup_ne hi, vaup_ne hi, vaup_ne hi, vaup_ne hi]
  · simp only [cr_s, cr_o, cr_b, cr_h, vaup_at, h1, h2, h3, nI_clamp (show A < 2 ^ 31 by omega), nI_clamp (show B < 2 ^ 31 by omega), nI_clamp (show C < 2 ^ 31 by omega)]
    exact sums g g1 c hc
end CRANK
