/-! what is told so far: the class's Told and the reference's Tangle -/
def TBu (to : ToS) (rd : TnS) (P L X : Nat) : Prop :=
  (P ≤ 8 ∧ L ≤ 8 ∧ X ≤ 7) ∧ (To_people to = nI P ∧ Tn_people rd = nI P ∧ To_links to = nI L ∧ Tn_links rd = nI L ∧ To_crossings to = nI X ∧ Tn_crossings rd = nI X ∧ Tn_names rd = nI (P + L))
def TBh (to : ToS) (rd : TnS) (P L X : Nat) : Prop :=
  ((To_begun to = 0 ∧ Tn_height rd = -1 ∧ P = 0 ∧ L = 0 ∧ X = 0 ∧ To_once to = 0) ∨ (To_begun to = 1 ∧ ∃ h, h < 100 ∧ To_tall to = nI h ∧ Tn_height rd = nI h)) ∧ To_once to = Tn_once rd ∧ (Tn_once rd = 0 ∨ Tn_once rd = 1)
def TBm (to : ToS) (rd : TnS) (P L : Nat) : Prop :=
  (∀ k, k < P + L → (∃ p, p < P ∧ Tn_nameSort rd k = 0 ∧ Tn_nameNumber rd k = nI p ∧ Tn_name rd k = To_personNames to p) ∨ (∃ l, l < L ∧ Tn_nameSort rd k = 1 ∧ Tn_nameNumber rd k = nI l ∧ Tn_name rd k = To_linkNames to l)) ∧
  (∀ p, p < P → ∃ k, k < P + L ∧ Tn_nameSort rd k = 0 ∧ Tn_nameNumber rd k = nI p ∧ Tn_name rd k = To_personNames to p) ∧
  (∀ l, l < L → ∃ k, k < P + L ∧ Tn_nameSort rd k = 1 ∧ Tn_nameNumber rd k = nI l ∧ Tn_name rd k = To_linkNames to l) ∧
  (∀ k k', k < P + L → k' < P + L → Tn_name rd k = Tn_name rd k' → k = k')
def TBp (to : ToS) (rd : TnS) (P : Nat) : Prop := ∀ p, p < P → ∃ t, 1 ≤ t ∧ t < 100 ∧ To_talls to p = nI t ∧ Tn_tall rd p = nI t
def hdB (to : ToS) (h : Nat) : Bool := !decide (To_linkIn to h = -1)
def TBl (to : ToS) (rd : TnS) (P L : Nat) : Prop :=
  (∀ l, l < L → ∃ h g, (h < 2 * P ∧ g < 2 * P ∧ h / 2 ≠ g / 2) ∧ (To_handAt to (2 * l) = nI h ∧ To_handAt to (2 * l + 1) = nI g) ∧ (Tn_one rd l = nI (h / 2) ∧ Tn_oneHand rd l = nI (h % 2) ∧ Tn_two rd l = nI (g / 2) ∧ Tn_twoHand rd l = nI (g % 2)) ∧ To_linkIn to h = nI l ∧ To_linkIn to g = nI l) ∧
  (∀ h, h < 16 → To_linkIn to h = -1 ∨ ∃ l, l < L ∧ To_linkIn to h = nI l ∧ (To_handAt to (2 * l) = nI h ∨ To_handAt to (2 * l + 1) = nI h)) ∧
  (∀ h, h < 2 * P → Tn_linkOf rd h = To_linkIn to h) ∧ (∀ h, 2 * P ≤ h → h < 16 → To_linkIn to h = -1) ∧ (List.range 16).countP (hdB to) = 2 * L
def TBc (to : ToS) (rd : TnS) (L X : Nat) : Prop :=
  (∀ x, x < X → ∃ lo po lu pu, (lo < L ∧ 1 ≤ po ∧ po ≤ 9 ∧ lu < L ∧ 1 ≤ pu ∧ pu ≤ 9) ∧ (Tn_over rd x = nI lo ∧ To_linkOver to x = nI lo ∧ Tn_overAt rd x = nI po ∧ To_passes to (10 * lo + po) = nI (2 * x + 2)) ∧ (Tn_under rd x = nI lu ∧ To_linkUnder to x = nI lu ∧ Tn_underAt rd x = nI pu ∧ To_passes to (10 * lu + pu) = nI (2 * x + 1)) ∧ Tn_sign rd x = (if bitB (To_plus to) x = true then 1 else -1)) ∧
  (∀ z, X ≤ z → z < 32 → bitB (To_plus to) z = false) ∧
  (∀ l q, l < 8 → q < 10 → To_passes to (10 * l + q) = 0 ∨ ∃ x, x < X ∧ ((To_passes to (10 * l + q) = nI (2 * x + 2) ∧ Tn_over rd x = nI l ∧ Tn_overAt rd x = nI q) ∨ (To_passes to (10 * l + q) = nI (2 * x + 1) ∧ Tn_under rd x = nI l ∧ Tn_underAt rd x = nI q))) ∧
  (∀ l q, l < 8 → q < 10 → (bitB (Tn_usedAt rd l) q = true ↔ To_passes to (10 * l + q) ≠ 0))
def TB (to : ToS) (rd : TnS) (P L X : Nat) : Prop := TBu to rd P L X ∧ TBh to rd P L X ∧ TBm to rd P L ∧ TBp to rd P ∧ TBl to rd P L ∧ TBc to rd L X
section NAMES
variable {to : ToS} {rd : TnS} {P L X : Nat}
theorem idx_L {ra : Nat → Int64} {N : Nat} (hN : N ≤ 8) {w : Int64} : ∀ f i, N - i < f → i ≤ N → (∀ j, j < i → ra j ≠ w) → (∃ p, p < N ∧ ra p = w ∧ f_X9_indexOf_L3 f (nI N) w (nI i) ra = some (nI p)) ∨ ((∀ p, p < N → ra p ≠ w) ∧ f_X9_indexOf_L3 f (nI N) w (nI i) ra = some (-1)) := by
  intro f
  induction f with
  | zero => intro i h; omega
  | succ f ih =>
    intro i hf hi hno
    rw [f_X9_indexOf_L3]
    by_cases c : i = N
    · refine Or.inr ⟨fun p hp => hno p (by omega), ?_⟩
      rw [if_pos (nI_le (by omega) (by omega))]
    · have q : ¬ (nI 8 ≤ nI i) := nI_ge (by omega) (by omega)
      rw [if_neg (nI_ge (show i < N by omega) (by omega)), if_neg (show ¬ ((8 : Int32) ≤ nI i) from q), ckI (by omega) (by decide), nI_clamp (by omega)]
      by_cases d : ra i = w
      · rw [if_pos (lg0.mpr d)]
        exact Or.inl ⟨i, by omega, d, rfl⟩
      · rw [if_neg (fun e => d (lg0.mp e)), lt1_e, nI_1]
        refine ih (i + 1) (by omega) (by omega) (fun j hj => ?_)
        by_cases e : j = i
        · rw [e]; exact d
        · exact hno j (by omega)
theorem idx_e {ra : Nat → Int64} {N : Nat} (hN : N ≤ 8) (w : Int64) : (∃ p, p < N ∧ ra p = w ∧ f_X9_indexOf ra (nI N) w = some (nI p)) ∨ ((∀ p, p < N → ra p ≠ w) ∧ f_X9_indexOf ra (nI N) w = some (-1)) :=
  idx_L hN FU 0 (by rw [FU_e]; omega) (by omega) (fun j hj => absurd hj (by omega))
theorem find_L {N : Nat} (hn : Tn_names rd = nI N) (hN : N ≤ 16) {w : Int64} : ∀ f i, N - i < f → i ≤ N → (∀ j, j < i → Tn_name rd j ≠ w) → (∃ k, k < N ∧ Tn_name rd k = w ∧ f_X12_find_L2 f w (nI i) rd = some (nI k)) ∨ ((∀ k, k < N → Tn_name rd k ≠ w) ∧ f_X12_find_L2 f w (nI i) rd = some (-1)) := by
  intro f
  induction f with
  | zero => intro i h; omega
  | succ f ih =>
    intro i hf hi hno
    rw [f_X12_find_L2, hn]
    by_cases c : i = N
    · refine Or.inr ⟨fun p hp => hno p (by omega), ?_⟩
      rw [if_pos (nI_le (by omega) (by omega))]
    · rw [if_neg (nI_ge (show i < N by omega) (by omega)), ckI (by omega) (by decide), nI_clamp (by omega)]
      by_cases d : Tn_name rd i = w
      · rw [if_pos (lg0.mpr d)]
        exact Or.inl ⟨i, by omega, d, rfl⟩
      · rw [if_neg (fun e => d (lg0.mp e)), lt1_e, nI_1]
        refine ih (i + 1) (by omega) (by omega) (fun j hj => ?_)
        by_cases e : j = i
        · rw [e]; exact d
        · exact hno j (by omega)
theorem find_e {N : Nat} (hn : Tn_names rd = nI N) (hN : N ≤ 16) (w : Int64) : (∃ k, k < N ∧ Tn_name rd k = w ∧ f_X12_find rd w = some (nI k)) ∨ ((∀ k, k < N → Tn_name rd k ≠ w) ∧ f_X12_find rd w = some (-1)) :=
  find_L hn hN FU 0 (by rw [FU_e]; omega) (by omega) (fun j hj => absurd hj (by omega))
theorem TB.names (h : TB to rd P L X) (w : Int64) :
    ((f_X12_find rd w = some (-1) ∧ f_X9_personNamed to w = some (-1) ∧ f_X9_linkNamed to w = some (-1) ∧ ∀ k, k < P + L → Tn_name rd k ≠ w) ∨
     (∃ k p, k < P + L ∧ p < P ∧ f_X12_find rd w = some (nI k) ∧ Tn_nameSort rd k = 0 ∧ Tn_nameNumber rd k = nI p ∧ f_X9_personNamed to w = some (nI p) ∧ f_X9_linkNamed to w = some (-1)) ∨
     (∃ k l, k < P + L ∧ l < L ∧ f_X12_find rd w = some (nI k) ∧ Tn_nameSort rd k = 1 ∧ Tn_nameNumber rd k = nI l ∧ f_X9_personNamed to w = some (-1) ∧ f_X9_linkNamed to w = some (nI l))) := by
  obtain ⟨⟨⟨hP8, hL8, hX7⟩, n1, n2, n3, n4, n5, n6, n7⟩, _, ⟨m1, m2, m3, m4⟩, _⟩ := h
  unfold f_X9_personNamed f_X9_linkNamed
  rw [n1, n3]
  rcases find_e n7 (by omega) w with ⟨k, hk, e1, e2⟩ | ⟨h1, h2⟩
  · rcases m1 k hk with ⟨p, hp, s1, s2, s3⟩ | ⟨l, hl, s1, s2, s3⟩
    · have hl : f_X9_indexOf (To_linkNames to) (nI L) w = some (-1) := by
        rcases idx_e (ra := To_linkNames to) hL8 w with ⟨l, hl, f1, f2⟩ | ⟨f1, f2⟩
        · exfalso
          obtain ⟨k', hk', g1, g2, g3⟩ := m3 l hl
          have := m4 k k' hk hk' (by rw [e1, g3, f1])
          rw [this, g1] at s1
          exact absurd s1 (by decide)
        · exact f2
      have hp2 : f_X9_indexOf (To_personNames to) (nI P) w = some (nI p) := by
        rcases idx_e (ra := To_personNames to) hP8 w with ⟨p', hp', f1, f2⟩ | ⟨f1, f2⟩
        · obtain ⟨k', hk', g1, g2, g3⟩ := m2 p' hp'
          have := m4 k k' hk hk' (by rw [e1, g3, f1])
          rw [← this, s2] at g2
          rw [f2, g2]
        · exact absurd (s3.symm.trans e1) (f1 p hp)
      exact Or.inr (Or.inl ⟨k, p, hk, hp, e2, s1, s2, by rw [bd1_e hp2], by rw [bd1_e hl]⟩)
    · have hp2 : f_X9_indexOf (To_personNames to) (nI P) w = some (-1) := by
        rcases idx_e (ra := To_personNames to) hP8 w with ⟨p', hp', f1, f2⟩ | ⟨f1, f2⟩
        · exfalso
          obtain ⟨k', hk', g1, g2, g3⟩ := m2 p' hp'
          have := m4 k k' hk hk' (by rw [e1, g3, f1])
          rw [this, g1] at s1
          exact absurd s1 (by decide)
        · exact f2
      have hl2 : f_X9_indexOf (To_linkNames to) (nI L) w = some (nI l) := by
        rcases idx_e (ra := To_linkNames to) hL8 w with ⟨l', hl', f1, f2⟩ | ⟨f1, f2⟩
        · obtain ⟨k', hk', g1, g2, g3⟩ := m3 l' hl'
          have := m4 k k' hk hk' (by rw [e1, g3, f1])
          rw [← this, s2] at g2
          rw [f2, g2]
        · exact absurd (s3.symm.trans e1) (f1 l hl)
      exact Or.inr (Or.inr ⟨k, l, hk, hl, e2, s1, s2, by rw [bd1_e hp2], by rw [bd1_e hl2]⟩)
  · have hp2 : f_X9_indexOf (To_personNames to) (nI P) w = some (-1) := by
      rcases idx_e (ra := To_personNames to) hP8 w with ⟨p', hp', f1, f2⟩ | ⟨f1, f2⟩
      · obtain ⟨k', hk', g1, g2, g3⟩ := m2 p' hp'
        exact absurd (g3.trans f1) (h1 k' hk')
      · exact f2
    have hl2 : f_X9_indexOf (To_linkNames to) (nI L) w = some (-1) := by
      rcases idx_e (ra := To_linkNames to) hL8 w with ⟨l', hl', f1, f2⟩ | ⟨f1, f2⟩
      · obtain ⟨k', hk', g1, g2, g3⟩ := m3 l' hl'
        exact absurd (g3.trans f1) (h1 k' hk')
      · exact f2
    exact Or.inl ⟨h2, by rw [bd1_e hp2], by rw [bd1_e hl2], h1⟩
end NAMES
