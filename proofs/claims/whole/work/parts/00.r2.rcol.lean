/-! the reference's colours -/
def EQx (p m n : Nat) (md : MdS) (E : Nat → Nat → Nat) : Prop := ∀ i, i < m → ∀ c, c < n → Md_equation md (24 * i + c) = nI (E i c) ∧ E i c < p
theorem i24 (i c : Nat) : (24 : Int32) * nI i + nI c = nI (24 * i + c) := by rw [li_24, nI_mul, nI_add]
/-- alike but for the equations -/
def Qc (md md' : MdS) : Prop := ∃ f, md' = Md_equation' md f
theorem Qc.refl (md : MdS) : Qc md md := ⟨Md_equation md, rfl⟩
theorem Qc.sc {a b : MdS} (h : Qc a b) : Sc a b := by obtain ⟨f, rfl⟩ := h; exact Sc.u_equation _ _
theorem Qc.u {a b : MdS} (h : Qc a b) (f : Nat → Int32) : Qc a (Md_equation' b f) := by obtain ⟨g, rfl⟩ := h; exact ⟨f, rfl⟩
theorem Qc.arcs {a b : MdS} (h : Qc a b) : Md_arcs b = Md_arcs a := by obtain ⟨f, rfl⟩ := h; exact gn_arcs_equation _ _
theorem Qc.spotOf {a b : MdS} (h : Qc a b) : Md_spotOf b = Md_spotOf a := by obtain ⟨f, rfl⟩ := h; exact gn_spotOf_equation _ _
theorem Qc.ahead {a b : MdS} (h : Qc a b) : Md_ahead b = Md_ahead a := by obtain ⟨f, rfl⟩ := h; exact gn_ahead_equation _ _
theorem Qc.after {a b : MdS} (h : Qc a b) : Md_after b = Md_after a := by obtain ⟨f, rfl⟩ := h; exact gn_after_equation _ _
theorem elimz : ∀ p, p = 3 ∨ p = 5 ∨ p = 7 → ∀ x, x < p → ∀ u, u < p → ∀ y, y < p → (u * y) % p = 1 → (x + (p - (x * u) % p) * y) % p = 0 := by
  rintro p (rfl | rfl | rfl)
  · decide
  · decide
  · decide
section RCOL
variable {p m n : Nat}
theorem sub_e {p : Nat} {a b : Nat} (h : b ≤ a) : nI a - nI b = nI (a - b) := nI_sub h
theorem row_L (hp : p = 3 ∨ p = 5 ∨ p = 7) (hm : m ≤ 7) (hn : n ≤ 15) {r col e by_ : Nat} (hr : r < m) (he : e < m) (hre : r ≠ e) (hb : by_ < p) {E : Nat → Nat → Nat} (K : Int32 → Int32 → Int32 → Int32 → Int32 → MdS → Option (Int32 × MdS)) (Q : Int32 × MdS → Prop) {md0 : MdS} (har : Md_arcs md0 = nI n) :
    ∀ f k md, n - k < f → k ≤ n → Qc md0 md → EQx p m n md (fun i c => if i = e ∧ c < k then (E i c + (p - by_) * E r c) % p else E i c) → EQx p m n md0 E →
    (∀ md', Qc md0 md' → EQx p m n md' (fun i c => if i = e then (E i c + (p - by_) * E r c) % p else E i c) → Ok (K (nI p) (nI m) (nI r) (nI col) (nI (e + 1)) md') Q) →
    Ok (f_X13_coloursNow_L320 f (nI p) (nI m) (nI r) (nI col) (nI e) (nI by_) (nI k) md K) Q := by
  have hp7 : p ≤ 7 ∧ 3 ≤ p := by omega
  intro f
  induction f with
  | zero => intro k md h; omega
  | succ f ih =>
    intro k md hf hk hq hE hE0 hK
    rw [f_X13_coloursNow_L320, hq.arcs, har]
    by_cases hkn : k = n
    · subst hkn
      rw [if_pos (nI_le (Nat.le_refl _) (by omega)), lt1_e, nI_1]
      refine hK md hq (fun i hi c hc => ?_)
      have := hE i hi c hc
      by_cases e2 : i = e
      · simp only [e2, hc, and_self, if_true] at this ⊢
        exact this
      · simp only [e2, false_and, if_false] at this ⊢
        exact this
    · have hk2 : k < n := by omega
      obtain ⟨a1, a2⟩ := hE e he k hk2
      obtain ⟨b1, b2⟩ := hE r hr k hk2
      simp only [Nat.lt_irrefl, and_false, if_false] at a1 a2
      simp only [hre, false_and, if_false] at b1 b2
      have hprod : (p - by_) * E r k ≤ 7 * 7 := Nat.mul_le_mul (by omega) (by omega)
      rw [if_neg (nI_ge hk2 (by omega)), i24, i24, ckI (by omega) (by decide), ckI (by omega) (by decide), nz_i (nI_ne0 (by omega) (by omega)), ckI (by omega) (by decide), lt1_e, lt1_e, nI_1, nI_clamp (by omega), nI_clamp (by omega), a1, b1, nI_sub (by omega), nI_mul, nI_add, nI_rem (by omega) (by omega)]
      refine ih (k + 1) _ (by omega) (by omega) (hq.u _) (fun i hi c hc => ?_) hE0 hK
      rw [gs_equation]
      by_cases e1 : i = e ∧ c = k
      · obtain ⟨rfl, rfl⟩ := e1
        rw [upd_at]
        simp only [true_and, show c < c + 1 by omega, if_true]
        exact Nat.mod_lt _ (by omega)
      · rw [upd_ne (by omega)]
        have := hE i hi c hc
        by_cases e2 : i = e
        · subst e2
          have : c ≠ k := fun h => e1 ⟨rfl, h⟩
          simp only [true_and] at *
          by_cases e3 : c < k
          · simp only [e3, if_true, show c < k + 1 by omega] at *
            assumption
          · simp only [e3, if_false, show ¬ c < k + 1 by omega] at *
            assumption
        · simp only [e2, false_and, if_false] at *
          assumption
theorem rows_L (hp : p = 3 ∨ p = 5 ∨ p = 7) (hm : m ≤ 7) (hn : n ≤ 15) {r col : Nat} (hr : r < m) (hc : col < n) {E : Nat → Nat → Nat} (hpiv : E r col ≠ 0) (K : Int32 → Int32 → Int32 → Int32 → MdS → Option (Int32 × MdS)) (Q : Int32 × MdS → Prop) {md0 : MdS} (har : Md_arcs md0 = nI n) :
    ∀ f k md E', m - k < f → r < k → k ≤ m → Qc md0 md → EQx p m n md E' → CLR p m n r col k E E' → (∀ i, i < m → (i ≤ r ∨ k ≤ i) → ∀ c, c < n → E' i c = E i c) →
    (∀ md' E'', Qc md0 md' → EQx p m n md' E'' → CLR p m n r col m E E'' → Ok (K (nI p) (nI m) (nI (r + 1)) (nI (col + 1)) md') Q) →
    Ok (f_X13_coloursNow_L277 f (nI p) (nI m) (nI r) (nI col) (nI k) md K) Q := by
  have hp7 : p ≤ 7 ∧ 3 ≤ p := by omega
  intro f
  induction f with
  | zero => intro k md E' h; omega
  | succ f ih =>
    intro k md E' hf hrk hk hq hE hC hsame hK
    rw [f_X13_coloursNow_L277]
    by_cases e : k = m
    · subst e
      rw [if_pos (nI_le (Nat.le_refl _) (by omega)), lt1_e, nI_1]
      unfold f_X13_coloursNow_L390
      rw [lt1_e, nI_1]
      exact hK md E' hq hE hC
    · have hk2 : k < m := by omega
      have er : ∀ c, c < n → E' r c = E r c := hsame r hr (Or.inl (Nat.le_refl _))
      have ek : ∀ c, c < n → E' k c = E k c := hsame k hk2 (Or.inr (Nat.le_refl _))
      obtain ⟨a1, a2⟩ := hE k hk2 col hc
      obtain ⟨b1, b2⟩ := hE r hr col hc
      obtain ⟨u, u1, u2, u3⟩ := turned_s p hp (E' r col) b2 (by rw [er col hc]; exact hpiv)
      have hprod : E' k col * u ≤ 7 * 7 := Nat.mul_le_mul (by omega) (by omega)
      rw [if_neg (nI_ge hk2 (by omega)), i24, i24, ckI (by omega) (by decide), ckI (by omega) (by decide), nI_clamp (by omega), nI_clamp (by omega), a1, b1, bd1_e u2, nz_i (nI_ne0 (by omega) (by omega)), lt1_e, nI_mul, nI_rem (by omega) (by omega)]
      have hb : (E' k col * u) % p < p := Nat.mod_lt _ (by omega)
      refine row_L hp hm hn hr hk2 (by omega) hb (E := E') _ _ (md0 := md) (hq.arcs.trans har) FU 0 md (by rw [FU_e]; omega) (by omega) (Qc.refl md) (fun i hi c hc => by
        have := hE i hi c hc
        simp only [Nat.not_lt_zero, and_false, if_false]
        exact this) hE (fun md' q1 q2 => ?_)
      have hq' : Qc md0 md' := by obtain ⟨g, rfl⟩ := q1; exact hq.u g
      refine ih (k + 1) md' _ (by omega) (by omega) (by omega) hq' q2 ⟨fun i hi h d hd => ?_, fun i h1 h2 h3 => ?_⟩ (fun i hi h c hc => ?_) hK
      · simp only [if_neg (show ¬ i = k by omega)]
        exact hC.1 i hi (by omega) d hd
      · by_cases e2 : i = k
        · subst e2
          simp only [if_true]
          refine ⟨1, p - (E' i col * u) % p, by rw [Nat.mod_eq_of_lt (by omega)]; decide, fun d hd => ?_, ?_⟩
          · rw [Nat.mod_mod, Nat.one_mul, ek d hd, er d hd]
          · rw [Nat.mod_mod]
            exact elimz p hp _ a2 u u1 _ b2 u3
        · simp only [if_neg e2]
          exact hC.2 i h1 (by omega) h3
      · simp only [if_neg (show ¬ i = k by omega)]
        exact hsame i hi (by omega) c hc
theorem swap_L (hp : p = 3 ∨ p = 5 ∨ p = 7) (hm : m ≤ 7) (hn : n ≤ 15) {r j : Nat} {col : Int32} (hr : r < m) (hj : j < m) {E : Nat → Nat → Nat} (K : Int32 → Int32 → Int32 → Int32 → MdS → Option (Int32 × MdS)) (Q : Int32 × MdS → Prop) {md0 : MdS} (har : Md_arcs md0 = nI n) :
    ∀ f k md, n - k < f → k ≤ n → Qc md0 md → EQx p m n md (fun i c => if c < k then E (swp r j i) c else E i c) →
    (∀ md', Qc md0 md' → EQx p m n md' (fun i => E (swp r j i)) → Ok (f_X13_coloursNow_L277 FU (nI p) (nI m) (nI r) col (nI (r + 1)) md' K) Q) →
    Ok (f_X13_coloursNow_L203 f (nI p) (nI m) (nI r) col (nI j) (nI k) md K) Q := by
  have hp7 : p ≤ 7 ∧ 3 ≤ p := by omega
  intro f
  induction f with
  | zero => intro k md h; omega
  | succ f ih =>
    intro k md hf hk hq hE hK
    rw [f_X13_coloursNow_L203, hq.arcs, har]
    by_cases hkn : k = n
    · subst hkn
      rw [if_pos (nI_le (Nat.le_refl _) (by omega)), lt1_e, nI_1]
      refine hK md hq (fun i hi c hc => ?_)
      have := hE i hi c hc
      simp only [hc, if_true] at this
      exact this
    · have hk2 : k < n := by omega
      obtain ⟨a1, a2⟩ := hE j hj k hk2
      obtain ⟨b1, b2⟩ := hE r hr k hk2
      simp only [Nat.lt_irrefl, if_false] at a1 a2 b1 b2
      rw [if_neg (nI_ge hk2 (by omega)), i24, i24, ckI (by omega) (by decide), lt1_e, ckI (by omega) (by decide), ckI (by omega) (by decide), lt1_e, ckI (by omega) (by decide), lt1_e, lt1_e, nI_1, nI_clamp (by omega), nI_clamp (by omega), a1, b1]
      refine ih (k + 1) _ (by omega) (by omega) ((hq.u _).u _) (fun i hi c hc => ?_) hK
      rw [gs_equation, gs_equation]
      have old := hE i hi c hc
      by_cases e1 : c = k
      · subst e1
        simp only [show c < c + 1 by omega, if_true]
        simp only [Nat.lt_irrefl, if_false] at old
        unfold swp
        by_cases e2 : i = r
        · subst e2
          rw [upd_at, if_pos rfl]
          exact ⟨rfl, a2⟩
        · rw [upd_ne (by omega), if_neg e2]
          by_cases e3 : i = j
          · subst e3
            rw [upd_at, if_pos rfl]
            exact ⟨rfl, b2⟩
          · rw [upd_ne (by omega), if_neg e3]
            exact old
      · rw [upd_ne (by omega), upd_ne (by omega)]
        by_cases e3 : c < k
        · simp only [e3, if_true, show c < k + 1 by omega] at old ⊢
          exact old
        · simp only [e3, if_false, show ¬ c < k + 1 by omega] at old ⊢
          exact old
theorem rrank_L (hp : p = 3 ∨ p = 5 ∨ p = 7) (hm : m ≤ 7) (hn : n ≤ 15) {E0 : Nat → Nat → Nat} {md0 : MdS} (har : Md_arcs md0 = nI n) :
    ∀ f c r md E pc, n - c < f → c ≤ n → Qc md0 md → EQx p m n md E → PRG p m n r c E0 E pc → Ok (f_X13_coloursNow_L151 f (nI p) (nI m) (nI r) (nI c) md) (fun q => Qc md0 q.2 ∧ ∃ r E pc, r ≤ m ∧ q.1 = nI n - nI r ∧ PRG p m n r n E0 E pc) := by
  have hp7 : p ≤ 7 ∧ 3 ≤ p := by omega
  intro f
  induction f with
  | zero => intro c r md E pc h; omega
  | succ f ih =>
    intro c r md E pc hf hc hq hE hG
    have hrm := hG.1
    rw [f_X13_coloursNow_L151, hq.arcs, har]
    by_cases e : c = n
    · subst e
      rw [if_pos (nI_le (Nat.le_refl _) (by omega)), Ok_some]
      exact ⟨hq, r, E, pc, hrm, rfl, hG⟩
    · have hc2 : c < n := by omega
      rw [if_neg (nI_ge hc2 (by omega))]
      have find : ∀ g k, m - k < g → r ≤ k → k ≤ m → (∀ i, r ≤ i → i < k → E i c = 0) → Ok (f_X13_coloursNow_L163 g (nI p) (nI m) (nI r) (nI c) (nI k) md (fun y0 y1 y2 y3 y4 => f_X13_coloursNow_L151 f y0 y1 y2 y3 y4)) (fun q => Qc md0 q.2 ∧ ∃ r E pc, r ≤ m ∧ q.1 = nI n - nI r ∧ PRG p m n r n E0 E pc) := by
        intro g
        induction g with
        | zero => intro k h; omega
        | succ g ihg =>
          intro k hg hrk hk hz
          rw [f_X13_coloursNow_L163]
          by_cases e2 : k = m
          · subst e2
            rw [if_pos (nI_le (Nat.le_refl _) (by omega))]
            unfold f_X13_coloursNow_L191 f_X13_coloursNow_L390
            rw [if_pos rfl, lt1_e, nI_1]
            exact ih (c + 1) r md E pc (by omega) (by omega) hq hE (hG.none (fun i h1 h2 => by rw [hz i h1 h2]; simp))
          · have hk2 : k < m := by omega
            obtain ⟨a1, a2⟩ := hE k hk2 c hc2
            rw [if_neg (nI_ge hk2 (by omega)), i24, ckI (by omega) (by decide), nI_clamp (by omega), a1]
            by_cases e3 : E k c = 0
            · rw [if_pos (by rw [e3]; rfl), lt1_e, nI_1]
              refine ihg (k + 1) (by omega) (by omega) (by omega) (fun i h1 h2 => ?_)
              by_cases e4 : i = k
              · rw [e4]; exact e3
              · exact hz i h1 (by omega)
            · rw [if_neg (nI_ne0 (by omega) (by omega))]
              unfold f_X13_coloursNow_L191
              rw [if_neg (fun h => by have := nI_inj h (by omega) (by omega); omega)]
              have hG2 : PRG p m n r c E0 (fun i => E (swp r k i)) pc := hG.swap hc2 hrk hk2 (fun _ _ _ _ => rfl)
              have hsw : E (swp r k r) c = E k c := by unfold swp; rw [if_pos rfl]
              refine swap_L hp hm hn (show r < m by omega) hk2 (E := E) _ _ har FU 0 md (by rw [FU_e]; omega) (by omega) hq (fun i hi d hd => by
                simp only [Nat.not_lt_zero, if_false]; exact hE i hi d hd) (fun md2 q1 q2 => ?_)
              refine rows_L (E := fun i => E (swp r k i)) hp hm hn (show r < m by omega) hc2 (by show E (swp r k r) c ≠ 0; rw [hsw]; exact e3) _ _ har FU (r + 1) md2 _ (by rw [FU_e]; omega) (by omega) (by omega) q1 q2 CLR.start (fun _ _ _ _ _ => rfl) (fun md3 E3 k1 k2 k3 => ?_)
              refine ih (c + 1) (r + 1) md3 E3 _ (by omega) (by omega) k1 k2 (hG2.clear (PR_p hp) hc2 (by omega) ?_ k3)
              show E (swp r k r) c % p ≠ 0
              rw [hsw, Nat.mod_eq_of_lt a2]
              exact e3
      exact find FU r (by rw [FU_e]; omega) (Nat.le_refl _) hrm (fun i h1 h2 => by omega)
end RCOL
