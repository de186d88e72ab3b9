section CRANK2
variable {p m : Nat}
theorem bringsUp_e {co : CoS} {E : Nat → Nat → Nat} (hp7 : p ≤ 7) (hm : m ≤ 7) (hPI : PIo co) (hM : CMx p m co E) {r col : Nat} (hr : r ≤ m) (hc : col < 16) :
    Ok (f_X2_bringsUp co (nI r) (nI m) (nI col)) (fun q => (q.1 = 0 ∧ q.2 = co ∧ ∀ i, r ≤ i → i < m → E i col = 0) ∨ (q.1 = 1 ∧ ∃ j, r ≤ j ∧ j < m ∧ E j col ≠ 0 ∧ CMx p m q.2 (fun i => E (swp r j i)) ∧ PIo q.2 ∧ Co_arcs q.2 = Co_arcs co)) := by
  have key : ∀ n k, m - k < n → r ≤ k → k ≤ m → (∀ i, r ≤ i → i < k → E i col = 0) → Ok (f_X2_bringsUp_L3 n (nI r) (nI m) (nI col) (nI k) co) (fun q => (q.1 = 0 ∧ q.2 = co ∧ ∀ i, r ≤ i → i < m → E i col = 0) ∨ (q.1 = 1 ∧ ∃ j, r ≤ j ∧ j < m ∧ E j col ≠ 0 ∧ CMx p m q.2 (fun i => E (swp r j i)) ∧ PIo q.2 ∧ Co_arcs q.2 = Co_arcs co)) := by
    intro n
    induction n with
    | zero => intro k h; omega
    | succ n ih =>
      intro k hn hrk hk hz
      rw [f_X2_bringsUp_L3]
      by_cases e : k = m
      · subst e
        rw [if_pos (nI_le (Nat.le_refl _) (by omega)), Ok_some]
        exact Or.inl ⟨rfl, rfl, hz⟩
      · have hk2 : k < m := by omega
        obtain ⟨e1, e2⟩ := hM k hk2 col hc
        rw [if_neg (nI_ge hk2 (by omega)), ckI (by omega) (by decide), nI_clamp (by omega), ckn_i (hPI.1 k (by omega)), ckI hc (by decide), nI_clamp (by omega), e1]
        by_cases c : E k col = 0
        · rw [if_pos (by rw [c]; rfl), lt1_e, nI_1]
          refine ih (k + 1) (by omega) (by omega) (by omega) (fun i h1 h2 => ?_)
          by_cases e3 : i = k
          · rw [e3]; exact c
          · exact hz i h1 (by omega)
        · rw [if_neg (nI_ne0 (by omega) (by omega)), ckI (by omega) (by decide), ckI (by omega) (by decide), nI_clamp (by omega), ckn_i (hPI.1 r (by omega)), ckI (by omega) (by decide), lt1_e, ckn_i (hPI.1 k (by omega)), ckI (by omega) (by decide), lt1_e, Ok_some]
          refine Or.inr ⟨rfl, k, hrk, hk2, c, ?_⟩
          have hpi : ∀ i, va_up (va_up (Co_pi co) k (Co_pi co r)) r (Co_pi co k) i = Co_pi co (swp r k i) := fun i => by
            unfold swp
            by_cases a : i = r
            · rw [a, vaup_at, if_pos rfl]
            · rw [vaup_ne a, if_neg a]
              by_cases b : i = k
              · rw [b, vaup_at, if_pos rfl]
              · rw [vaup_ne b, if_neg b]
          have s1 : ∀ i, i < m → swp r k i < m := fun i hi => by unfold swp; split <;> (try split) <;> omega
          have s7 : ∀ i, i < 7 → swp r k i < 7 := fun i hi => by unfold swp; split <;> (try split) <;> omega
          have sinj : ∀ i j, swp r k i = swp r k j → i = j := fun i j h => by unfold swp at h; split at h <;> split at h <;> (try split at h) <;> (try split at h) <;> omega
          refine ⟨fun i hi c' hc' => ?_, ⟨fun i hi => ?_, fun i j hi hj h => ?_⟩, rfl⟩
          · show Co_rw co (va_up (va_up (Co_pi co) k (Co_pi co r)) r (Co_pi co k) i) c' = _ ∧ _
            rw [hpi]
            exact hM _ (s1 i hi) c' hc'
          · show va_up (va_up (Co_pi co) k (Co_pi co r)) r (Co_pi co k) i < 7
            rw [hpi]; exact hPI.1 _ (s7 i hi)
          · have h' : va_up (va_up (Co_pi co) k (Co_pi co r)) r (Co_pi co k) i = va_up (va_up (Co_pi co) k (Co_pi co r)) r (Co_pi co k) j := h
            rw [hpi, hpi] at h'
            exact sinj i j (hPI.2 _ _ (s7 i hi) (s7 j hj) h')
  unfold f_X2_bringsUp
  exact key FU r (by rw [FU_e]; omega) (Nat.le_refl _) hr (fun i h1 h2 => by omega)
theorem clear_e (hp : p = 3 ∨ p = 5 ∨ p = 7) {co : CoS} {ei er : Nat → Nat} {j1 j2 col : Nat} (h1 : j1 < 7) (h2 : j2 < 7) (hne : j1 ≠ j2) (hc : col < 16) (hei : ∀ c, c < 16 → Co_rw co j1 c = nI (ei c) ∧ ei c < p) (her : ∀ c, c < 16 → Co_rw co j2 c = nI (er c) ∧ er c < p) (hpiv : er col ≠ 0) :
    Ok (f_X2_clearColumn co j1 j2 (nI col) (nI p)) (fun co' => frow co' = frow co ∧ (∀ k, k ≠ j1 → Co_rw co' k = Co_rw co k) ∧ ∃ F : Nat → Nat, (∀ c, c < 16 → Co_rw co' j1 c = nI (F c) ∧ F c < p) ∧ (∃ α β, α % p ≠ 0 ∧ ∀ c, c < 16 → F c % p = (α * ei c + β * er c) % p) ∧ F col % p = 0) := by
  have hp7 : p ≤ 7 ∧ 3 ≤ p := by omega
  obtain ⟨i1, i2⟩ := hei col hc
  obtain ⟨r1, r2⟩ := her col hc
  unfold f_X2_clearColumn
  rw [ckn_i h1, ckI hc (by decide), lt1_e, ckn_i h2, ckI hc (by decide), lt1_e, nI_clamp (by omega), i1, r1]
  by_cases hz : ei col = 0
  · have : f_X2_clearColumn_L13 FU (nI p) (nI (ei col)) (nI (er col)) 0 co j1 j2 = some co := by
      obtain ⟨N, hN⟩ : ∃ N, FU = N + 1 := ⟨99999, rfl⟩
      rw [hN, f_X2_clearColumn_L13, if_pos (by rw [hz]; rfl)]
    rw [Ok_eq this]
    exact ⟨rfl, fun _ _ => rfl, ei, hei, ⟨1, 0, by rw [Nat.mod_eq_of_lt (by omega)]; decide, fun c _ => by simp⟩, by rw [hz]; simp⟩
  · let F : Nat → Nat := fun c => (ei c * er col + (p - 1) * (er c * ei col)) % p
    have key : ∀ n k (c1 : CoS), 16 - k < n → k ≤ 16 → frow c1 = frow co → (∀ i, i ≠ j1 → Co_rw c1 i = Co_rw co i) → (∀ c, c < k → Co_rw c1 j1 c = nI (F c)) → (∀ c, k ≤ c → c < 16 → Co_rw c1 j1 c = nI (ei c)) →
        Ok (f_X2_clearColumn_L13 n (nI p) (nI (ei col)) (nI (er col)) (nI k) c1 j1 j2) (fun co' => frow co' = frow co ∧ (∀ k, k ≠ j1 → Co_rw co' k = Co_rw co k) ∧ ∃ F : Nat → Nat, (∀ c, c < 16 → Co_rw co' j1 c = nI (F c) ∧ F c < p) ∧ (∃ α β, α % p ≠ 0 ∧ ∀ c, c < 16 → F c % p = (α * ei c + β * er c) % p) ∧ F col % p = 0) := by
      intro n
      induction n with
      | zero => intro k c1 h; omega
      | succ n ih =>
        intro k c1 hn hk f1 f2 f3 f4
        rw [f_X2_clearColumn_L13, if_neg (nI_ne0 (by omega) (by omega)), ckn_i h1]
        by_cases e : k = 16
        · rw [if_pos (by rw [e]; decide), Ok_some]
          subst e
          refine ⟨f1, f2, F, fun c hc => ⟨f3 c hc, Nat.mod_lt _ (by omega)⟩, ⟨er col, (p - 1) * ei col, ?_, fun c _ => ?_⟩, ?_⟩
          · rw [Nat.mod_eq_of_lt r2]; exact hpiv
          · show (ei c * er col + (p - 1) * (er c * ei col)) % p % p = _
            rw [Nat.mod_mod]
            congr 1
            rw [Nat.mul_comm (ei c), Nat.mul_comm (er c), ← Nat.mul_assoc]
          · show (ei col * er col + (p - 1) * (er col * ei col)) % p % p = 0
            rw [Nat.mod_mod, Nat.mul_comm (er col), Nat.add_comm, ← Nat.succ_mul, show (p - 1).succ = p by omega]
            exact Nat.mul_mod_right p _
        · have hk2 : k < 16 := by omega
          have a1 := (hei k hk2).2
          have a2 := (her k hk2).2
          have u1 : ei k * er col < 37 := Nat.lt_of_le_of_lt (Nat.mul_le_mul (show ei k ≤ 6 by omega) (show er col ≤ 6 by omega)) (by decide)
          have u2 : er k * ei col < 37 := Nat.lt_of_le_of_lt (Nat.mul_le_mul (show er k ≤ 6 by omega) (show ei col ≤ 6 by omega)) (by decide)
          rw [li_16, if_neg (nI_ge hk2 (by omega)), ckn_i h2, if_neg (nI_ge hk2 (by omega)), ckn_i h1, ckI hk2 (by decide), ckn_i h2, ckI hk2 (by decide), nI_clamp (by omega), f4 k (Nat.le_refl _) hk2, f2 j2 (fun h => hne h.symm), (her k hk2).1, nI_mul, nI_mul, bd1_e (floorMod_s p hp _ u1 _ u2), ckn_i h1, ckI hk2 (by decide), lt1_e, lt1_e, nI_1]
          refine ih (k + 1) _ (by omega) (by omega) f1 (fun i hi => ?_) (fun c hc => ?_) (fun c hc hc2 => ?_)
          · show va_up (Co_rw c1) j1 _ i = _
            rw [vaup_ne hi]; exact f2 i hi
          · show va_up (Co_rw c1) j1 _ j1 c = _
            rw [vaup_at]
            by_cases e2 : c = k
            · rw [e2, upd_at]
            · rw [upd_ne e2]; exact f3 c (by omega)
          · show va_up (Co_rw c1) j1 _ j1 c = _
            rw [vaup_at, upd_ne (by omega)]
            exact f4 c (by omega) hc2
    exact key FU 0 co (by rw [FU_e]; omega) (by omega) rfl (fun _ _ => rfl) (fun c h => by omega) (fun c _ hc => (hei c hc).1)
theorem rank_rows (hp : p = 3 ∨ p = 5 ∨ p = 7) (hm : m ≤ 7) {n r col : Nat} (hn16 : n ≤ 16) (hr : r < m) (hc : col < n) {E : Nat → Nat → Nat} (hpiv : E r col ≠ 0) (K : Int32 → Int32 → Int32 → Int32 → CoS → Option (Int32 × CoS)) (Q : Int32 × CoS → Prop) {ar : Int32} :
    ∀ f k co E', m - k < f → r < k → k ≤ m → PIo co → CMx p m co E' → Co_arcs co = ar → CLR p m n r col k E E' → (∀ i, i < m → (i ≤ r ∨ k ≤ i) → ∀ c, c < 16 → E' i c = E i c) →
    (∀ co' E'', PIo co' → CMx p m co' E'' → Co_arcs co' = ar → CLR p m n r col m E E'' → Ok (K (nI m) (nI p) (nI (r + 1)) (nI (col + 1)) co') Q) →
    Ok (f_X2_rank_L37 f (nI m) (nI p) (nI r) (nI col) (nI k) co K) Q := by
  have hp7 : p ≤ 7 ∧ 3 ≤ p := by omega
  intro f
  induction f with
  | zero => intro k co E' h; omega
  | succ f ih =>
    intro k co E' hf hrk hk hPI hM har hC hsame hK
    rw [f_X2_rank_L37]
    by_cases e : k = m
    · subst e
      rw [if_pos (nI_le (Nat.le_refl _) (by omega)), lt1_e, nI_1]
      unfold f_X2_rank_L71
      rw [lt1_e, nI_1]
      exact hK co E' hPI hM har hC
    · have hk2 : k < m := by omega
      rw [if_neg (nI_ge hk2 (by omega)), ckI (by omega) (by decide), ckI (by omega) (by decide), nI_clamp (by omega), nI_clamp (by omega), Ok_bd1]
      have er : ∀ c, c < 16 → E' r c = E r c := hsame r hr (Or.inl (Nat.le_refl _))
      have ek : ∀ c, c < 16 → E' k c = E k c := hsame k hk2 (Or.inr (Nat.le_refl _))
      refine (clear_e hp (ei := E' k) (er := E' r) (hPI.1 k (by omega)) (hPI.1 r (by omega)) (fun h => by have := hPI.2 k r (by omega) (by omega) h; omega) (by omega) (hM k hk2) (hM r hr) (by rw [er col (by omega)]; exact hpiv)).mono (fun co2 h => ?_)
      obtain ⟨f1, f2, F, f3, ⟨α, β, f4, f5⟩, f6⟩ := h
      have fpi : Co_pi co2 = Co_pi co := congrArg (fun z => z.2.2.2.1) f1
      have far : Co_arcs co2 = Co_arcs co := congrArg (fun z => z.2.2.2.2) f1
      rw [lt1_e, nI_1]
      refine ih (k + 1) co2 (fun i c => if i = k then F c else E' i c) (by omega) (by omega) (by omega) (by unfold PIo; rw [fpi]; exact hPI) (fun i hi c hc => ?_) (far.trans har) ⟨fun i hi h d hd => ?_, fun i h1 h2 h3 => ?_⟩ (fun i hi h c hc => ?_) hK
      · rw [fpi]
        by_cases e2 : i = k
        · rw [e2]
          simp only [if_pos]
          exact f3 c hc
        · simp only [if_neg e2]
          rw [f2 _ (fun h => e2 (hPI.2 i k (by omega) (by omega) h))]
          exact hM i hi c hc
      · have e2 : i ≠ k := by omega
        simp only [if_neg e2]
        exact hC.1 i hi (by omega) d hd
      · by_cases e2 : i = k
        · subst e2
          simp only [if_pos]
          refine ⟨α, β, f4, fun d hd => ?_, f6⟩
          rw [f5 d (by omega), ek d (by omega), er d (by omega)]
        · simp only [if_neg e2]
          exact hC.2 i h1 (by omega) h3
      · have e2 : i ≠ k := by omega
        simp only [if_neg e2]
        exact hsame i hi (by omega) c hc
theorem rank_e (hp : p = 3 ∨ p = 5 ∨ p = 7) (hm : m ≤ 7) {n : Nat} (hn : n ≤ 15) {co : CoS} {E0 : Nat → Nat → Nat} (hPI : PIo co) (hM : CMx p m co E0) (har : Co_arcs co = nI n) : Ok (f_X2_rank co (nI m) (nI p)) (fun q => PIo q.2 ∧ ∃ r E pc, r ≤ m ∧ q.1 = nI r ∧ PRG p m n r n E0 E pc) := by
  have hp7 : p ≤ 7 ∧ 3 ≤ p := by omega
  have key : ∀ f c r co1 E pc, n - c < f → c ≤ n → PIo co1 → CMx p m co1 E → Co_arcs co1 = nI n → PRG p m n r c E0 E pc → Ok (f_X2_rank_L5 f (nI m) (nI p) (nI r) (nI c) co1) (fun q => PIo q.2 ∧ ∃ r E pc, r ≤ m ∧ q.1 = nI r ∧ PRG p m n r n E0 E pc) := by
    intro f
    induction f with
    | zero => intro c r co1 E pc h; omega
    | succ f ih =>
      intro c r co1 E pc hf hc hPI1 hM1 har1 hG
      have hrm := hG.1
      rw [f_X2_rank_L5, har1]
      by_cases e : c = n
      · subst e
        rw [if_pos (nI_le (Nat.le_refl _) (by omega)), Ok_some]
        exact ⟨hPI1, r, E, pc, hrm, rfl, hG⟩
      · have hc2 : c < n := by omega
        rw [if_neg (nI_ge hc2 (by omega)), li_16, if_neg (nI_ge (show c < 16 by omega) (by omega)), Ok_bd2]
        refine (bringsUp_e hp7.1 hm hPI1 hM1 hrm (by omega)).mono (fun q hq => ?_)
        rcases hq with ⟨q1, q2, q3⟩ | ⟨q1, j, j1, j2, j3, j4, j5, j6⟩
        · rw [if_pos q1, q2]
          unfold f_X2_rank_L71
          rw [lt1_e, nI_1]
          exact ih (c + 1) r co1 E pc (by omega) (by omega) hPI1 hM1 har1 (hG.none (fun i h1 h2 => by rw [q3 i h1 h2]; simp))
        · rw [if_neg (by rw [q1]; decide), lt1_e, nI_1]
          have hG2 : PRG p m n r c E0 (fun i => E (swp r j i)) pc := hG.swap hc2 j1 j2 (fun _ _ _ _ => rfl)
          have hpv : (fun i => E (swp r j i)) r c ≠ 0 := by
            show E (swp r j r) c ≠ 0
            unfold swp
            rw [if_pos rfl]; exact j3
          have hpl := (hM1 j j2 c (by omega)).2
          refine rank_rows (r := r) (E := fun i => E (swp r j i)) hp hm (by omega) (by omega) hc2 hpv _ _ FU (r + 1) q.2 _ (by rw [FU_e]; omega) (by omega) (by omega) j5 j4 (j6.trans har1) CLR.start (fun _ _ _ _ _ => rfl) (fun co2 E2 k1 k2 k3 k4 => ?_)
          refine ih (c + 1) (r + 1) co2 E2 _ (by omega) (by omega) k1 k2 k3 (hG2.clear (PR_p hp) hc2 (by omega) ?_ k4)
          show E (swp r j r) c % p ≠ 0
          have : E (swp r j r) c = E j c := by unfold swp; rw [if_pos rfl]
          rw [this, Nat.mod_eq_of_lt hpl]
          exact j3
  unfold f_X2_rank
  exact key FU 0 0 co E0 (fun _ => 0) (by rw [FU_e]; omega) (by omega) hPI hM har PRG.start
end CRANK2
