def BES (tn : TnS) (pt : Option Nat) (t : Int64) (p q : Nat) : Prop := ∃ a b, a < nS tn ∧ b < nS tn ∧ nib t a = p ∧ nib t b = q ∧ a ≠ b ∧ (NX tn pt t a b ∨ NX tn pt t b a)
theorem BES.symm {tn : TnS} {pt : Option Nat} {t : Int64} {p q : Nat} (h : BES tn pt t p q) : BES tn pt t q p := by
  obtain ⟨a, b, h1, h2, h3, h4, h5, h6⟩ := h
  exact ⟨b, a, h2, h1, h4, h3, fun e => h5 e.symm, h6.symm⟩
section MAY
variable {md : MdS} {tn : TnS} {pt : Option Nat} {t : Int64}
theorem oI_neg1 {o : Option Nat} (h : ∀ s, o = some s → s < 2 ^ 31) : oI o = -1 ↔ o = none := by
  cases o with
  | none => exact ⟨fun _ => rfl, fun _ => rfl⟩
  | some s =>
    constructor
    · intro e
      have : nI s = -1 := e
      rw [nI_neg1 (h s rfl)] at this
      exact this.elim
    · intro e; cases e
theorem beside_e (hT : TW tn) (hC : CW tn t) (hL : Looked md tn pt t) {p q : Nat} (hp : p < 15) (hq : q < 15) : f_X13_areBeside md (nI p) (nI q) = some (tf (BES tn pt t p q)) := by
  have h14 := hT.s14
  unfold f_X13_areBeside
  rw [ckI (by omega) (by omega), lt1_e, ckI (by omega) (by omega), lt1_e, nI_clamp (by omega), nI_clamp (by omega), hL.1 p hp, hL.1 q hq]
  cases h1 : spt tn t p with
  | none =>
    rw [if_pos (show oI none = -1 from rfl)]
    refine some_tf ?_ (fun _ => rfl)
    rintro ⟨a, b, ha, _, ea, _⟩
    exact absurd ea (spt_none.mp h1 a ha)
  | some a =>
    obtain ⟨ha, ea⟩ := (spt_some hC (by omega)).mp h1
    have n1 : ¬ oI (some a) = -1 := by
      show ¬ nI a = -1
      rw [nI_neg1 (by omega)]; exact fun h => h
    rw [if_neg n1]
    cases h2 : spt tn t q with
    | none =>
      rw [if_pos (show oI none = -1 from rfl)]
      refine some_tf ?_ (fun _ => rfl)
      rintro ⟨_, b, _, hb, _, eb, _⟩
      exact absurd eb (spt_none.mp h2 b hb)
    | some b =>
      obtain ⟨hb, eb⟩ := (spt_some hC (by omega)).mp h2
      have n2 : ¬ oI (some b) = -1 := by
        show ¬ nI b = -1
        rw [nI_neg1 (by omega)]; exact fun h => h
      rw [if_neg n2]
      have un : ∀ a' b', a' < nS tn → b' < nS tn → nib t a' = p → nib t b' = q → a' = a ∧ b' = b := fun a' b' h1 h2 h3 h4 => ⟨hC.2.1 a' a h1 ha (by rw [h3]; omega) (by rw [h3, ea]), hC.2.1 b' b h2 hb (by rw [h4]; omega) (by rw [h4, eb])⟩
      show (if nI a = nI b then _ else _) = _
      by_cases e : a = b
      · rw [if_pos (by rw [e])]
        refine some_tf ?_ (fun _ => rfl)
        rintro ⟨a', b', h1, h2, h3, h4, h5, _⟩
        obtain ⟨rfl, rfl⟩ := un a' b' h1 h2 h3 h4
        exact absurd e h5
      · have key : ∀ u w, u < nS tn → w < nS tn → nib t u ≠ 15 → (Md_nextOf md u = nI w ↔ NX tn pt t u w) := by
          intro u w hu hw lu
          rcases hL.2 u hu lu with ⟨hv, hn⟩ | ⟨c, hv, hn⟩
          · constructor
            · intro e
              rw [hv] at e
              have := e.symm
              rw [nI_neg1 (by omega)] at this
              exact this.elim
            · intro h; exact absurd h (hn w)
          · constructor
            · intro e
              rw [hv] at e
              rw [← nI_inj e (by have := hn.2.1; omega) (by omega)]
              exact hn
            · intro h
              rw [hv, hn.uniq h]
        rw [if_neg (fun h => e (nI_inj h (by omega) (by omega)))]
        show ck (nI a) 14 _ = _
        rw [ckI (by omega) (by omega)]
        show (if Md_nextOf md (nI a).toNatClampNeg = nI b then _ else _) = _
        rw [nI_clamp (by omega)]
        by_cases c1 : NX tn pt t a b
        · rw [if_pos ((key a b ha hb (by rw [ea]; omega)).mpr c1)]
          exact some_tf (fun _ => rfl) (fun h => absurd ⟨a, b, ha, hb, ea, eb, e, Or.inl c1⟩ h)
        · rw [if_neg (fun h => c1 ((key a b ha hb (by rw [ea]; omega)).mp h))]
          show ck (nI b) 14 (if Md_nextOf md (nI b).toNatClampNeg = nI a then _ else _) = _
          rw [ckI (by omega) (by omega), nI_clamp (by omega)]
          by_cases c2 : NX tn pt t b a
          · rw [if_pos ((key b a hb ha (by rw [eb]; omega)).mpr c2)]
            exact some_tf (fun _ => rfl) (fun h => absurd ⟨a, b, ha, hb, ea, eb, e, Or.inr c2⟩ h)
          · rw [if_neg (fun h => c2 ((key b a hb ha (by rw [eb]; omega)).mp h))]
            refine some_tf ?_ (fun _ => rfl)
            rintro ⟨a', b', h1, h2, h3, h4, _, h6⟩
            obtain ⟨rfl, rfl⟩ := un a' b' h1 h2 h3 h4
            exact absurd h6 (fun h => h.elim c1 c2)
end MAY
def sgnk (tn : TnS) (lf : Int32) (x : Nat) : Int32 := (f_X12_signOf tn (nI x) lf).getD 0
theorem sgn_e {tn : TnS} {lf : Int32} {x : Nat} (hT : TW tn) (hx : x < nX tn) : f_X12_signOf tn (nI x) lf = some (sgnk tn lf x) ∧ (sgnk tn lf x = 1 ∨ sgnk tn lf x = -1) := by
  have h7 := hT.x7
  have h8 := hT.l8
  obtain ⟨c1, c2, c3, c4, c5⟩ := hT.cr hx
  have key : ∃ v : Int32, f_X12_signOf tn (nI x) lf = some v ∧ (v = 1 ∨ v = -1) := by
    unfold f_X12_signOf f_X12_signOf_L30 f_X12_signOf_L43
    simp only [ckI (show x < 7 by omega) (show 7 < 2 ^ 31 by decide), nI_clamp (show x < 2 ^ 31 by omega), c1, c3, ckI (show ov tn x < 8 by omega) (show 8 < 2 ^ 31 by decide), ckI (show un tn x < 8 by omega) (show 8 < 2 ^ 31 by decide)]
    have neg : ∀ v : Int32, v = 1 ∨ v = -1 → (-v = 1 ∨ -v = -1) := by
      rintro v (rfl | rfl) <;> decide
    repeat' split
    all_goals first | exact ⟨_, rfl, c5⟩ | exact ⟨_, rfl, neg _ c5⟩
  obtain ⟨v, e, h⟩ := key
  have e2 : sgnk tn lf x = v := by unfold sgnk; rw [e]; rfl
  rw [e2]
  exact ⟨e, h⟩
theorem signNow_e {md : MdS} {tn : TnS} {x : Nat} (hT : TW tn) (hx : x < nX tn) : f_X13_signNow md tn (nI x) = some (sgnk tn (Md_lifted md) x) := by
  unfold f_X13_signNow
  rw [bd1_e (sgn_e hT hx).1]
def CAN (tn : TnS) (pt : Option Nat) (lf : Int32) (t : Int64) (m : Nat) : Prop :=
  if m < 100 then BES tn pt t (2 * m) (2 * m + 1) else
  if m < 1000 then BES tn pt t (2 * (m / 10 % 10) + 1) (2 * (m % 10) + 1) ∧ BES tn pt t (2 * (m / 10 % 10)) (2 * (m % 10)) ∧ sgnk tn lf (m / 10 % 10) ≠ sgnk tn lf (m % 10)
  else BES tn pt t (2 * (m / 100 % 10) + 1) (2 * (m / 10 % 10) + 1) ∧ BES tn pt t (2 * (m / 100 % 10)) (2 * (m % 10) + 1) ∧ BES tn pt t (2 * (m / 10 % 10)) (2 * (m % 10))
section CAN
variable {md : MdS} {tn : TnS} {pt : Option Nat} {t : Int64}
theorem isMv_0 {X m : Nat} (h : isMv X m = true) (h1 : m < 100) : m < X := by simpa [isMv, h1] using h
theorem isMv_1 {X m : Nat} (h : isMv X m = true) (h1 : ¬ m < 100) (h2 : m < 1000) : m < 200 ∧ m / 10 % 10 < m % 10 ∧ m % 10 < X := by simpa [isMv, h1, h2] using h
theorem isMv_2 {X m : Nat} (h : isMv X m = true) (h1 : ¬ m < 100) (h2 : ¬ m < 1000) : m < 2000 ∧ m / 100 % 10 < X ∧ m / 10 % 10 < X ∧ m % 10 < X ∧ m / 10 % 10 ≠ m % 10 ∧ m / 100 % 10 ≠ m / 10 % 10 ∧ m / 100 % 10 ≠ m % 10 := by simpa [isMv, h1, h2] using h
theorem isMv_lt {X m : Nat} (h : isMv X m = true) : m < 2000 := by
  by_cases h1 : m < 100
  · omega
  · by_cases h2 : m < 1000
    · omega
    · exact (isMv_2 h h1 h2).1
theorem i2 (x : Nat) : (2 : Int32) * nI x = nI (2 * x) := nI_mul 2 x
theorem i21 (x : Nat) : (2 : Int32) * nI x + 1 = nI (2 * x + 1) := by rw [i2, nI_1]
theorem can_e (hT : TW tn) (hC : CW tn t) (hL : Looked md tn pt t) {m : Nat} (hm : isMv (nX tn) m = true) : f_X13_can md tn (nI m) = some (tf (CAN tn pt (Md_lifted md) t m)) := by
  have h7 := hT.x7
  have hlt := isMv_lt hm
  unfold f_X13_can
  rw [lt1_e, lt1_e, lt1_e, x10 (by omega), r10 (by omega), x100 (by omega), bd1_e (kind_e hlt)]
  unfold CAN
  by_cases h1 : m < 100
  · have h3 := isMv_0 hm h1
    rw [if_pos h1, if_pos (by decide), if_pos h1, i21, i2, bd1_e (beside_e hT hC hL (by omega) (by omega)), zb_i (tf_z _)]
  · rw [if_neg h1, if_neg h1]
    by_cases h2 : m < 1000
    · obtain ⟨q1, q2, q3⟩ := isMv_1 hm h1 h2
      rw [if_pos h2, if_neg (by decide), if_pos (by decide), if_pos h2, i21, i21, i2, i2, bd1_e (beside_e hT hC hL (by omega) (by omega)), bd1_e (beside_e hT hC hL (by omega) (by omega)), bd1_e (signNow_e hT (by omega)), bd1_e (signNow_e hT (by omega))]
      by_cases c1 : BES tn pt t (2 * (m / 10 % 10) + 1) (2 * (m % 10) + 1)
      · rw [tf_t c1, if_neg (by decide)]
        by_cases c2 : BES tn pt t (2 * (m / 10 % 10)) (2 * (m % 10))
        · rw [tf_t c2, if_neg (by decide)]
          by_cases c3 : sgnk tn (Md_lifted md) (m / 10 % 10) = sgnk tn (Md_lifted md) (m % 10)
          · rw [if_pos c3, tf_f (fun h => h.2.2 c3)]
          · rw [if_neg c3, tf_t ⟨c1, c2, c3⟩]
        · rw [tf_f c2, if_pos rfl, tf_f (fun h => c2 h.2.1)]
      · rw [tf_f c1, if_pos rfl, tf_f (fun h => c1 h.1)]
    · obtain ⟨_, q1, q2, q3, _⟩ := isMv_2 hm h1 h2
      rw [if_neg h2, if_neg (by decide), if_neg (by decide), if_neg h2, i21, i21, i21, i2, i2, i2, bd1_e (beside_e hT hC hL (by omega) (by omega)), bd1_e (beside_e hT hC hL (by omega) (by omega)), bd1_e (beside_e hT hC hL (by omega) (by omega))]
      by_cases c1 : BES tn pt t (2 * (m / 100 % 10) + 1) (2 * (m / 10 % 10) + 1)
      · rw [tf_t c1, if_neg (by decide)]
        by_cases c2 : BES tn pt t (2 * (m / 100 % 10)) (2 * (m % 10) + 1)
        · rw [tf_t c2, if_neg (by decide)]
          by_cases c3 : BES tn pt t (2 * (m / 10 % 10)) (2 * (m % 10))
          · rw [tf_t c3, if_neg (by decide), tf_t ⟨c1, c2, c3⟩]
          · rw [tf_f c3, if_pos rfl, tf_f (fun h => c3 h.2.2)]
        · rw [tf_f c2, if_pos rfl, tf_f (fun h => c2 h.2.1)]
      · rw [tf_f c1, if_pos rfl, tf_f (fun h => c1 h.1)]
end CAN
