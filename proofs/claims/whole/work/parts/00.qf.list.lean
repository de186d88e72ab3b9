/-! the moves that a board lists -/
def CFs (X x y : Nat) : List Nat := (List.range' y (X - y)).map (fun y => 100 + 10 * x + y)
def CFc (X a b c : Nat) : List Nat := (List.range' c (X - c)).map (fun c => 1000 + 100 * a + 10 * b + c)
def CFb (X a b : Nat) : List Nat := (List.range' b (X - b)).flatMap (fun b => CFc X a b 0)
def CF1 (X x : Nat) : List Nat := List.range' x (X - x)
def CF2 (X x : Nat) : List Nat := (List.range' x (X - x)).flatMap (fun x => CFs X x (x + 1))
def CF3 (X a : Nat) : List Nat := (List.range' a (X - a)).flatMap (fun a => CFb X a 0)
def CF (X : Nat) : List Nat := CF1 X 0 ++ (CF2 X 0 ++ CF3 X 0)
theorem CF_all : ∀ X, X ≤ 7 → MR (isMv X) 0 = (CF X).filter (isMv X) ∧ ((CF X).filter (isMv X)).length ≤ 238 := by decide +kernel
theorem r_cons {X y : Nat} (h : y < X) : List.range' y (X - y) = y :: List.range' (y + 1) (X - (y + 1)) := by
  have e : X - y = (X - (y + 1)) + 1 := by omega
  rw [e, List.range'_succ]
theorem r_nil {X y : Nat} (h : X ≤ y) : List.range' y (X - y) = [] := by rw [show X - y = 0 by omega]; rfl
def NI (bo : BoS) (N : List Nat) : Prop := Bo_count bo = nI N.length ∧ ∀ j m, N[j]? = some m → Bo_numbers bo j = nI m
/-- what the listing of moves looks at -/
def GB (tn : TnS) (pt : Option Nat) (lf : Int32) (t : Int64) (bo : BoS) : Prop :=
  (∀ p, p < 2 * nX tn → Bo_standing bo p = oI (spt tn t p)) ∧ BB bo (nX tn) (BES tn pt t) ∧ (∀ x, x < nX tn → (bitB (Bo_plus bo) x = true ↔ sgnk tn lf x = 1))
def gcore (bo : BoS) : BoS := (Bo_key bo, Bo_plus bo, Bo_parted bo, Bo_left bo, Bo_standing bo, Bo_walk bo, Bo_walkStart bo, Bo_overByOver bo, Bo_overByUnder bo, Bo_underByUnder bo, (fun _ => (0 : Int32)), (0 : Int32))
section LIST
variable {ri : RiS} {tn : TnS} {pt : Option Nat} {t : Int64} {lf : Int32} {bo : BoS}
theorem GB.of (h : GB tn pt lf t bo) {bo' : BoS} (e : gcore bo' = gcore bo) : GB tn pt lf t bo' := by
  have e1 : Bo_standing bo' = Bo_standing bo := (congrArg Bo_standing e : Bo_standing (gcore bo') = Bo_standing (gcore bo))
  have e2 : Bo_plus bo' = Bo_plus bo := (congrArg Bo_plus e : Bo_plus (gcore bo') = Bo_plus (gcore bo))
  have e3 : Bo_overByOver bo' = Bo_overByOver bo := (congrArg Bo_overByOver e : Bo_overByOver (gcore bo') = Bo_overByOver (gcore bo))
  have e4 : Bo_overByUnder bo' = Bo_overByUnder bo := (congrArg Bo_overByUnder e : Bo_overByUnder (gcore bo') = Bo_overByUnder (gcore bo))
  have e5 : Bo_underByUnder bo' = Bo_underByUnder bo := (congrArg Bo_underByUnder e : Bo_underByUnder (gcore bo') = Bo_underByUnder (gcore bo))
  refine ⟨by rw [e1]; exact h.1, fun x y hx hy => ?_, by rw [e2]; exact h.2.2⟩
  rw [e3, e4, e5]
  exact h.2.1 x y hx hy
theorem addNumber_e {N : List Nat} {m : Nat} (h : NI bo N) (hl : N.length < 256) : Ok (f_X0_addNumber bo (nI m)) (fun bo' => NI bo' (N ++ [m]) ∧ gcore bo' = gcore bo) := by
  unfold f_X0_addNumber
  rw [h.1, li_256, if_neg (nI_ge hl (by omega)), ckI hl (by omega), lt1_e, lt1_e, nI_clamp (by omega), Ok_some]
  refine ⟨⟨?_, fun j k hj => ?_⟩, rfl⟩
  · show Bo_count bo + 1 = _
    rw [h.1, nI_1, List.length_append]
    rfl
  · show upd (Bo_numbers bo) N.length (nI m) j = _
    by_cases e : j = N.length
    · subst e
      rw [List.getElem?_append_right (Nat.le_refl _), Nat.sub_self] at hj
      cases hj
      rw [upd_at]
    · rw [upd_ne e]
      by_cases h2 : j < N.length
      · rw [List.getElem?_append_left h2] at hj
        exact h.2 j k hj
      · rw [List.getElem?_append_right (by omega), List.getElem?_eq_none (by simp; omega)] at hj
        cases hj
/-- a row of candidates that is gone over -/
noncomputable def Fm (tn : TnS) (pt : Option Nat) (lf : Int32) (t : Int64) (l : List Nat) : List Nat := l.filter (mayB tn pt lf t)
theorem Fm_len (hT : TW tn) {pre rest : List Nat} (h : pre ++ rest = CF (nX tn)) : (Fm tn pt lf t pre).length ≤ 238 := by
  have h1 := (CF_all (nX tn) hT.x7).2
  rw [← h, List.filter_append, List.length_append] at h1
  have h2 : (Fm tn pt lf t pre).length ≤ (pre.filter (isMv (nX tn))).length := by
    unfold Fm
    rw [← List.countP_eq_length_filter, ← List.countP_eq_length_filter]
    exact List.countP_mono_left (fun x _ hx => (mayB_t.mp hx).1)
  omega
def LI (tn : TnS) (pt : Option Nat) (lf : Int32) (t : Int64) (bo0 bo : BoS) (pre : List Nat) : Prop := NI bo (Fm tn pt lf t pre) ∧ gcore bo = gcore bo0
theorem Fm_t {l : List Nat} {m : Nat} (h : mayB tn pt lf t m = true) : Fm tn pt lf t (l ++ [m]) = Fm tn pt lf t l ++ [m] := by
  unfold Fm
  rw [List.filter_append]
  simp [h]
theorem Fm_f {l : List Nat} {m : Nat} (h : mayB tn pt lf t m = false) : Fm tn pt lf t (l ++ [m]) = Fm tn pt lf t l := by
  unfold Fm
  rw [List.filter_append]
  simp [h]
theorem Fm_none {l k : List Nat} (h : ∀ m, m ∈ k → mayB tn pt lf t m = false) : Fm tn pt lf t (l ++ k) = Fm tn pt lf t l := by
  unfold Fm
  have e : k.filter (mayB tn pt lf t) = [] := List.filter_eq_nil_iff.mpr (fun m hm => by rw [h m hm]; decide)
  rw [List.filter_append, e, List.append_nil]
theorem mayB_f {m : Nat} : mayB tn pt lf t m = false ↔ ¬ (isMv (nX tn) m = true ∧ MAY tn pt lf t m) := by
  rw [← mayB_t]
  cases mayB tn pt lf t m <;> simp
theorem fits_e (hT : TW tn) (hC : CW tn t) (hR : TR ri tn) (hG : GB tn pt lf t bo) {x y : Nat} (hx : x < nX tn) (hy : y < nX tn) (lx : LV tn t (2 * x)) (ly : LV tn t (2 * y)) : f_X0_fits bo ri (nI x) (nI y) = some (tf (fitL tn (lk tn (min (sp tn t (2 * x)) (sp tn t (2 * y)))))) := by
  have h7 := hT.x7
  have h14 := hT.s14
  have h8 := hT.l8
  obtain ⟨s1, b1, _⟩ := lv_sp lx hC (by omega)
  obtain ⟨s2, b2, _⟩ := lv_sp ly hC (by omega)
  unfold f_X0_fits f_X0_lowLink
  rw [i2, i2, ckI (by omega) (by omega), lt1_e, ckI (by omega) (by omega), lt1_e, nI_clamp (by omega), nI_clamp (by omega), hG.1 _ (by omega), hG.1 _ (by omega), s1, s2]
  have key : ∀ s, s < nS tn → bd1 (f_X0_lowLink_L38 (nI s) ri) (fun r_1 => ck r_1 8 (zb (Ri_linkFits ri (Int32.toNatClampNeg r_1)) (some (Ri_linkFits ri (Int32.toNatClampNeg r_1))))) = some (tf (fitL tn (lk tn s))) := by
    intro s hs
    have hl := hT.lkL hs
    unfold f_X0_lowLink_L38
    rw [ckI (by omega) (by omega), nI_clamp (by omega), hR.elk hs, bd1_e rfl, ckI (by omega) (by omega), nI_clamp (by omega), hR.fit hl, zb_i (tf_z _)]
  show bd1 (if nI (sp tn t (2 * y)) ≤ nI (sp tn t (2 * x)) then f_X0_lowLink_L38 (nI (sp tn t (2 * y))) ri else f_X0_lowLink_L38 (nI (sp tn t (2 * x))) ri) _ = _
  by_cases c : sp tn t (2 * y) ≤ sp tn t (2 * x)
  · rw [if_pos (nI_le c (by omega)), Nat.min_eq_right c]; exact key _ b2
  · rw [if_neg (nI_ge (by omega) (by omega)), Nat.min_eq_left (by omega)]; exact key _ b1
theorem turn_e (hT : TW tn) (hG : GB tn pt lf t bo) {bo0 : BoS} {pre rest : List Nat} {x : Nat} (hx : x < nX tn) (hL : LI tn pt lf t bo0 bo pre) (hr : pre ++ x :: rest = CF (nX tn)) : Ok (f_X0_listTurn bo (nI x)) (fun bo' => LI tn pt lf t bo0 bo' (pre ++ [x])) := by
  have h7 := hT.x7
  unfold f_X0_listTurn
  rw [ckI (by omega) (by omega), nI_clamp (by omega), bd1_e (has_e _ _ (by omega))]
  have hm : isMv (nX tn) x = true := by simp [isMv, show x < 100 by omega, hx]
  have hiff : bitB (Bo_overByUnder bo x) x = true ↔ mayB tn pt lf t x = true := by
    rw [(hG.2.1 x x hx hx).2.1, mayB_t]
    unfold MAY CAN
    rw [if_pos (by omega)]
    exact ⟨fun h => ⟨hm, h, Or.inl (by omega)⟩, fun h => h.2.1⟩
  cases hb : bitB (Bo_overByUnder bo x) x with
  | false =>
    rw [if_pos (by rfl), Ok_some]
    have : mayB tn pt lf t x = false := by
      cases h : mayB tn pt lf t x with
      | false => rfl
      | true => rw [hiff.mpr h] at hb; cases hb
    unfold LI
    rw [Fm_f this]
    exact hL
  | true =>
    rw [if_neg (by decide), Ok_bd1]
    refine (addNumber_e hL.1 (by have := Fm_len (pt := pt) (lf := lf) (t := t) hT hr; omega)).mono (fun bo' h => ?_)
    rw [Ok_some]
    unfold LI
    rw [Fm_t (hiff.mp hb)]
    exact ⟨h.1, h.2.trans hL.2⟩
theorem mv1 {x y : Nat} (hx : x < 10) (hy : y < 10) : (100 + 10 * x + y) / 10 % 10 = x ∧ (100 + 10 * x + y) % 10 = y ∧ ¬ 100 + 10 * x + y < 100 ∧ 100 + 10 * x + y < 200 := by omega
theorem mv2 {a x y : Nat} (ha : a < 10) (hx : x < 10) (hy : y < 10) : (1000 + 100 * a + 10 * x + y) / 100 % 10 = a ∧ (1000 + 100 * a + 10 * x + y) / 10 % 10 = x ∧ (1000 + 100 * a + 10 * x + y) % 10 = y ∧ ¬ 1000 + 100 * a + 10 * x + y < 1000 ∧ 1000 + 100 * a + 10 * x + y < 2000 := by omega
theorem may1 {x y : Nat} (hT : TW tn) (hxy : x < y) (hy : y < nX tn) : mayB tn pt lf t (100 + 10 * x + y) = true ↔ (BES tn pt t (2 * x + 1) (2 * y + 1) ∧ BES tn pt t (2 * x) (2 * y) ∧ sgnk tn lf x ≠ sgnk tn lf y) ∧ fitL tn (lk tn (min (sp tn t (2 * x)) (sp tn t (2 * y)))) := by
  have h7 := hT.x7
  obtain ⟨e1, e2, e3, e4⟩ := mv1 (show x < 10 by omega) (show y < 10 by omega)
  rw [mayB_t]
  unfold MAY CAN wl
  rw [if_neg e3, if_pos (by omega), e1, e2]
  constructor
  · rintro ⟨_, h1, h2⟩
    exact ⟨h1, h2.elim (fun h => absurd h e3) id⟩
  · rintro ⟨h1, h2⟩
    refine ⟨?_, h1, Or.inr h2⟩
    unfold isMv
    rw [if_neg e3, if_pos (by omega), e1, e2]
    simp [hxy, hy]; omega
theorem may2 {a x y : Nat} (hT : TW tn) (ha : a < nX tn) (hx : x < nX tn) (hy : y < nX tn) : mayB tn pt lf t (1000 + 100 * a + 10 * x + y) = true ↔ (a ≠ x ∧ a ≠ y ∧ x ≠ y) ∧ (BES tn pt t (2 * a + 1) (2 * x + 1) ∧ BES tn pt t (2 * a) (2 * y + 1) ∧ BES tn pt t (2 * x) (2 * y)) ∧ fitL tn (lk tn (min (sp tn t (2 * x)) (sp tn t (2 * y)))) := by
  have h7 := hT.x7
  obtain ⟨e0, e1, e2, e3, e4⟩ := mv2 (show a < 10 by omega) (show x < 10 by omega) (show y < 10 by omega)
  rw [mayB_t]
  unfold MAY CAN wl isMv
  rw [if_neg (show ¬ 1000 + 100 * a + 10 * x + y < 100 by omega), if_neg e3, if_neg (show ¬ 1000 + 100 * a + 10 * x + y < 100 by omega), if_neg e3, e0, e1, e2]
  constructor
  · rintro ⟨h0, h1, h2⟩
    have h0 := of_decide_eq_true h0
    exact ⟨⟨by omega, by omega, by omega⟩, h1, h2.elim (fun h => absurd h (by omega)) id⟩
  · rintro ⟨⟨h3, h4, h5⟩, h1, h2⟩
    exact ⟨decide_eq_true (by omega), h1, Or.inr h2⟩
end LIST
