/-! standings of one link -/
def pv (to : ToS) (l q : Nat) : Option Nat := if To_passes to (10 * l + q) = 0 then none else some (cl (To_passes to (10 * l + q)) - 1)
section STAND
variable {to : ToS} {rd tn : TnS} {P L X : Nat} {ri : RiS}
/-- the crossings as they were told -/
def OVF (rd tn : TnS) (X : Nat) : Prop := Tn_crossings tn = nI X ∧ Tn_over tn = Tn_over rd ∧ Tn_overAt tn = Tn_overAt rd ∧ Tn_under tn = Tn_under rd ∧ Tn_underAt tn = Tn_underAt rd
theorem pv_o (hT : TB to rd P L X) {l q x : Nat} (hl : l < 8) (hq : q < 10) (hx : x < X) : (Tn_over rd x = nI l ∧ Tn_overAt rd x = nI q) ↔ pv to l q = some (2 * x + 1) := by
  have hn := hT.1.1
  obtain ⟨c1, c2, c3, c4⟩ := hT.2.2.2.2.2
  obtain ⟨lo, po, lu, pu, g, ⟨g1, g2, g3, g4⟩, ⟨g5, g6, g7, g8⟩, g9⟩ := c1 x hx
  unfold pv
  constructor
  · rintro ⟨e1, e2⟩
    have : lo = l := nI_inj (g1.symm.trans e1) (by omega) (by omega)
    have : po = q := nI_inj (g3.symm.trans e2) (by omega) (by omega)
    subst lo; subst po
    rw [g4, if_neg (nI_ne0 (by omega) (by omega)), cl_I (by omega)]
    rfl
  · intro e
    rcases c3 l q hl hq with z | ⟨y, hy, z⟩
    · rw [if_pos z] at e; cases e
    · rcases z with ⟨z1, z2, z3⟩ | ⟨z1, z2, z3⟩
      · rw [z1, if_neg (nI_ne0 (by omega) (by omega)), cl_I (by omega)] at e
        have : y = x := by injection e with e; omega
        subst this
        exact ⟨z2, z3⟩
      · rw [z1, if_neg (nI_ne0 (by omega) (by omega)), cl_I (by omega)] at e
        injection e with e; omega
theorem pv_u (hT : TB to rd P L X) {l q x : Nat} (hl : l < 8) (hq : q < 10) (hx : x < X) : (Tn_under rd x = nI l ∧ Tn_underAt rd x = nI q) ↔ pv to l q = some (2 * x) := by
  have hn := hT.1.1
  obtain ⟨c1, c2, c3, c4⟩ := hT.2.2.2.2.2
  obtain ⟨lo, po, lu, pu, g, ⟨g1, g2, g3, g4⟩, ⟨g5, g6, g7, g8⟩, g9⟩ := c1 x hx
  unfold pv
  constructor
  · rintro ⟨e1, e2⟩
    have : lu = l := nI_inj (g5.symm.trans e1) (by omega) (by omega)
    have : pu = q := nI_inj (g7.symm.trans e2) (by omega) (by omega)
    subst lu; subst pu
    rw [g8, if_neg (nI_ne0 (by omega) (by omega)), cl_I (by omega)]
    rfl
  · intro e
    rcases c3 l q hl hq with z | ⟨y, hy, z⟩
    · rw [if_pos z] at e; cases e
    · rcases z with ⟨z1, z2, z3⟩ | ⟨z1, z2, z3⟩
      · rw [z1, if_neg (nI_ne0 (by omega) (by omega)), cl_I (by omega)] at e
        injection e with e; omega
      · rw [z1, if_neg (nI_ne0 (by omega) (by omega)), cl_I (by omega)] at e
        have : y = x := by injection e with e; omega
        subst this
        exact ⟨z2, z3⟩
theorem pv_lt (hT : TB to rd P L X) {l q v : Nat} (hl : l < 8) (hq : q < 10) (h : pv to l q = some v) : v < 2 * X ∧ To_passes to (10 * l + q) = nI (v + 1) := by
  have hn := hT.1.1
  obtain ⟨c1, c2, c3, c4⟩ := hT.2.2.2.2.2
  unfold pv at h
  rcases c3 l q hl hq with z | ⟨y, hy, z⟩
  · rw [if_pos z] at h; cases h
  · rcases z with ⟨z1, z2, z3⟩ | ⟨z1, z2, z3⟩
    · rw [z1, if_neg (nI_ne0 (by omega) (by omega)), cl_I (by omega)] at h
      injection h with h
      exact ⟨by omega, by rw [z1]; congr 1; omega⟩
    · rw [z1, if_neg (nI_ne0 (by omega) (by omega)), cl_I (by omega)] at h
      injection h with h
      exact ⟨by omega, by rw [z1]; congr 1; omega⟩
def stS (tn : TnS) (S l v : Nat) : TnS := Tn_standings' (Tn_first' (Tn_standLink' (Tn_standRing' tn (upd (Tn_standRing tn) S (Tn_rings tn))) (upd (Tn_standLink tn) S (nI l))) (Tn_first tn ||| ((Int32.toInt64 (nI v)) <<< (Int32.toInt64 ((4 : Int32) * nI S) &&& 63)))) (nI (S + 1))
theorem stS_e {S l v : Nat} (hS : Tn_standings tn = nI S) (h : S < 14) {x y : Int32} (hx : x = nI l) (hy : y = nI v) : f_X12_stands tn x y = some (stS tn S l v) := by
  subst hx; subst hy
  unfold f_X12_stands stS
  simp only [lt1_e, hS, GT_standRing, GT_standLink, GT_first, ckI h (show 14 < 2 ^ 31 by decide), nI_clamp (show S < 2 ^ 31 by omega), nI_1]
theorem ls29 (hT : TB to rd P L X) {l k q S : Nat} (hl : l < 8) (hq : q < 10) (hS14 : ∀ v, pv to l q = some v → S < 14) (K : Int32 → Int32 → TnS → Option TnS) (Q : TnS → Prop) :
    ∀ rem f x tn, x + rem = X → rem < f → OVF rd tn X → (Tn_standings tn = nI S ∨ ∀ v, pv to l q = some v → v / 2 < x) → (∀ tn', tn' = (match pv to l q with
      | some v => if x ≤ v / 2 then stS tn S l v else tn
      | none => tn) → Ok (K (nI l) (nI (k + 1)) tn') Q) → Ok (f_X12_laysStandings_L29 f (nI l) (nI k) (nI q) (nI x) tn K) Q := by
  have hn := hT.1.1
  intro rem
  induction rem with
  | zero =>
    intro f x tn hx hf hO hSt hK
    cases f with
    | zero => omega
    | succ f =>
      rw [f_X12_laysStandings_L29, hO.1, if_pos (nI_le (by omega) (by omega)), lt1_e, nI_1]
      refine hK tn ?_
      cases e : pv to l q with
      | none => rfl
      | some v =>
        have := pv_lt hT hl hq e
        show tn = if x ≤ v / 2 then stS tn S l v else tn
        rw [if_neg (by omega)]
  | succ rem ih =>
    intro f x tn hx hf hO hSt hK
    cases f with
    | zero => omega
    | succ f =>
      have hxX : x < X := by omega
      obtain ⟨o0, o1, o2, o3, o4⟩ := hO
      have po := pv_o hT hl hq hxX
      have pu := pv_u hT hl hq hxX
      rw [f_X12_laysStandings_L29, o0, if_neg (nI_ge hxX (by omega)), ckI (show x < 7 by omega) (by decide), ckI (show x < 7 by omega) (by decide), nI_clamp (by omega), o1, o2]
      have rest : ∀ tn2, OVF rd tn2 X → pv to l q ≠ some (2 * x) → (Tn_standings tn2 = nI S ∨ ∀ v, pv to l q = some v → v / 2 < x + 1) → (∀ tn', tn' = (match pv to l q with
          | some v => if x + 1 ≤ v / 2 then stS tn2 S l v else tn2
          | none => tn2) → Ok (K (nI l) (nI (k + 1)) tn') Q) → Ok (f_X12_laysStandings_L71 (nI l) (nI k) (nI q) (nI x) tn2 (fun y0 y1 y2 y3 y4 => f_X12_laysStandings_L29 f y0 y1 y2 y3 y4 K)) Q := by
        intro tn2 hO2 hno hSt2 hK2
        have step := ih f (x + 1) tn2 (by omega) (by omega) hO2 hSt2 hK2
        unfold f_X12_laysStandings_L71 f_X12_laysStandings_L102
        rw [ckI (show x < 7 by omega) (by decide), ckI (show x < 7 by omega) (by decide), nI_clamp (by omega), hO2.2.2.2.1, hO2.2.2.2.2, lt1_e, nI_1]
        by_cases c1 : Tn_under rd x = nI l
        · rw [if_pos c1]
          by_cases c2 : Tn_underAt rd x = nI q
          · exact absurd (pu.mp ⟨c1, c2⟩) hno
          · rw [if_neg c2]; exact step
        · rw [if_neg c1]; exact step
      by_cases cO : pv to l q = some (2 * x + 1)
      · have hm := po.mpr cO
        have hSs : Tn_standings tn = nI S := by
          rcases hSt with h | h
          · exact h
          · have := h _ cO; omega
        rw [if_pos hm.1, if_pos hm.2, i21, bd1_e (stS_e hSs (hS14 _ cO) rfl rfl)]
        refine rest _ ?_ (by rw [cO]; intro e; injection e with e; omega) (Or.inr (fun v e => by rw [cO] at e; injection e with e; omega)) (fun tn' e => hK tn' ?_)
        · unfold OVF stS
          simp only [GT_standings, GT_first, GT_standLink, GT_standRing]
          exact ⟨o0, o1, o2, o3, o4⟩
        · rw [e, cO]
          show (if x + 1 ≤ (2 * x + 1) / 2 then _ else _) = if x ≤ (2 * x + 1) / 2 then _ else _
          rw [if_neg (by omega), if_pos (by omega)]
      · have skip : Ok (f_X12_laysStandings_L71 (nI l) (nI k) (nI q) (nI x) tn (fun y0 y1 y2 y3 y4 => f_X12_laysStandings_L29 f y0 y1 y2 y3 y4 K)) Q := by
          by_cases cU : pv to l q = some (2 * x)
          · have hm := pu.mpr cU
            have hSs : Tn_standings tn = nI S := by
              rcases hSt with h | h
              · exact h
              · have := h _ cU; omega
            unfold f_X12_laysStandings_L71 f_X12_laysStandings_L102
            rw [ckI (show x < 7 by omega) (by decide), ckI (show x < 7 by omega) (by decide), nI_clamp (by omega), o3, o4, if_pos hm.1, if_pos hm.2, i2, bd1_e (stS_e hSs (hS14 _ cU) rfl rfl), lt1_e, nI_1]
            refine ih f (x + 1) _ (by omega) (by omega) ?_ (Or.inr (fun v e => by rw [cU] at e; injection e with e; omega)) (fun tn' e => hK tn' ?_)
            · unfold OVF stS
              simp only [GT_standings, GT_first, GT_standLink, GT_standRing]
              exact ⟨o0, o1, o2, o3, o4⟩
            · rw [e, cU]
              show (if x + 1 ≤ (2 * x) / 2 then _ else _) = if x ≤ (2 * x) / 2 then _ else _
              rw [if_neg (by omega), if_pos (by omega)]
          · refine rest tn ⟨o0, o1, o2, o3, o4⟩ cU ?_ (fun tn' e => hK tn' ?_)
            · rcases hSt with h | h
              · exact Or.inl h
              · exact Or.inr (fun v e => by have := h v e; omega)
            · rw [e]
              cases ep : pv to l q with
              | none => rfl
              | some v =>
                have n1 : v ≠ 2 * x + 1 := fun e => cO (by rw [ep, e])
                have n2 : v ≠ 2 * x := fun e => cU (by rw [ep, e])
                show (if x + 1 ≤ v / 2 then _ else _) = if x ≤ v / 2 then _ else _
                by_cases c : x ≤ v / 2
                · rw [if_pos c, if_pos (by omega)]
                · rw [if_neg c, if_neg (by omega)]
        by_cases c1 : Tn_over rd x = nI l
        · rw [if_pos c1]
          by_cases c2 : Tn_overAt rd x = nI q
          · exact absurd (po.mp ⟨c1, c2⟩) cO
          · rw [if_neg c2]; exact skip
        · rw [if_neg c1]; exact skip
end STAND
