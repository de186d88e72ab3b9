section GROW
variable {tn : TnS} {pt : Option Nat} {lf plus : Int32} {ri : RiS} {t0 : Int64} {fm : MoS}
theorem gexp (hT : TW tn) (hR : TR ri tn) (hpl : Mo_plus fm = plus) (hP : PLS tn plus lf) (hpa : Mo_parted fm = ptv pt) {d tl k : Int32} {L : List (Int64 × Int32)} (K : Int32 → Int32 → Int32 → Int32 → SeS → BoS → MoS → RiS → Option (Int32 × SeS × BoS)) (Q : Int32 × SeS × BoS → Prop) :
    ∀ n q se sb cur, L.length - q < n → q ≤ L.length → (∃ e, cur = L ++ e) → CX tn pt se cur →
    (∀ se' sb' L', addL cur ((L.drop q).flatMap (sucL tn pt lf)) = some L' → CX tn pt se' L' → Ok (f_X7_grow_L85 d tl k (nI L.length) se' sb' fm ri K) Q) →
    (∀ se' sb' ks, addL cur ((L.drop q).flatMap (sucL tn pt lf)) = none → CT1 se' ks → Q (-3, se', sb')) →
    Ok (f_X7_grow_L58 n d tl k (nI L.length) (nI q) se sb fm ri K) Q := by
  intro n
  induction n with
  | zero => intro q se sb cur h; omega
  | succ n ih =>
    intro q se sb cur hn hq he hX hK hN
    have hlen : L.length ≤ 4000 := by
      obtain ⟨e, he⟩ := he
      have := hX.len.1
      rw [he, List.length_append] at this
      omega
    rw [f_X7_grow_L58]
    by_cases c : q = L.length
    · rw [if_pos (by rw [c]; exact nI_le (Nat.le_refl _) (by omega))]
      rw [c, List.drop_length] at hK
      exact hK se sb cur rfl hX
    · have hq2 : q < L.length := by omega
      have hov : Se_over se = 0 := by obtain ⟨_, _, _, h3, _⟩ := hX; exact h3
      obtain ⟨u, hu⟩ : ∃ u, L[q]? = some u := ⟨L[q], List.getElem?_eq_getElem hq2⟩
      have hcu : cur[q]? = some (u.1, u.2) := by
        obtain ⟨e, he⟩ := he
        rw [he, List.getElem?_append_left hq2]; exact hu
      have hdrop : L.drop q = u :: L.drop (q + 1) := by
        rw [List.drop_eq_getElem_cons hq2]
        congr 1
        rw [List.getElem?_eq_getElem hq2] at hu
        exact Option.some.inj hu
      rw [if_neg (nI_ge hq2 (by omega)), if_pos hov, Ok_bd2]
      rw [hdrop, List.flatMap_cons, addL_append] at hK hN
      refine (spread_e hT hR hpl hP hpa hX hcu).mono (fun z hz => ?_)
      rw [lt1_e, nI_1]
      have hz' : postL tn pt (addL cur (sucL tn pt lf u)) z.1 := hz
      cases ha : addL cur (sucL tn pt lf u) with
      | none =>
        rw [ha] at hz' hN
        obtain ⟨z1, ks, z2⟩ := hz'
        cases n with
        | zero => omega
        | succ n =>
          have e85 : Ok (f_X7_grow_L85 d tl k (nI L.length) z.1 z.2 fm ri K) Q := by
            unfold f_X7_grow_L85
            rw [if_neg (by rw [z1]; decide), Ok_some]
            exact hN z.1 z.2 ks rfl z2
          rw [f_X7_grow_L58]
          by_cases c2 : L.length ≤ q + 1
          · rw [if_pos (nI_le c2 (by omega))]; exact e85
          · rw [if_neg (nI_ge (by omega) (by omega)), if_neg (by rw [z1]; decide)]; exact e85
      | some s' =>
        rw [ha] at hz' hN hK
        refine ih (q + 1) z.1 z.2 s' (by omega) (by omega) ?_ hz' (fun se' sb' L' h1 h2 => hK se' sb' L' h1 h2) (fun se' sb' ks h1 h2 => hN se' sb' ks h1 h2)
        obtain ⟨e, he⟩ := he
        obtain ⟨e2, he2⟩ := addL_ext _ _ _ ha
        exact ⟨e ++ e2, by rw [he2, he, List.append_assoc]⟩
theorem lvl_of {k : Nat} {L : List (Int64 × Int32)} {fr : Nat} (h : lvlL tn pt lf t0 k = some (L, fr)) : lvl tn pt lf t0 k = some (L.map Prod.fst, fr) := by rw [lvlL_fst, h]; rfl
theorem lvlL_some {k : Nat} {L L' : List (Int64 × Int32)} {fr : Nat} (h : lvlL tn pt lf t0 k = some (L, fr)) (ha : addL L ((L.drop fr).flatMap (sucL tn pt lf)) = some L') : lvlL tn pt lf t0 (k + 1) = some (L', L.length) := by
  rw [lvlL, h]
  show (match addL L ((L.drop fr).flatMap (sucL tn pt lf)) with | none => none | some s' => some (s', L.length)) = _
  rw [ha]
theorem lvlL_none {k : Nat} {L : List (Int64 × Int32)} {fr : Nat} (h : lvlL tn pt lf t0 k = some (L, fr)) (ha : addL L ((L.drop fr).flatMap (sucL tn pt lf)) = none) : lvl tn pt lf t0 (k + 1) = none := by
  rw [lvlL_fst, lvlL, h]
  show Option.map _ (match addL L ((L.drop fr).flatMap (sucL tn pt lf)) with | none => none | some s' => some (s', L.length)) = _
  rw [ha]
  rfl
theorem lvlL_empty {k : Nat} {L : List (Int64 × Int32)} {fr : Nat} (h : lvlL tn pt lf t0 k = some (L, fr)) (hf : L.length ≤ fr) : ∀ j, lvlL tn pt lf t0 (k + j) = some (L, fr) ∨ lvlL tn pt lf t0 (k + j) = some (L, L.length) := by
  intro j
  induction j with
  | zero => exact Or.inl h
  | succ j ih =>
    refine Or.inr ?_
    rcases ih with ih | ih
    · exact lvlL_some ih (by rw [List.drop_eq_nil_of_le hf]; rfl)
    · exact lvlL_some ih (by rw [List.drop_length]; rfl)
theorem fewG_empty {seen : List Int64} : ∀ rem k fr, lvl tn pt lf t0 k = some (seen, fr) → seen.length ≤ fr → fewG tn pt lf t0 rem k = -2 := by
  intro rem
  induction rem with
  | zero =>
    intro k fr h hf
    rw [fewG, h]
    show (if (seen.drop fr).any (lsB tn) = true then _ else _) = _
    rw [List.drop_eq_nil_of_le hf, if_neg (by simp)]
  | succ rem ih =>
    intro k fr h hf
    rw [fewG, h]
    show (if (seen.drop fr).any (lsB tn) = true then _ else _) = _
    rw [List.drop_eq_nil_of_le hf, if_neg (by simp)]
    refine ih (k + 1) seen.length ?_ (Nat.le_refl _)
    rw [lvl, h]
    show (match addAll seen ((seen.drop fr).flatMap (SUC tn pt lf)) with | none => none | some s' => some (s', seen.length)) = _
    rw [List.drop_eq_nil_of_le hf]
    rfl
/-- what growing till it is loose comes to -/
def GQ (tn : TnS) (pt : Option Nat) (lf : Int32) (t0 : Int64) (d : Nat) (q : Int32 × SeS × BoS) : Prop :=
  (q.1 = -3 ∧ fewG tn pt lf t0 d 0 = -9 ∧ ∃ ks, CT1 q.2.1 ks) ∨ (q.1 = -2 ∧ fewG tn pt lf t0 d 0 = -2 ∧ ∃ ks, CT1 q.2.1 ks) ∨
  (∃ j L fr, j ≤ d ∧ q.1 = nI j ∧ fewG tn pt lf t0 d 0 = nI j ∧ lvlL tn pt lf t0 j = some (L, fr) ∧ CX tn pt q.2.1 L ∧ (L.drop fr).any (fun x => lsB tn x.1) = true)
theorem any_fst {L : List (Int64 × Int32)} {fr : Nat} : ((L.map Prod.fst).drop fr).any (lsB tn) = (L.drop fr).any (fun x => lsB tn x.1) := by
  rw [← List.map_drop, List.any_map]
  rfl
theorem CX.ct {se : SeS} {L : List (Int64 × Int32)} (h : CX tn pt se L) : ∃ ks, CT1 se ks := by obtain ⟨ks, h, _⟩ := h; exact ⟨ks, h⟩
theorem grow1 (hT : TW tn) (hR : TR ri tn) (hpl : Mo_plus fm = plus) (hP : PLS tn plus lf) (hpa : Mo_parted fm = ptv pt) {d : Nat} (hd : d ≤ 8) :
    ∀ rem n j se sb L fr, j + rem = d → rem + 1 < n → lvlL tn pt lf t0 j = some (L, fr) → fr ≤ L.length → CX tn pt se L → Se_looseAt se = -1 → fewG tn pt lf t0 d 0 = fewG tn pt lf t0 rem j →
    Ok (f_X7_grow_L33 n (nI d) 1 (nI fr) (nI (j + 1)) se sb fm ri) (GQ tn pt lf t0 d) := by
  intro rem
  have noL : ∀ se L, CX tn pt se L → Se_looseAt se = -1 → ∀ x, x ∈ L → lsB tn x.1 = false := by
    intro se L hX hla
    obtain ⟨_, h1, h2, _, _, h5⟩ := hX
    rcases h5 with ⟨_, h⟩ | ⟨i, t, f, q1, _, q3⟩
    · exact h
    · rw [hla] at q3
      have hi := (List.getElem?_eq_some_iff.mp q1).1
      have := h1.2.1
      have q3 := q3.symm
      rw [nI_neg1 (by omega)] at q3
      exact q3.elim
  induction rem with
  | zero =>
    intro n j se sb L fr hj hn hl hfr hX hla hv
    cases n with
    | zero => omega
    | succ n =>
      rw [f_X7_grow_L33, if_pos (nI_lt (by omega) (by omega)), Ok_some]
      refine Or.inr (Or.inl ⟨rfl, ?_, hX.ct⟩)
      rw [hv, fewG, lvl_of hl]
      show (if ((L.map Prod.fst).drop fr).any (lsB tn) = true then _ else _) = _
      rw [any_fst, if_neg]
      intro h
      obtain ⟨x, hx, hxl⟩ := List.any_eq_true.mp h
      rw [noL se L hX hla x (List.mem_of_mem_drop hx)] at hxl
      cases hxl
  | succ rem ih =>
    intro n j se sb L fr hj hn hl hfr hX hla hv
    cases n with
    | zero => omega
    | succ n =>
      have hlen := hX.len
      rw [f_X7_grow_L33, if_neg (nI_nlt (by omega) (by omega)), hlen.2]
      by_cases hE : L.length ≤ fr
      · rw [if_pos (nI_le hE (by omega)), Ok_some]
        refine Or.inr (Or.inl ⟨rfl, ?_, hX.ct⟩)
        rw [hv]
        exact fewG_empty (rem + 1) j fr (lvl_of hl) (by rw [List.length_map]; exact hE)
      · have hnl : ¬ ((L.map Prod.fst).drop fr).any (lsB tn) = true := by
          intro h
          rw [any_fst] at h
          obtain ⟨x, hx, hxl⟩ := List.any_eq_true.mp h
          rw [noL se L hX hla x (List.mem_of_mem_drop hx)] at hxl
          cases hxl
        have hv2 : fewG tn pt lf t0 (rem + 1) j = fewG tn pt lf t0 rem (j + 1) := by
          conv => lhs; rw [fewG, lvl_of hl]
          exact if_neg hnl
        rw [if_neg (nI_ge (by omega) (by omega)), lt1_e]
        refine gexp hT hR hpl hP hpa _ _ FU fr se sb L (by rw [FU_e]; omega) hfr ⟨[], by simp⟩ hX (fun se' sb' L' h1 h2 => ?_) (fun se' sb' ks h1 h2 => ?_)
        · have hl2 := lvlL_some hl h1
          obtain ⟨e, he⟩ := addL_ext _ _ _ h1
          have hov : Se_over se' = 0 := by obtain ⟨_, _, _, h3, _⟩ := h2; exact h3
          have hle : L.length ≤ L'.length := by rw [he, List.length_append]; omega
          unfold f_X7_grow_L85
          rw [if_pos hov, if_neg (by decide)]
          by_cases c : Se_looseAt se' = -1
          · rw [if_pos c]
            unfold f_X7_grow_L110
            rw [lt1_e, nI_1]
            exact ih n (j + 1) se' sb' L' L.length (by omega) (by omega) hl2 hle h2 c (by rw [hv, hv2])
          · rw [if_neg c, Ok_some]
            have hany : (L'.drop L.length).any (fun x => lsB tn x.1) = true := by
              obtain ⟨_, _, _, _, _, h5⟩ := id h2
              rcases h5 with ⟨q1, _⟩ | ⟨i, t, f, q1, q2, _⟩
              · exact absurd q1 c
              · have hi := (List.getElem?_eq_some_iff.mp q1).1
                by_cases ci : i < L.length
                · have q3 : L[i]? = some (t, f) := by rw [he, List.getElem?_append_left ci] at q1; exact q1
                  have := noL se L hX hla (t, f) (List.mem_of_getElem? q3)
                  rw [q2] at this
                  cases this
                · refine List.any_eq_true.mpr ⟨(t, f), ?_, q2⟩
                  refine List.mem_of_getElem? (i := i - L.length) ?_
                  rw [List.getElem?_drop, show L.length + (i - L.length) = i by omega]
                  exact q1
            refine Or.inr (Or.inr ⟨j + 1, L', L.length, by omega, rfl, ?_, hl2, h2, hany⟩)
            rw [hv, hv2]
            cases rem <;> (rw [fewG, lvl_of hl2]; show (if ((L'.map Prod.fst).drop L.length).any (lsB tn) = true then _ else _) = _; rw [any_fst, if_pos hany])
        · refine Or.inl ⟨rfl, ?_, ks, h2⟩
          rw [hv, hv2]
          cases rem <;> rw [fewG, lvlL_none hl h1]
theorem first_add (hT : TW tn) {se : SeS} (hF : CT1 se [] ∧ Se_over se = 0 ∧ Se_looseAt se = -1) {kc : Int64} (hK : KR tn kc t0) (hD : DW tn pt t0) : Ok (f_X7_add se kc (-1)) (fun se' => CX tn pt se' [(t0, -1)] ∧ (Se_looseAt se' = -1 ↔ lsB tn t0 = false)) := by
  obtain ⟨h1, h2, h3⟩ := hF
  refine (add_e h1 kc (-1)).mono (fun se' q => ?_)
  rcases q with ⟨q1, _⟩ | ⟨_, q2, _⟩ | ⟨q1, q2, q3, q4, q5, q6⟩
  · cases q1
  · cases q2
  · have hk0 := key0 hT hK hD
    refine ⟨⟨[] ++ [kc], q3, rfl, q5.trans h2, fun i t f hi => ?_, ?_⟩, ?_⟩
    · have hi0 : i = 0 := by
        have := (List.getElem?_eq_some_iff.mp hi).1
        simp at this
        exact this
      subst hi0
      cases hi
      exact ⟨hD, ⟨kc, rfl, hK⟩, by rw [q4]; rfl, by simp⟩
    · by_cases c : kc = 0
      · rw [if_pos c] at q6
        exact Or.inr ⟨0, t0, -1, rfl, hk0.mp c, q6⟩
      · rw [if_neg c] at q6
        refine Or.inl ⟨q6.trans h3, fun x hx => ?_⟩
        rw [List.mem_singleton.mp hx]
        cases hb : lsB tn t0 with
        | false => rfl
        | true => exact absurd (hk0.mpr hb) c
    · by_cases c : kc = 0
      · rw [if_pos c] at q6
        rw [q6, hk0.mp c]
        constructor
        · intro e
          exact absurd e (by decide)
        · intro e; cases e
      · rw [if_neg c] at q6
        rw [q6, h3]
        refine ⟨fun _ => ?_, fun _ => rfl⟩
        cases hb : lsB tn t0 with
        | false => rfl
        | true => exact absurd (hk0.mpr hb) c
theorem grow_e (hT : TW tn) (hR : TR ri tn) (hpl : Mo_plus fm = plus) (hP : PLS tn plus lf) (hpa : Mo_parted fm = ptv pt) {d : Nat} (hd : d ≤ 8) {se : SeS} {sb : BoS} (hS : ∃ ks, CT1 se ks) (hK : KR tn (Mo_key fm) t0) (hD : DW tn pt t0) : Ok (f_X7_grow se sb fm ri (nI d) 1) (GQ tn pt lf t0 d) := by
  obtain ⟨ks, hS⟩ := hS
  unfold f_X7_grow
  rw [Ok_bd1]
  refine (forget_e hS).mono (fun se1 h1 => ?_)
  rw [Ok_bd1]
  refine (first_add hT h1 hK hD).mono (fun se2 h2 => ?_)
  rw [if_neg (by decide)]
  by_cases c : Se_looseAt se2 = -1
  · rw [if_pos c]
    unfold f_X7_grow_L27
    exact grow1 hT hR hpl hP hpa hd d FU 0 se2 sb [(t0, -1)] 0 (by omega) (by rw [FU_e]; omega) rfl (by omega) h2.1 c rfl
  · rw [if_neg c, Ok_some]
    have hb : lsB tn t0 = true := by
      cases hb : lsB tn t0 with
      | true => rfl
      | false => exact absurd (h2.2.mpr hb) c
    refine Or.inr (Or.inr ⟨0, [(t0, -1)], 0, by omega, rfl, ?_, rfl, h2.1, by simp [hb]⟩)
    cases d <;> (rw [fewG]; show (if ([t0].drop 0).any (lsB tn) = true then _ else _) = _; rw [if_pos (by simp [hb])])
/-- what growing on to the end comes to -/
def GA (tn : TnS) (pt : Option Nat) (lf : Int32) (t0 : Int64) (d : Nat) (q : Int32 × SeS × BoS) : Prop :=
  (q.1 = -3 ∧ lvl tn pt lf t0 d = none ∧ ∃ ks, CT1 q.2.1 ks) ∨ (∃ L fr, q.1 = -2 ∧ lvl tn pt lf t0 d = some (L.map Prod.fst, fr) ∧ CX tn pt q.2.1 L)
theorem grow0 (hT : TW tn) (hR : TR ri tn) (hpl : Mo_plus fm = plus) (hP : PLS tn plus lf) (hpa : Mo_parted fm = ptv pt) {d : Nat} (hd : d ≤ 8) :
    ∀ rem n j se sb L fr, j + rem = d → rem + 1 < n → lvlL tn pt lf t0 j = some (L, fr) → fr ≤ L.length → CX tn pt se L →
    Ok (f_X7_grow_L33 n (nI d) 0 (nI fr) (nI (j + 1)) se sb fm ri) (GA tn pt lf t0 d) := by
  intro rem
  induction rem with
  | zero =>
    intro n j se sb L fr hj hn hl hfr hX
    cases n with
    | zero => omega
    | succ n =>
      rw [f_X7_grow_L33, if_pos (nI_lt (by omega) (by omega)), Ok_some]
      exact Or.inr ⟨L, fr, rfl, by rw [show d = j by omega]; exact lvl_of hl, hX⟩
  | succ rem ih =>
    intro n j se sb L fr hj hn hl hfr hX
    cases n with
    | zero => omega
    | succ n =>
      have hlen := hX.len
      rw [f_X7_grow_L33, if_neg (nI_nlt (by omega) (by omega)), hlen.2]
      by_cases hE : L.length ≤ fr
      · rw [if_pos (nI_le hE (by omega)), Ok_some]
        rcases lvlL_empty hl hE (d - j) with h | h
        · rw [show j + (d - j) = d by omega] at h
          exact Or.inr ⟨L, fr, rfl, lvl_of h, hX⟩
        · rw [show j + (d - j) = d by omega] at h
          exact Or.inr ⟨L, L.length, rfl, lvl_of h, hX⟩
      · rw [if_neg (nI_ge (by omega) (by omega)), lt1_e]
        refine gexp hT hR hpl hP hpa _ _ FU fr se sb L (by rw [FU_e]; omega) hfr ⟨[], by simp⟩ hX (fun se' sb' L' h1 h2 => ?_) (fun se' sb' ks h1 h2 => ?_)
        · have hl2 := lvlL_some hl h1
          obtain ⟨e, he⟩ := addL_ext _ _ _ h1
          have hov : Se_over se' = 0 := by obtain ⟨_, _, _, h3, _⟩ := h2; exact h3
          have hle : L.length ≤ L'.length := by rw [he, List.length_append]; omega
          unfold f_X7_grow_L85
          rw [if_pos hov, if_pos rfl]
          unfold f_X7_grow_L110
          rw [lt1_e, nI_1]
          exact ih n (j + 1) se' sb' L' L.length (by omega) (by omega) hl2 hle h2
        · exact Or.inl ⟨rfl, lvl_none d (j + 1) (by omega) (lvlL_none hl h1), ks, h2⟩
theorem growA_e (hT : TW tn) (hR : TR ri tn) (hpl : Mo_plus fm = plus) (hP : PLS tn plus lf) (hpa : Mo_parted fm = ptv pt) {d : Nat} (hd : d ≤ 8) {se : SeS} {sb : BoS} (hS : ∃ ks, CT1 se ks) (hK : KR tn (Mo_key fm) t0) (hD : DW tn pt t0) : Ok (f_X7_grow se sb fm ri (nI d) 0) (GA tn pt lf t0 d) := by
  obtain ⟨ks, hS⟩ := hS
  unfold f_X7_grow
  rw [Ok_bd1]
  refine (forget_e hS).mono (fun se1 h1 => ?_)
  rw [Ok_bd1]
  refine (first_add hT h1 hK hD).mono (fun se2 h2 => ?_)
  rw [if_pos rfl]
  unfold f_X7_grow_L27
  exact grow0 hT hR hpl hP hpa hd d FU 0 se2 sb [(t0, -1)] 0 (by omega) (by rw [FU_e]; omega) rfl (by omega) h2.1
end GROW
