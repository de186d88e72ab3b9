def addL : List (Int64 × Int32) → List (Int64 × Int32) → Option (List (Int64 × Int32))
  | L, [] => some L
  | L, x :: xs => if x.1 ∈ L.map Prod.fst then addL L xs else if L.length = 4000 then none else addL (L ++ [x]) xs
theorem addL_append : ∀ (a b L : List (Int64 × Int32)), addL L (a ++ b) = (addL L a).bind (fun s => addL s b) := by
  intro a
  induction a with
  | nil => intro b L; rfl
  | cons x xs ih =>
    intro b L
    rw [List.cons_append, addL, addL]
    by_cases h : x.1 ∈ L.map Prod.fst
    · rw [if_pos h, if_pos h]; exact ih b L
    · rw [if_neg h, if_neg h]
      by_cases h2 : L.length = 4000
      · rw [if_pos h2, if_pos h2]; rfl
      · rw [if_neg h2, if_neg h2]; exact ih b _
theorem addL_fst : ∀ (a L : List (Int64 × Int32)), (addL L a).map (List.map Prod.fst) = addAll (L.map Prod.fst) (a.map Prod.fst) := by
  intro a
  induction a with
  | nil => intro L; rfl
  | cons x xs ih =>
    intro L
    rw [addL, List.map_cons, addAll, List.length_map]
    by_cases h : x.1 ∈ L.map Prod.fst
    · rw [if_pos h, if_pos h]; exact ih L
    · rw [if_neg h, if_neg h]
      by_cases h2 : L.length = 4000
      · rw [if_pos h2, if_pos h2]; rfl
      · rw [if_neg h2, if_neg h2, ih]
        simp
theorem addL_ext : ∀ (a L L' : List (Int64 × Int32)), addL L a = some L' → ∃ e, L' = L ++ e := by
  intro a
  induction a with
  | nil => intro L L' h; cases h; exact ⟨[], by simp⟩
  | cons x xs ih =>
    intro L L' h
    rw [addL] at h
    by_cases c : x.1 ∈ L.map Prod.fst
    · rw [if_pos c] at h; exact ih L L' h
    · rw [if_neg c] at h
      by_cases c2 : L.length = 4000
      · rw [if_pos c2] at h; cases h
      · rw [if_neg c2] at h
        obtain ⟨e, he⟩ := ih _ L' h
        exact ⟨x :: e, by rw [he]; simp⟩
noncomputable def sucL (tn : TnS) (pt : Option Nat) (lf : Int32) (x : Int64 × Int32) : List (Int64 × Int32) := (MR (mayB tn pt lf x.1) 0).map (fun m => (bh tn x.1 m, if x.2 = -1 then nI m else x.2))
theorem sucL_fst {tn : TnS} {pt : Option Nat} {lf : Int32} (x : Int64 × Int32) : (sucL tn pt lf x).map Prod.fst = SUC tn pt lf x.1 := by
  unfold sucL SUC
  rw [List.map_map]
  rfl
theorem flat_fst {tn : TnS} {pt : Option Nat} {lf : Int32} (l : List (Int64 × Int32)) : (l.flatMap (sucL tn pt lf)).map Prod.fst = (l.map Prod.fst).flatMap (SUC tn pt lf) := by
  induction l with
  | nil => rfl
  | cons x xs ih => rw [List.flatMap_cons, List.map_append, ih, sucL_fst, List.map_cons, List.flatMap_cons]
noncomputable def lvlL (tn : TnS) (pt : Option Nat) (lf : Int32) (t0 : Int64) : Nat → Option (List (Int64 × Int32) × Nat)
  | 0 => some ([(t0, -1)], 0)
  | k + 1 => match lvlL tn pt lf t0 k with
    | none => none
    | some (L, fr) => match addL L ((L.drop fr).flatMap (sucL tn pt lf)) with
      | none => none
      | some s' => some (s', L.length)
theorem lvlL_fst {tn : TnS} {pt : Option Nat} {lf : Int32} {t0 : Int64} : ∀ k, lvl tn pt lf t0 k = (lvlL tn pt lf t0 k).map (fun q => (q.1.map Prod.fst, q.2)) := by
  intro k
  induction k with
  | zero => rfl
  | succ k ih =>
    rw [lvl, lvlL, ih]
    cases h : lvlL tn pt lf t0 k with
    | none => rfl
    | some q =>
      obtain ⟨L, fr⟩ := q
      have e := addL_fst ((L.drop fr).flatMap (sucL tn pt lf)) L
      rw [flat_fst, List.map_drop] at e
      show (match addAll (L.map Prod.fst) (((L.map Prod.fst).drop fr).flatMap (SUC tn pt lf)) with | none => none | some s' => some (s', (L.map Prod.fst).length)) = _
      rw [← e]
      show _ = Option.map _ (match addL L ((L.drop fr).flatMap (sucL tn pt lf)) with | none => none | some s' => some (s', L.length))
      cases addL L ((L.drop fr).flatMap (sucL tn pt lf)) with
      | none => rfl
      | some s' => simp
theorem key0 {tn : TnS} {pt : Option Nat} {k t : Int64} (hT : TW tn) (hK : KR tn k t) (hD : DW tn pt t) : k = 0 ↔ lsB tn t = true := by
  have h14 := hT.s14
  have h1 : lsB tn t = true ↔ ∀ s, s < nS tn → nib t s = 15 := by
    unfold lsB lft
    rw [beq_iff_eq]
    have he := hD.2.1
    constructor
    · intro h s hs
      have hc : cnt tn t = 0 := by omega
      unfold cnt at hc
      rw [List.countP_eq_zero] at hc
      have := hc s (List.mem_range.mpr hs)
      exact Classical.byContradiction (fun hn => this (lvB_t.mpr hn))
    · intro h
      have hc : cnt tn t = 0 := by
        unfold cnt
        rw [List.countP_eq_zero]
        intro s hs hl
        exact lvB_t.mp hl (h s (List.mem_range.mp hs))
      rw [hc]
  rw [h1, i64_0]
  constructor
  · intro h s hs
    have := h s (by omega)
    rw [hK s (by omega), if_pos hs] at this
    have := nib_lt t s
    omega
  · intro h s hs
    rw [hK s hs]
    by_cases c : s < nS tn
    · rw [if_pos c, h s c]
    · rw [if_neg c]
/-- the class's row, told in the reference's words -/
def CX (tn : TnS) (pt : Option Nat) (se : SeS) (L : List (Int64 × Int32)) : Prop :=
  ∃ ks, CT1 se ks ∧ ks.length = L.length ∧ Se_over se = 0 ∧
  (∀ i t f, L[i]? = some (t, f) → DW tn pt t ∧ (∃ k, ks[i]? = some k ∧ KR tn k t) ∧ Se_firsts se i = f ∧ (f = -1 ↔ i = 0)) ∧
  ((Se_looseAt se = -1 ∧ ∀ x, x ∈ L → lsB tn x.1 = false) ∨ (∃ i t f, L[i]? = some (t, f) ∧ lsB tn t = true ∧ Se_looseAt se = nI i))
section CS2
variable {tn : TnS} {pt : Option Nat} {lf plus : Int32} {se : SeS} {ri : RiS} {L : List (Int64 × Int32)}
theorem CX.len (h : CX tn pt se L) : L.length ≤ 4000 ∧ Se_count se = nI L.length := by
  obtain ⟨ks, h1, h2, _⟩ := h
  rw [← h2]
  exact ⟨h1.2.1, h1.1⟩
theorem CX.mem (h : CX tn pt se L) : ∃ ks, CT1 se ks ∧ ∀ k t, KR tn k t → CW tn t → (k ∈ ks ↔ t ∈ L.map Prod.fst) := by
  obtain ⟨ks, h1, h2, _, h4, _⟩ := h
  refine ⟨ks, h1, fun k t hK hC => ?_⟩
  constructor
  · intro hk
    obtain ⟨i, hi⟩ := List.getElem?_of_mem hk
    have hlt : i < L.length := by rw [← h2]; exact (List.getElem?_eq_some_iff.mp hi).1
    have he : L[i]? = some (L[i].1, L[i].2) := List.getElem?_eq_getElem hlt
    obtain ⟨q1, ⟨k', q2, q3⟩, _⟩ := h4 i _ _ he
    rw [hi] at q2
    cases q2
    have := (hK.inj q3 hC q1.1).mp rfl
    rw [this]
    exact List.mem_map.mpr ⟨(L[i].1, L[i].2), List.mem_of_getElem? he, rfl⟩
  · intro ht
    obtain ⟨x, hx, rfl⟩ := List.mem_map.mp ht
    obtain ⟨i, hi⟩ := List.getElem?_of_mem hx
    obtain ⟨q1, ⟨k', q2, q3⟩, _⟩ := h4 i x.1 x.2 hi
    rw [(hK.inj q3 hC q1.1).mpr rfl]
    exact List.mem_of_getElem? q2
theorem CX.add (hT : TW tn) (h : CX tn pt se L) {k t : Int64} {f : Int32} (hK : KR tn k t) (hD : DW tn pt t) (hf : f ≠ -1) (hL : L ≠ []) : Ok (f_X7_add se k f) (fun se' => (t ∈ L.map Prod.fst ∧ se' = se) ∨ (t ∉ L.map Prod.fst ∧ L.length = 4000 ∧ Se_over se' = 1 ∧ ∃ ks, CT1 se' ks) ∨ (t ∉ L.map Prod.fst ∧ L.length ≠ 4000 ∧ CX tn pt se' (L ++ [(t, f)]))) := by
  have hh := h
  obtain ⟨ks, h1, h2, h3, h4, h5⟩ := h
  have hmem : k ∈ ks ↔ t ∈ L.map Prod.fst := by
    constructor
    · intro hk
      obtain ⟨i, hi⟩ := List.getElem?_of_mem hk
      have hlt : i < L.length := by rw [← h2]; exact (List.getElem?_eq_some_iff.mp hi).1
      have he : L[i]? = some (L[i].1, L[i].2) := List.getElem?_eq_getElem hlt
      obtain ⟨q1, ⟨k', q2, q3⟩, _⟩ := h4 i _ _ he
      rw [hi] at q2
      cases q2
      have := (hK.inj q3 hD.1 q1.1).mp rfl
      rw [this]
      exact List.mem_map.mpr ⟨(L[i].1, L[i].2), List.mem_of_getElem? he, rfl⟩
    · intro ht
      obtain ⟨x, hx, hxt⟩ := List.mem_map.mp ht
      obtain ⟨i, hi⟩ := List.getElem?_of_mem hx
      obtain ⟨q1, ⟨k', q2, q3⟩, _⟩ := h4 i x.1 x.2 hi
      rw [(hK.inj q3 hD.1 q1.1).mpr hxt.symm]
      exact List.mem_of_getElem? q2
  refine (add_e h1 k f).mono (fun se' q => ?_)
  rcases q with ⟨q1, q2⟩ | ⟨q1, q2, q3⟩ | ⟨q1, q2, q3, q4, q5, q6⟩
  · exact Or.inl ⟨hmem.mp q1, q2⟩
  · refine Or.inr (Or.inl ⟨fun h => q1 (hmem.mpr h), by omega, by rw [q3]; rfl, ks, ?_⟩)
    rw [q3]
    exact h1
  · refine Or.inr (Or.inr ⟨fun h => q1 (hmem.mpr h), by omega, ks ++ [k], q3, by simp [h2], q5.trans h3, fun i t' f' hi => ?_, ?_⟩)
    · by_cases e : i = L.length
      · subst e
        rw [List.getElem?_append_right (Nat.le_refl _), Nat.sub_self] at hi
        cases hi
        refine ⟨hD, ⟨k, ?_, hK⟩, by rw [q4, h2, upd_at], ⟨fun e => absurd e hf, fun e => absurd (List.length_eq_zero_iff.mp e) hL⟩⟩
        rw [← h2, List.getElem?_append_right (Nat.le_refl _), Nat.sub_self]
        rfl
      · by_cases q : i < L.length
        · rw [List.getElem?_append_left q] at hi
          obtain ⟨r1, ⟨k', r2, r3⟩, r4, r5⟩ := h4 i t' f' hi
          exact ⟨r1, ⟨k', by rw [List.getElem?_append_left (by omega)]; exact r2, r3⟩, by rw [q4, upd_ne (by omega)]; exact r4, r5⟩
        · rw [List.getElem?_append_right (by omega), List.getElem?_eq_none (by simp; omega)] at hi
          cases hi
    · by_cases c : k = 0
      · rw [if_pos c] at q6
        refine Or.inr ⟨L.length, t, f, ?_, (key0 hT hK hD).mp c, by rw [q6, h2]⟩
        rw [List.getElem?_append_right (Nat.le_refl _), Nat.sub_self]
        rfl
      · rw [if_neg c] at q6
        rcases h5 with ⟨r1, r2⟩ | ⟨i, t', f', r1, r2, r3⟩
        · refine Or.inl ⟨q6.trans r1, fun x hx => ?_⟩
          rcases List.mem_append.mp hx with hx | hx
          · exact r2 x hx
          · rw [List.mem_singleton.mp hx]
            cases hb : lsB tn t with
            | false => rfl
            | true => exact absurd ((key0 hT hK hD).mpr hb) c
        · refine Or.inr ⟨i, t', f', ?_, r2, q6.trans r3⟩
          rw [List.getElem?_append_left (List.getElem?_eq_some_iff.mp r1).1]
          exact r1
/-- behind a row of additions -/
def postL (tn : TnS) (pt : Option Nat) (o : Option (List (Int64 × Int32))) (se' : SeS) : Prop := match o with
  | none => Se_over se' = 1 ∧ ∃ ks, CT1 se' ks
  | some L' => CX tn pt se' L'
theorem spread_L (hT : TW tn) (hR : TR ri tn) {sb : BoS} {kc t : Int64} {f : Int32} {idx : Nat} {N : List Nat} (hD : DW tn pt t) (hK : KR tn kc t) (hB : BO ri tn pt lf kc t plus sb) (hN : MR (mayB tn pt lf t) 0 = N) (hidx : idx < 4000) (hfi : f = -1 ↔ idx = 0) :
    ∀ n j se L, N.length - j < n → j ≤ N.length → CX tn pt se L → L ≠ [] → L[idx]? = some (t, f) → Ok (f_X7_spreadFrom_L23 n (nI idx) (nI j) se sb) (fun q => postL tn pt (addL L ((N.drop j).map (fun m => (bh tn t m, if f = -1 then nI m else f)))) q.1) := by
  have hNl : N.length ≤ 2000 := by
    rw [← hN]
    unfold MR
    exact Nat.le_trans (List.length_filter_le _ _) (by rw [List.length_range']; omega)
  have hNI := hB.2.2.2.2.2.2.2
  rw [hN] at hNI
  have hN256 : N.length ≤ 238 := by
    rw [← hN, ← Fm_CF hT]
    exact Fm_len (rest := []) hT (by simp)
  intro n
  induction n with
  | zero => intro j se L h; omega
  | succ n ih =>
    intro j se L hn hj hX hL hLi
    rw [f_X7_spreadFrom_L23, hNI.1]
    by_cases e : j = N.length
    · rw [if_pos (by rw [e]; exact nI_le (Nat.le_refl _) (by omega)), Ok_some, e, List.drop_length]
      exact hX
    · have hj2 : j < N.length := by omega
      obtain ⟨m, hm⟩ : ∃ m, N[j]? = some m := ⟨N[j], List.getElem?_eq_getElem hj2⟩
      have hdrop : N.drop j = m :: N.drop (j + 1) := by
        rw [List.drop_eq_getElem_cons hj2]
        congr 1
        rw [List.getElem?_eq_getElem hj2] at hm
        exact Option.some.inj hm
      have hmem : m ∈ MR (mayB tn pt lf t) 0 := by rw [hN]; exact List.mem_of_getElem? hm
      obtain ⟨m1, m2⟩ := mayB_can (MR_mem.mp hmem).2.2
      have hmlt := isMv_lt m1
      have hov : Se_over se = 0 := by obtain ⟨_, _, _, h3, _⟩ := hX; exact h3
      rw [if_neg (nI_ge hj2 (by omega)), if_pos hov, ckI (by omega) (by decide), lt1_e, nI_clamp (by omega), hNI.2 j m hm, Ok_bd1]
      refine (after_e hT hD.1 hB.2.2.2.2.1 hB.1 hK m1 m2.lv).mono (fun k' hK' => ?_)
      have hDb := hD.bh hT m1 m2
      have hfirst : Se_firsts se idx = f := by
        obtain ⟨_, _, _, _, h4, _⟩ := hX
        exact (h4 idx t f hLi).2.2.1
      have fin : ∀ f' : Int32, f' = (if f = -1 then nI m else f) → Ok (f_X7_spreadFrom_L77 (nI idx) (nI j) k' f' se sb (fun y0 y1 y2 y3 => f_X7_spreadFrom_L23 n y0 y1 y2 y3)) (fun q => postL tn pt (addL L ((N.drop j).map (fun m => (bh tn t m, if f = -1 then nI m else f)))) q.1) := by
        intro f' hf'
        have hfn : f' ≠ -1 := by
          rw [hf']
          by_cases c : f = -1
          · rw [if_pos c]; intro e; rw [nI_neg1 (by omega)] at e; exact e
          · rw [if_neg c]; exact c
        unfold f_X7_spreadFrom_L77
        rw [Ok_bd1]
        refine (hX.add hT hK' hDb hfn hL).mono (fun se' q => ?_)
        rw [lt1_e, nI_1, hdrop, List.map_cons, addL]
        rcases q with ⟨q1, q2⟩ | ⟨q1, q2, q3, q4⟩ | ⟨q1, q2, q3⟩
        · rw [if_pos q1, q2]
          exact ih (j + 1) se L (by omega) (by omega) hX hL hLi
        · rw [if_neg q1, if_pos q2]
          show Ok (f_X7_spreadFrom_L23 n (nI idx) (nI (j + 1)) se' sb) (fun q => Se_over q.1 = 1 ∧ ∃ ks, CT1 q.1 ks)
          cases n with
          | zero => omega
          | succ n =>
            rw [f_X7_spreadFrom_L23, hNI.1]
            by_cases c : N.length ≤ j + 1
            · rw [if_pos (nI_le c (by omega)), Ok_some]; exact ⟨q3, q4⟩
            · rw [if_neg (nI_ge (by omega) (by omega)), if_neg (by rw [q3]; decide), Ok_some]; exact ⟨q3, q4⟩
        · rw [if_neg q1, if_neg q2, ← hf']
          refine ih (j + 1) se' _ (by omega) (by omega) q3 (by simp) ?_
          rw [List.getElem?_append_left (List.getElem?_eq_some_iff.mp hLi).1]
          exact hLi
      by_cases c : idx = 0
      · rw [if_pos (by rw [c]; rfl)]
        exact fin (nI m) (by rw [if_pos (hfi.mpr c)])
      · rw [if_neg (nI_ne0 (by omega) (by omega)), ckI hidx (by decide), nI_clamp (by omega), hfirst]
        exact fin f (by rw [if_neg (fun h => c (hfi.mp h))])
theorem spread_e (hT : TW tn) (hR : TR ri tn) {sb : BoS} {fm : MoS} {t : Int64} {f : Int32} {idx : Nat} (hpl : Mo_plus fm = plus) (hP : PLS tn plus lf) (hpa : Mo_parted fm = ptv pt) (hX : CX tn pt se L) (hLi : L[idx]? = some (t, f)) : Ok (f_X7_spreadFrom se sb fm ri (nI idx)) (fun q => postL tn pt (addL L (sucL tn pt lf (t, f))) q.1) := by
  have hlen := hX.len
  have hlt := (List.getElem?_eq_some_iff.mp hLi).1
  have hne : L ≠ [] := fun e => by rw [e] at hLi; cases hLi
  obtain ⟨ks, h1, h2, h3, h4, h5⟩ := id hX
  obtain ⟨r1, ⟨k, r2, r3⟩, r4, r5⟩ := h4 idx t f hLi
  unfold f_X7_spreadFrom
  rw [ckI (by omega) (by decide), nI_clamp (by omega), h1.2.2.2.1 idx k r2, hpl, hpa, Ok_bd1]
  refine (layOut_e hT hR r1 r3 hP sb).mono (fun sb1 hB => ?_)
  have hN : (MR (mayB tn pt lf t) 0).length ≤ 2000 := by
    unfold MR
    exact Nat.le_trans (List.length_filter_le _ _) (by rw [List.length_range']; omega)
  have q := spread_L (N := MR (mayB tn pt lf t) 0) hT hR r1 r3 hB rfl (by omega) r5 FU 0 se L (by rw [FU_e]; omega) (by omega) hX hne hLi
  rw [List.drop_zero] at q
  exact q
end CS2
