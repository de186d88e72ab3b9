section RINGJ
variable {to : ToS} {rd : TnS} {P X R p : Nat} {T0 : List (Nat × Nat × Nat)} {ri0 : RiS}
/-- all is well with those gone along so far -/
def TOK (to : ToS) (P R : Nat) (T : List (Nat × Nat × Nat)) : Prop :=
  (T.map (fun t => t.1 / 2)).Nodup ∧ (T.map (fun t => hlv to t.1)).Nodup ∧ ∀ t, t ∈ T → t.1 < 2 * P ∧ t.2.2 < 8 ∧ t.2.1 ≤ R
/-- they hold nobody else -/
def CLO (to : ToS) (P : Nat) (T : List (Nat × Nat × Nat)) : Prop := ∀ z, z < 2 * P → (∃ t, t ∈ T ∧ t.1 / 2 = z / 2) → ∃ t, t ∈ T ∧ t.1 / 2 = mtv to z / 2
def VLK (to : ToS) (P : Nat) (T : List (Nat × Nat × Nat)) : Prop := ∀ z, z < 2 * P → (∃ t, t ∈ T ∧ t.1 / 2 = z / 2) → ∃ t, t ∈ T ∧ hlv to t.1 = hlv to z
/-- the part of it that is this ring -/
def UE (R : Nat) (E : List Nat) (U : List (Nat × Nat × Nat)) : Prop := U.length = E.length ∧ ∀ (i : Nat) (t : Nat × Nat × Nat), U[i]? = some t → E[i]? = some t.1 ∧ t.2.1 = R ∧ t.2.2 = i
theorem hl_same (hF : HF to P) {a c : Nat} (ha : a < 2 * P) (hc : c < 2 * P) (e : hlv to a = hlv to c) : a = c ∨ a = mtv to c := by
  obtain ⟨_, a2, a3⟩ := hF.2 a ha
  obtain ⟨_, c2, c3⟩ := hF.2 c hc
  unfold mtv
  rw [← e]
  rw [← e] at c3
  rcases a3 with a3 | a3 <;> rcases c3 with c3 | c3
  · exact Or.inl (a3.trans c3.symm)
  · right
    rw [if_neg]
    · exact a3
    · intro e2
      obtain ⟨_, _, _, f3, _, _⟩ := hF.1 _ a2
      exact f3 (by rw [e2, ← c3])
  · right
    rw [if_pos c3.symm]
    exact a3
  · exact Or.inl (a3.trans c3.symm)
theorem UE.snoc {E : List Nat} {U : List (Nat × Nat × Nat)} (h : UE R E U) (e : Nat) : UE R (E ++ [e]) (U ++ [(e, R, E.length)]) := by
  obtain ⟨h1, h2⟩ := h
  refine ⟨by rw [List.length_append, List.length_append, h1]; rfl, fun i t ht => ?_⟩
  rcases getE_snoc ht with ⟨c, ht⟩ | ⟨c, rfl⟩
  · obtain ⟨a1, a2, a3⟩ := h2 i t ht
    exact ⟨by rw [List.getElem?_append_left (by omega)]; exact a1, a2, a3⟩
  · refine ⟨?_, rfl, by show E.length = i; omega⟩
    rw [show i = E.length by omega, List.getElem?_append_right (by omega), Nat.sub_self]
    rfl
theorem new_of {U : List (Nat × Nat × Nat)} (hF : HF to P) (hP8 : P ≤ 8) (hTo : TOK to P R (T0 ++ U)) (hR0 : ∀ t, t ∈ T0 → t.2.1 < R) (hRl : R ≤ T0.length) (hC : CLO to P T0) {E : List Nat} (hU : UE R E U) {h : Nat} (hE : RGK to P p (E ++ [h])) (hD : ∀ (i a : Nat), (E ++ [h])[i]? = some a → ∀ t, t ∈ T0 → t.1 / 2 ≠ a / 2) :
    NEW to P R (T0 ++ U) h E.length ∧ (T0 ++ U).length < P ∧ TOK to P R (T0 ++ U ++ [(h, R, E.length)]) := by
  obtain ⟨t1, t2, t3⟩ := hTo
  have hlast : (E ++ [h])[E.length]? = some h := by rw [List.getElem?_append_right (by omega), Nat.sub_self]; rfl
  have hh : h < 2 * P := hE.2.1 _ _ hlast
  have hUm : ∀ t, t ∈ U → ∃ i, i < E.length ∧ E[i]? = some t.1 ∧ t.2.1 = R ∧ t.2.2 = i := by
    intro t ht
    obtain ⟨i, hi, e⟩ := List.getElem_of_mem ht
    have := hU.2 i t (by rw [List.getElem?_eq_getElem hi, e])
    exact ⟨i, by have := hU.1; omega, this.1, this.2.1, this.2.2⟩
  have hper : ∀ t, t ∈ T0 ++ U → t.1 / 2 ≠ h / 2 := by
    intro t ht
    rcases List.mem_append.mp ht with ht | ht
    · exact hD _ _ hlast t ht
    · obtain ⟨i, hi, e, _⟩ := hUm t ht
      intro e2
      have := hE.2.2.2 i E.length t.1 h (by rw [List.getElem?_append_left hi]; exact e) hlast e2
      omega
  have hlnk : ∀ t, t ∈ T0 ++ U → hlv to t.1 ≠ hlv to h := by
    intro t ht e
    have htl := (t3 t ht).1
    rcases hl_same hF htl hh e with c | c
    · exact hper t ht (by rw [c])
    · have hmm := (hF.mt hh).2.1
      rcases List.mem_append.mp ht with ht' | ht'
      · obtain ⟨s, s1, s2⟩ := hC t.1 htl ⟨t, ht', rfl⟩
        rw [c, hmm] at s2
        exact hper s (List.mem_append_left _ s1) s2
      · obtain ⟨i, hi, e1, _⟩ := hUm t ht'
        have ei : (E ++ [h])[i]? = some t.1 := by rw [List.getElem?_append_left hi]; exact e1
        have hlt : i + 1 < (E ++ [h]).length := by rw [List.length_append, List.length_singleton]; omega
        have hnx := hE.2.2.1 i t.1 (E ++ [h])[i + 1] ei (List.getElem?_eq_getElem hlt)
        rw [c, hmm] at hnx
        have := hE.2.2.2 (i + 1) E.length (E ++ [h])[i + 1] h (List.getElem?_eq_getElem hlt) hlast (by rw [hnx, xr_2])
        have e3 : (E ++ [h])[i + 1] = h := by
          have z := List.getElem?_eq_getElem hlt
          rw [← this, z] at hlast
          injection hlast
        rw [e3] at hnx
        exact xr_ne h hnx.symm
  have hlen : (T0 ++ U).length < P := by
    have hnd : ((T0 ++ U).map (fun t => t.1 / 2) ++ [h / 2] : List Nat).Nodup := by
      rw [List.nodup_append]
      refine ⟨t1, by simp, fun a ha c hc => ?_⟩
      rw [List.mem_singleton] at hc
      rw [List.mem_map] at ha
      obtain ⟨t, ht, rfl⟩ := ha
      rw [hc]
      exact hper t ht
    have := hnd.length_le_of_subset (l₂ := List.range P) (fun a ha => by
      rw [List.mem_range]
      rcases List.mem_append.mp ha with ha | ha
      · rw [List.mem_map] at ha
        obtain ⟨t, ht, rfl⟩ := ha
        have := (t3 t ht).1
        omega
      · rw [List.mem_singleton] at ha; omega)
    rw [List.length_append, List.length_map, List.length_singleton, List.length_range] at this
    omega
  have hUl := hU.1
  have hTl : (T0 ++ U).length = T0.length + U.length := List.length_append
  refine ⟨⟨hh, by omega, by omega, hper, hlnk, fun t ht c => ?_, fun t ht => ?_⟩, hlen, ?_, ?_, ?_⟩
  · rcases List.mem_append.mp ht with ht | ht
    · have := hR0 t ht; omega
    · obtain ⟨i, hi, _, _, e⟩ := hUm t ht; omega
  · have := t3 t ht; omega
  · rw [List.map_append, List.nodup_append]
    refine ⟨t1, by simp, fun a ha c hc => ?_⟩
    have hc := List.mem_singleton.mp hc
    rw [List.mem_map] at ha
    obtain ⟨t, ht, rfl⟩ := ha
    rw [hc]
    exact hper t ht
  · rw [List.map_append, List.nodup_append]
    refine ⟨t2, by simp, fun a ha c hc => ?_⟩
    have hc := List.mem_singleton.mp hc
    rw [List.mem_map] at ha
    obtain ⟨t, ht, rfl⟩ := ha
    rw [hc]
    exact hlnk t ht
  · intro t ht
    rcases List.mem_append.mp ht with ht | ht
    · exact t3 t ht
    · rw [List.mem_singleton] at ht
      subst ht
      exact ⟨hh, by show E.length < 8; omega, Nat.le_refl _⟩
/-- a ring is gone round -/
def RPO (to : ToS) (rd : TnS) (ri0 : RiS) (P R p : Nat) (T0 : List (Nat × Nat × Nat)) (ri : RiS) (tn : TnS) (c : Int32 × RiS) (tn' : TnS) : Prop :=
  ∃ U, c.1 = nI (T0 ++ U).length ∧ 0 < U.length ∧ SXr to rd P R (T0 ++ U) tn' ∧ SXc to ri0 P (R + 1) (T0 ++ U) c.2 ∧ TOK to P R (T0 ++ U) ∧ CLO to P (T0 ++ U) ∧ VLK to P (T0 ++ U) ∧ (∃ t, t ∈ T0 ++ U ∧ t.1 / 2 = p) ∧
    (∀ (i : Nat) (t : Nat × Nat × Nat), U[i]? = some t → t.2.1 = R ∧ t.2.2 = i) ∧
    Tn_size tn' = upd (Tn_size tn) R (nI U.length) ∧ Ri_firstMember c.2 = upd (Ri_firstMember ri) (R + 1) (nI (T0 ++ U).length) ∧ Ri_firstStanding c.2 = upd (Ri_firstStanding ri) (R + 1) (nI (wL to (T0 ++ U)).length)
theorem ring_J (hT : TB to rd P P X) (hH : RH to P ri0) (hp : p < P) (hR0 : ∀ t, t ∈ T0 → t.2.1 < R) (hRl : R ≤ T0.length) (hC : CLO to P T0) (hV : VLK to P T0) {ri : RiS} {tn : TnS} :
    ∀ k f g E h U ri1 tn1, P - (T0 ++ U).length = k → k < f → k < g → UE R E U → RGK to P p (E ++ [h]) → (∀ (i a : Nat), (E ++ [h])[i]? = some a → ∀ t, t ∈ T0 → t.1 / 2 ≠ a / 2) → TOK to P R (T0 ++ U) → SXr to rd P R (T0 ++ U) tn1 → SXc to ri0 P R (T0 ++ U) ri1 → Tn_size tn1 = Tn_size tn → FM ri ri1 →
    Ok (f_X12_laysRing_L4 f (nI (2 * p)) (nI h) (nI E.length) tn1) (fun tn' => Ok (f_X6_traceRing_L35 g (nI p) (nI (T0 ++ U).length) (nI h) (nI E.length) ri1 to) (fun c => RPO to rd ri0 P R p T0 ri tn c tn')) := by
  have hn := hT.1.1
  have hF := hT.hf
  intro k
  induction k with
  | zero =>
    intro f g E h U ri1 tn1 hk _ _ hU hE hD hTo
    have := (new_of hF hn.1 hTo hR0 hRl hC hU hE hD).2.1
    omega
  | succ k ih =>
    intro f g E h U ri1 tn1 hk hf hg hU hE hD hTo hSr hSc hsz hfm
    obtain ⟨hN, hTl, hTo'⟩ := new_of hF hn.1 hTo hR0 hRl hC hU hE hD
    have hlast : (E ++ [h])[E.length]? = some h := by rw [List.getElem?_append_right (by omega), Nat.sub_self]; rfl
    have hh : h < 2 * P := hN.1
    have hm := hF.mt hh
    have hwl : (wL to (T0 ++ U ++ [(h, R, E.length)])).length ≤ 14 := by
      have := wL_len hT (T := T0 ++ U ++ [(h, R, E.length)]) (fun t ht => by
        have := (hTo'.2.2 t ht).1
        have := (hF.2 t.1 this).2.1
        omega) hTo'.2.1
      omega
    have hEl : E.length < P := by have := hU.1; rw [List.length_append] at hTl; omega
    have hasc : T0 ++ U ++ [(h, R, E.length)] = T0 ++ (U ++ [(h, R, E.length)]) := List.append_assoc _ _ _
    have hU' := hU.snoc h
    cases f with
    | zero => omega
    | succ f =>
      cases g with
      | zero => omega
      | succ g =>
        have goL13 : f_X12_laysRing_L4 (f + 1) (nI (2 * p)) (nI h) (nI E.length) tn1 = f_X12_laysRing_L13 (nI (2 * p)) (nI h) (nI E.length) tn1 (fun y0 y1 y2 y3 => f_X12_laysRing_L4 f y0 y1 y2 y3) := by
          rw [f_X12_laysRing_L4]
          by_cases c : E.length = 0
          · rw [if_pos (by rw [c]; rfl)]
          · rw [if_neg (nI_ne0 (by omega) (by omega)), if_neg]
            intro e
            have e' := nI_inj e (by omega) (by omega)
            have h0 : (E ++ [h])[0]? = some (E ++ [h])[0] := List.getElem?_eq_getElem (by rw [List.length_append, List.length_singleton]; omega)
            have := hE.2.2.2 0 E.length _ h h0 hlast (by rw [hE.1 _ h0, e'])
            omega
        rw [goL13]
        refine rstep hT hSr hN hwl (fun tn2 hSr2 hsz2 => ?_)
        obtain ⟨ri2, hSc2, hfm2, hstep⟩ := cstep (f := g) hT hH hSc hN hwl hEl hTl hp
        simp only [hstep]
        have hElen : (E ++ [h]).length = E.length + 1 := by rw [List.length_append, List.length_singleton]
        rcases ring_next hF hE hlast hElen.symm with hc | ⟨hc1, hc2⟩
        · -- the ring is closed
          have hx : xr (mtv to h) = 2 * p := by rw [hc]; unfold xr; rw [if_neg (by omega)]; omega
          cases f with
          | zero => omega
          | succ f =>
            rw [f_X12_laysRing_L4, hx, if_neg (nI_ne0 (by omega) (by omega)), if_pos rfl, hSr2.1, ckI hN.2.1 (by decide), nI_clamp (by have := hN.2.1; omega), lt1_e, Ok_some]
            rw [if_pos (show mtv to h / 2 = p by rw [hc]; omega)]
            unfold f_X6_traceRing_L145
            have hR9 : R + 1 < 9 := by have := hN.2.1; omega
            simp only [lt1_e, hSc2.1, nI_1, GR_count, GR_firstMember, GR_firstStanding, ckI hR9 (show 9 < 2 ^ 31 by decide), nI_clamp (show R + 1 < 2 ^ 31 by omega)]
            rw [Ok_some]
            rw [hasc] at hSr2 hSc2 hTo'
            refine ⟨U ++ [(h, R, E.length)], ?_, by rw [List.length_append, List.length_singleton]; omega, ?_, ?_, hTo', ?_, ?_, ?_, fun i t ht => (hU'.2 i t ht).2, ?_, ?_, ?_⟩
            · rw [← hasc, List.length_append (as := T0 ++ U), List.length_singleton]
            · obtain ⟨a1, a2, a3, a4, a5⟩ := hSr2
              refine ⟨?_, ?_, fun i h' r w e => ?_, ⟨?_, fun s l v e => ?_, fun s hs h16 => ?_⟩, fun q hq hno => ?_⟩
              · simp only [GT_size, a1]
              · rw [← a2]; unfold tk2; simp only [GT_size]
              · have := a3 i h' r w e
                simp only [GT_size]
                exact this
              · simp only [GT_size, a4.1]
              · have := a4.2.1 s l v e
                simp only [GT_size]
                exact this
              · have := a4.2.2 s hs h16
                simp only [GT_size]
                exact this
              · have := a5 q hq hno
                simp only [GT_size]
                exact this
            · obtain ⟨a1, a2, a3, a4, a5⟩ := hSc2
              refine ⟨?_, ?_, fun i h' r w e => ?_, ⟨?_, fun s l v e => ?_, fun s hs h16 => ?_⟩, fun q hq hno => ?_⟩
              · simp only [GR_firstStanding, GR_firstMember, GR_count]
              · rw [← a2]; unfold rk2; simp only [GR_firstStanding, GR_firstMember, GR_count]
              · have := a3 i h' r w e
                simp only [GR_firstStanding, GR_firstMember, GR_count]
                exact this
              · simp only [GR_firstStanding, GR_firstMember, GR_count, a4.1]
              · have := a4.2.1 s l v e
                simp only [GR_firstStanding, GR_firstMember, GR_count]
                exact this
              · have := a4.2.2 s hs h16
                simp only [GR_firstStanding, GR_firstMember, GR_count]
                exact this
              · have := a5 q hq hno
                simp only [GR_firstStanding, GR_firstMember, GR_count]
                exact this
            · intro z hz hex
              obtain ⟨t, ht, e⟩ := hex
              have inU : ∀ (j c : Nat), (E ++ [h])[j]? = some c → ∃ t, t ∈ U ++ [(h, R, E.length)] ∧ t.1 = c := by
                intro j c hj
                have hjl : j < (U ++ [(h, R, E.length)]).length := by rw [hU'.1]; exact (List.getElem?_eq_some_iff.mp hj).1
                refine ⟨(U ++ [(h, R, E.length)])[j], List.getElem_mem hjl, ?_⟩
                have := (hU'.2 j _ (List.getElem?_eq_getElem hjl)).1
                rw [hj] at this
                injection this with this
                exact this.symm
              rcases List.mem_append.mp ht with ht | ht
              · obtain ⟨s, s1, s2⟩ := hC z hz ⟨t, ht, e⟩
                exact ⟨s, List.mem_append_left _ s1, s2⟩
              · obtain ⟨i, hi, e1⟩ := List.getElem_of_mem ht
                have e2 := (hU'.2 i t (by rw [List.getElem?_eq_getElem hi, e1])).1
                obtain ⟨j, c, hj, hjc⟩ := ring_closed hF hE hlast hElen.symm hc e2 e.symm
                obtain ⟨s, s1, s2⟩ := inU j c hj
                exact ⟨s, List.mem_append_right _ s1, by rw [s2]; exact hjc⟩
            · intro z hz hex
              obtain ⟨t, ht, e⟩ := hex
              have inU : ∀ (j c : Nat), (E ++ [h])[j]? = some c → ∃ t, t ∈ U ++ [(h, R, E.length)] ∧ t.1 = c := by
                intro j c hj
                have hjl : j < (U ++ [(h, R, E.length)]).length := by rw [hU'.1]; exact (List.getElem?_eq_some_iff.mp hj).1
                refine ⟨(U ++ [(h, R, E.length)])[j], List.getElem_mem hjl, ?_⟩
                have := (hU'.2 j _ (List.getElem?_eq_getElem hjl)).1
                rw [hj] at this
                injection this with this
                exact this.symm
              rcases List.mem_append.mp ht with ht | ht
              · obtain ⟨s, s1, s2⟩ := hV z hz ⟨t, ht, e⟩
                exact ⟨s, List.mem_append_left _ s1, s2⟩
              · obtain ⟨i, hi, e1⟩ := List.getElem_of_mem ht
                have e2 := (hU'.2 i t (by rw [List.getElem?_eq_getElem hi, e1])).1
                obtain ⟨j, c, hj, hjc⟩ := ring_links hF hE hlast hElen.symm hc e2 e.symm
                obtain ⟨s, s1, s2⟩ := inU j c hj
                exact ⟨s, List.mem_append_right _ s1, by rw [s2]; exact hjc⟩
            · have h0l : 0 < (U ++ [(h, R, E.length)]).length := by rw [List.length_append, List.length_singleton]; omega
              refine ⟨(U ++ [(h, R, E.length)])[0], List.mem_append_right _ (List.getElem_mem h0l), ?_⟩
              have := (hU'.2 0 _ (List.getElem?_eq_getElem h0l)).1
              have := hE.1 _ this
              rw [this]; omega
            · simp only [GT_size, hsz2, hsz, List.length_append, List.length_singleton, hU.1]
            · simp only [GR_firstStanding, GR_firstMember, GR_count, hfm2.1, hfm.1, ← hasc, List.length_append, List.length_singleton]
            · have := hSc2.2.2.2.1.1
              simp only [GR_firstStanding, GR_firstMember, GR_count, hfm2.2, hfm.2, this]
        · -- one more
          have hx2 : xr (mtv to h) < 2 * P := xr_lt hm.1
          have hE' := hE.snoc hF hlast hElen.symm hc2
          have hrec := ih f g (E ++ [h]) (xr (mtv to h)) (U ++ [(h, R, E.length)]) ri2 tn2 (by rw [← hasc, List.length_append (as := T0 ++ U), List.length_singleton]; omega) (by omega) (by omega) hU' hE' (fun i a hi t ht => by
              rcases getE_snoc hi with ⟨_, hi⟩ | ⟨_, rfl⟩
              · exact hD i a hi t ht
              · intro e
                rw [xr_2] at e
                obtain ⟨s, s1, s2⟩ := hC (mtv to h) hm.1 ⟨t, ht, e⟩
                rw [hm.2.1] at s2
                exact hD _ _ hlast s s1 s2) (by rw [← hasc]; exact hTo') (by rw [← hasc]; exact hSr2) (by rw [← hasc]; exact hSc2) (hsz2.trans hsz) ⟨hfm2.1.trans hfm.1, hfm2.2.trans hfm.2⟩
          rw [hElen, ← hasc, List.length_append (as := T0 ++ U), List.length_singleton] at hrec
          simp only [if_neg hc1]
          exact hrec
end RINGJ
