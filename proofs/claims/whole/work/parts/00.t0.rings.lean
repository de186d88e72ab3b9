section RINGSJ
variable {to : ToS} {rd : TnS} {P X : Nat} {ri0 : RiS}
def GF (to : ToS) (fm : Nat → Nat) (R : Nat) (T : List (Nat × Nat × Nat)) (ri : RiS) (tn : TnS) : Prop :=
  fm 0 = 0 ∧ fm R = T.length ∧ (∀ r, r < R → fm r < fm (r + 1)) ∧ (∀ (i : Nat) (t : Nat × Nat × Nat), T[i]? = some t → t.2.1 < R ∧ i = fm t.2.1 + t.2.2 ∧ i < fm (t.2.1 + 1)) ∧
  (∀ r, r < R → (Ri_firstMember ri r = nI (fm r) ∧ Ri_firstMember ri (r + 1) = nI (fm (r + 1))) ∧ (Ri_firstStanding ri r = nI (wL to (T.take (fm r))).length ∧ Ri_firstStanding ri (r + 1) = nI (wL to (T.take (fm (r + 1)))).length) ∧ Tn_size tn r = nI (fm (r + 1) - fm r))
/-- the links of a person's hands are of his ring -/
def SRI (to : ToS) (P : Nat) (T : List (Nat × Nat × Nat)) : Prop := ∀ z t s, z < 2 * P → t ∈ T → s ∈ T → t.1 / 2 = z / 2 → hlv to s.1 = hlv to z → s.2.1 = t.2.1
theorem nd_app {α : Type} {f : Nat × Nat × Nat → α} {T U : List (Nat × Nat × Nat)} (h : ((T ++ U).map f).Nodup) {t u : Nat × Nat × Nat} (ht : t ∈ T) (hu : u ∈ U) : f t ≠ f u := by
  rw [List.map_append, List.nodup_append] at h
  exact h.2.2 (f t) (List.mem_map_of_mem ht) (f u) (List.mem_map_of_mem hu)
theorem SRI.app {R : Nat} {T U : List (Nat × Nat × Nat)} (hF : HF to P) (h : SRI to P T) (hC : CLO to P T) (hV : VLK to P T) (hTo : TOK to P R (T ++ U)) (hU : ∀ u, u ∈ U → u.2.1 = R) : SRI to P (T ++ U) := by
  intro z t s hz ht hs e1 e2
  have hsl := (hTo.2.2 s hs).1
  rcases List.mem_append.mp ht with ht | ht
  · rcases List.mem_append.mp hs with hs | hs
    · exact h z t s hz ht hs e1 e2
    · obtain ⟨s', a1, a2⟩ := hV z hz ⟨t, ht, e1⟩
      exact absurd (a2.trans e2.symm) (nd_app (f := fun t => hlv to t.1) hTo.2.1 a1 hs)
  · rcases List.mem_append.mp hs with hs | hs
    · exfalso
      rcases hl_same hF hsl hz e2 with c | c
      · exact nd_app (f := fun t => t.1 / 2) hTo.1 hs ht (by show s.1 / 2 = t.1 / 2; rw [c, e1])
      · obtain ⟨t', a1, a2⟩ := hC s.1 hsl ⟨s, hs, rfl⟩
        rw [c, (hF.mt hz).2.1] at a2
        exact nd_app (f := fun t => t.1 / 2) hTo.1 a1 ht (by show t'.1 / 2 = t.1 / 2; rw [a2, e1])
    · rw [hU t ht, hU s hs]
def AOK (to : ToS) (rd : TnS) (ri0 : RiS) (P R : Nat) (T : List (Nat × Nat × Nat)) (fm : Nat → Nat) (ri : RiS) (tn : TnS) : Prop :=
  SXr to rd P R T tn ∧ SXc to ri0 P R T ri ∧ TOK to P R T ∧ CLO to P T ∧ VLK to P T ∧ SRI to P T ∧ GF to fm R T ri tn
theorem fm_le {fm : Nat → Nat} {R : Nat} (h0 : fm 0 = 0) (h : ∀ r, r < R → fm r < fm (r + 1)) : ∀ r, r ≤ R → r ≤ fm r := by
  intro r
  induction r with
  | zero => intro _; omega
  | succ r ih => intro hr; have := ih (by omega); have := h r (by omega); omega
theorem fm_mono {fm : Nat → Nat} {R : Nat} (h : ∀ r, r < R → fm r < fm (r + 1)) : ∀ s r, r ≤ s → s ≤ R → fm r ≤ fm s := by
  intro s
  induction s with
  | zero => intro r h1 _; rw [show r = 0 by omega]; exact Nat.le_refl _
  | succ s ih =>
    intro r h1 h2
    by_cases c : r = s + 1
    · rw [c]; exact Nat.le_refl _
    · have := ih r (by omega) (by omega); have := h s (by omega); omega
theorem rings_J (hT : TB to rd P P X) (hH : RH to P ri0) :
    ∀ k f g q R T fm ri tn, P - q = k → k < f → k < g → q ≤ P → AOK to rd ri0 P R T fm ri tn → (∀ p, p < q → ∃ t, t ∈ T ∧ t.1 / 2 = p) →
    Ok (f_X12_laysRings_L25 f (nI q) tn) (fun tn' => ∃ R' T' fm' ri1, AOK to rd ri0 P R' T' fm' ri1 tn' ∧ (∀ p, p < P → ∃ t, t ∈ T' ∧ t.1 / 2 = p) ∧ f_X6_trace_L107 g (nI T.length) (nI q) ri to = bd1 (f_X6_traceSigns ri1 to) fun r => some r) := by
  have hn := hT.1.1
  have hF := hT.hf
  intro k
  induction k with
  | zero =>
    intro f g q R T fm ri tn hk hf hg hq hA hv
    have eq : q = P := by omega
    subst eq
    cases f with
    | zero => omega
    | succ f =>
      cases g with
      | zero => omega
      | succ g =>
        have kp : Ri_people ri = nI q := (congrArg (fun z => z.1.1) hA.2.1.2.1).trans hH.1
        have kt : Tn_people tn = nI q := (congrArg (fun z => z.1.2.1) hA.1.2.1).trans hT.1.2.2.1
        rw [f_X12_laysRings_L25, kt, if_pos (nI_le (by omega) (by omega)), Ok_some]
        refine ⟨R, T, fm, ri, hA, hv, ?_⟩
        rw [f_X6_trace_L107, kp, if_pos (nI_le (by omega) (by omega))]
  | succ k ih =>
    intro f g q R T fm ri tn hk hf hg hq hA hv
    have hqP : q < P := by omega
    obtain ⟨hSr, hSc, hTo, hC, hV, hSI, hG⟩ := hA
    obtain ⟨gf1, gf2, gf3, gf4, gf5⟩ := hG
    cases f with
    | zero => omega
    | succ f =>
      cases g with
      | zero => omega
      | succ g =>
        have kp : Ri_people ri = nI P := (congrArg (fun z => z.1.1) hSc.2.1).trans hH.1
        have kt : Tn_people tn = nI P := (congrArg (fun z => z.1.2.1) hSr.2.1).trans hT.1.2.2.1
        have klv : Ri_linkIn ri (2 * q) = nI (hlv to (2 * q)) := by
          have : Ri_linkIn ri = Ri_linkIn ri0 := congrArg (fun z => z.2.2.1) hSc.2.1
          rw [this, (hH.2 (2 * q) (by omega)).2]
        have hl8 := (hF.2 (2 * q) (by omega)).2.1
        have g0 : nI 0 ≤ nI (hlv to (2 * q)) := nI_le (by omega) (by omega)
        have erw : f_X6_ringWith ri (nI q) = some (Ri_linkRing ri (hlv to (2 * q))) := by
          unfold f_X6_ringWith
          rw [i2, ckI (show 2 * q < 16 by omega) (by decide), nI_clamp (show 2 * q < 2 ^ 31 by omega), lt1_e, klv, if_pos (show (0 : Int32) ≤ nI (hlv to (2 * q)) from g0), ckI (show hlv to (2 * q) < 8 by omega) (by decide), nI_clamp (show hlv to (2 * q) < 2 ^ 31 by omega)]
        rw [f_X12_laysRings_L25, kt, if_neg (nI_ge hqP (by omega)), ckI (show q < 8 by omega) (by decide), nI_clamp (by omega), f_X6_trace_L107, kp, if_neg (nI_ge hqP (by omega)), bd1_e erw]
        unfold f_X12_laysRings_L63 f_X6_trace_L132
        simp only [lt1_e, nI_1]
        have hRT : R ≤ T.length := by rw [← gf2]; exact fm_le gf1 gf3 R (Nat.le_refl _)
        have hTP : T.length ≤ P := by
          have := hTo.1.length_le_of_subset (l₂ := List.range P) (fun a ha => by
            rw [List.mem_map] at ha
            obtain ⟨s, hs, rfl⟩ := ha
            have := (hTo.2.2 s hs).1
            rw [List.mem_range]; omega)
          rw [List.length_map, List.length_range] at this
          exact this
        by_cases hvis : ∃ t, t ∈ T ∧ t.1 / 2 = q
        · -- one who has been
          obtain ⟨t, ht, e⟩ := hvis
          obtain ⟨i, hi, ei⟩ := List.getElem_of_mem ht
          have r1 := (hSr.2.2.1 i t.1 t.2.1 t.2.2 (by rw [List.getElem?_eq_getElem hi, ei])).1
          rw [e] at r1
          have hb := (hTo.2.2 t ht)
          have hr8 : t.2.1 < 8 := by
            have := (gf4 i t (by rw [List.getElem?_eq_getElem hi, ei])).1
            omega
          obtain ⟨s, hs, es⟩ := hV (2 * q) (by omega) ⟨t, ht, by omega⟩
          obtain ⟨j, hj, ej⟩ := List.getElem_of_mem hs
          have c1 := (hSc.2.2.1 j s.1 s.2.1 s.2.2 (by rw [List.getElem?_eq_getElem hj, ej])).2.2.1
          rw [es] at c1
          have hs8 := (gf4 j s (by rw [List.getElem?_eq_getElem hj, ej])).1
          rw [r1, if_neg (by rw [nI_neg1 (by omega)]; exact id), c1, if_neg (by rw [nI_neg1 (by omega)]; exact id)]
          exact ih f g (q + 1) R T fm ri tn (by omega) (by omega) (by omega) (by omega) ⟨hSr, hSc, hTo, hC, hV, hSI, gf1, gf2, gf3, gf4, gf5⟩ (fun p hp => by
            by_cases ep : p = q
            · exact ⟨t, ht, by rw [ep]; exact e⟩
            · exact hv p (by omega))
        · -- a new ring
          have hno : ∀ t, t ∈ T → t.1 / 2 ≠ q := fun t ht e => hvis ⟨t, ht, e⟩
          have rr := hSr.2.2.2.2 q hqP hno
          have cr := hSc.2.2.2.2 (hlv to (2 * q)) hl8 (fun t ht e => by
            have htl := (hTo.2.2 t ht).1
            rcases hl_same hF htl (show 2 * q < 2 * P by omega) e with c | c
            · exact hno t ht (by rw [c]; omega)
            · obtain ⟨s, s1, s2⟩ := hC t.1 htl ⟨t, ht, rfl⟩
              rw [c, (hF.mt (show 2 * q < 2 * P by omega)).2.1] at s2
              exact hno s s1 (by omega))
          rw [rr, if_pos rfl, cr, if_pos rfl, i2]
          have hR8 : R < 9 := by omega
          have etr : f_X6_traceRing ri to (nI q) (nI T.length) = f_X6_traceRing_L35 FU (nI q) (nI T.length) (nI (2 * q)) (0 : Int32) (Ri_firstStanding' (Ri_firstMember' ri (upd (Ri_firstMember ri) R (nI T.length))) (upd (Ri_firstStanding ri) R (nI (wL to T).length))) to := by
            unfold f_X6_traceRing
            simp only [lt1_e, hSc.1, GR_firstMember, i2, ckI hR8 (show 9 < 2 ^ 31 by decide), nI_clamp (show R < 2 ^ 31 by omega), hSc.2.2.2.1.1]
          rw [etr]
          have hSc3 : SXc to ri0 P R T (Ri_firstStanding' (Ri_firstMember' ri (upd (Ri_firstMember ri) R (nI T.length))) (upd (Ri_firstStanding ri) R (nI (wL to T).length))) := by
            obtain ⟨a1, a2, a3, a4, a5⟩ := hSc
            refine ⟨?_, ?_, fun i h' r w e => ?_, ⟨?_, fun s l v e => ?_, fun s hs h16 => ?_⟩, fun q hq hno => ?_⟩
            · simp only [GR_firstStanding, GR_firstMember, a1]
            · rw [← a2]; unfold rk2; simp only [GR_firstStanding, GR_firstMember]
            · have := a3 i h' r w e
              simp only [GR_firstStanding, GR_firstMember]
              exact this
            · simp only [GR_firstStanding, GR_firstMember, a4.1]
            · have := a4.2.1 s l v e
              simp only [GR_firstStanding, GR_firstMember]
              exact this
            · have := a4.2.2 s hs h16
              simp only [GR_firstStanding, GR_firstMember]
              exact this
            · have := a5 q hq hno
              simp only [GR_firstStanding, GR_firstMember]
              exact this
          have e0 : T ++ ([] : List (Nat × Nat × Nat)) = T := List.append_nil T
          have hJ := ring_J (p := q) (T0 := T) (R := R) (tn := tn) (ri := Ri_firstStanding' (Ri_firstMember' ri (upd (Ri_firstMember ri) R (nI T.length))) (upd (Ri_firstStanding ri) R (nI (wL to T).length))) hT hH hqP (fun t ht => by
              obtain ⟨i, hi, ei⟩ := List.getElem_of_mem ht
              exact (gf4 i t (by rw [List.getElem?_eq_getElem hi, ei])).1) hRT hC hV (P - T.length) FU FU [] (2 * q) [] _ tn (by rw [e0]) (by rw [FU_e]; omega) (by rw [FU_e]; omega) ⟨rfl, fun i t h => by simp at h⟩ (RGK.one hqP) (fun i a hi t ht => by
                have hi0 := (List.getElem?_eq_some_iff.mp hi).1
                have : i = 0 := by simpa using hi0
                subst this
                have : a = 2 * q := by simpa using hi.symm
                intro e
                exact hno t ht (by rw [e, this]; omega)) (by rw [e0]; exact hTo) (by rw [e0]; exact hSr) (by rw [e0]; exact hSc3) rfl ⟨rfl, rfl⟩
          rw [e0] at hJ
          unfold f_X12_laysRing
          rw [Ok_bd1]
          refine (show Ok (f_X12_laysRing_L4 FU (nI (2 * q)) (nI (2 * q)) (0 : Int32) tn) _ from hJ).mono (fun tn3 h3 => ?_)
          obtain ⟨c, c0, U, u1, u2, u3, u4, u5, u6, u7, u8, u9, u10, u11, u12⟩ := h3
          have c0 : f_X6_traceRing_L35 FU (nI q) (nI T.length) (nI (2 * q)) (0 : Int32) (Ri_firstStanding' (Ri_firstMember' ri (upd (Ri_firstMember ri) R (nI T.length))) (upd (Ri_firstStanding ri) R (nI (wL to T).length))) to = some (c.1, c.2) := c0
          rw [bd2_e c0, u3.1, nI_1, u1]
          have lenU : (T ++ U).length = T.length + U.length := List.length_append
          refine ih f g (q + 1) (R + 1) (T ++ U) (fun r => if r ≤ R then fm r else (T ++ U).length) c.2 (Tn_rings' tn3 (nI (R + 1))) (by omega) (by omega) (by omega) (by omega) ⟨?_, u4, ⟨u5.1, u5.2.1, fun t ht => ⟨(u5.2.2 t ht).1, (u5.2.2 t ht).2.1, by have := (u5.2.2 t ht).2.2; omega⟩⟩, u6, u7, hSI.app hF hC hV u5 (fun u hu => by
            obtain ⟨i, hi, ei⟩ := List.getElem_of_mem hu
            exact (u9 i u (by rw [List.getElem?_eq_getElem hi, ei])).1), ?_⟩ (fun p hp => ?_)
          · obtain ⟨a1, a2, a3, a4, a5⟩ := u3
            refine ⟨?_, ?_, fun i h' r w e => ?_, ⟨?_, fun s l v e => ?_, fun s hs h16 => ?_⟩, fun q hq hno => ?_⟩
            · simp only [GT_rings]
            · rw [← a2]; unfold tk2; simp only [GT_rings]
            · have := a3 i h' r w e
              simp only [GT_rings]
              exact this
            · simp only [GT_rings, a4.1]
            · have := a4.2.1 s l v e
              simp only [GT_rings]
              exact this
            · have := a4.2.2 s hs h16
              simp only [GT_rings]
              exact this
            · have := a5 q hq hno
              simp only [GT_rings]
              exact this
          · refine ⟨?_, ?_, fun r hr => ?_, fun i t ht => ?_, fun r hr => ?_⟩
            · dsimp only; rw [if_pos (by omega)]; exact gf1
            · dsimp only; rw [if_neg (by omega)]
            · dsimp only
              by_cases c1 : r < R
              · rw [if_pos (by omega), if_pos (by omega)]; exact gf3 r c1
              · have : r = R := by omega
                subst this
                rw [if_pos (by omega), if_neg (by omega), gf2]; omega
            · dsimp only
              by_cases c1 : i < T.length
              · rw [List.getElem?_append_left c1] at ht
                obtain ⟨b1, b2, b3⟩ := gf4 i t ht
                rw [if_pos (by omega), if_pos (by omega)]
                exact ⟨by omega, b2, b3⟩
              · rw [List.getElem?_append_right (by omega)] at ht
                obtain ⟨b1, b2⟩ := u9 _ t ht
                have hil := (List.getElem?_eq_some_iff.mp ht).1
                rw [b1, if_pos (Nat.le_refl _), if_neg (by omega), gf2]
                exact ⟨by omega, by omega, by omega⟩
            · rw [u11, u12]
              simp only [GT_rings, u10, GR_firstStanding, GR_firstMember]
              by_cases c1 : r < R
              · obtain ⟨⟨b1, b2⟩, ⟨b3, b4⟩, b5⟩ := gf5 r c1
                have m1 := fm_mono gf3 R r (by omega) (Nat.le_refl _)
                have m2 := fm_mono gf3 R (r + 1) (by omega) (Nat.le_refl _)
                rw [gf2] at m1 m2
                rw [if_pos (by omega), if_pos (by omega), upd_ne (show r ≠ R + 1 by omega), upd_ne (show r ≠ R by omega), upd_ne (show r + 1 ≠ R + 1 by omega), upd_ne (show r ≠ R + 1 by omega), upd_ne (show r ≠ R by omega), upd_ne (show r + 1 ≠ R + 1 by omega), upd_ne (show r ≠ R by omega), List.take_append_of_le_length m1, List.take_append_of_le_length m2]
                by_cases c2 : r + 1 = R
                · rw [c2, upd_at, upd_at, gf2, List.take_length]
                  exact ⟨⟨b1, rfl⟩, ⟨b3, rfl⟩, by rw [b5, c2, gf2]⟩
                · rw [upd_ne c2, upd_ne c2]
                  exact ⟨⟨b1, b2⟩, ⟨b3, b4⟩, b5⟩
              · have : r = R := by omega
                subst this
                rw [if_pos (Nat.le_refl _), if_neg (by omega), upd_ne (show r ≠ r + 1 by omega), upd_at, upd_at, upd_ne (show r ≠ r + 1 by omega), upd_at, upd_at, upd_at, gf2, List.take_append_of_le_length (Nat.le_refl _), List.take_length, List.take_length]
                exact ⟨⟨rfl, rfl⟩, ⟨rfl, rfl⟩, by congr 1; omega⟩
          · by_cases ep : p = q
            · rw [ep]; exact u8
            · obtain ⟨t, ht, e⟩ := hv p (by omega)
              exact ⟨t, List.mem_append_left _ ht, e⟩
end RINGSJ
