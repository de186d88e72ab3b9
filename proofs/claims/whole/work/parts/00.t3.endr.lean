/-! all rings are traced: the class's rings -/
section ENDR
variable {to : ToS} {rd tn : TnS} {P X R : Nat} {T : List (Nat × Nat × Nat)} {ri0 ri : RiS} {fm : Nat → Nat}
/-- what the class's rings have of the hands -/
def RHD (to : ToS) (P X : Nat) (ri0 : RiS) : Prop := (Ri_links ri0 = nI P ∧ Ri_crossings ri0 = nI X ∧ Ri_tall ri0 = To_tall to ∧ Ri_once ri0 = To_once to) ∧ ∀ l, l < P → HD to ri0 l
theorem ALLT.fs (h : ALLT to rd ri0 P X R T fm ri tn) {r : Nat} (hr : r ≤ R) : Ri_firstStanding ri r = nI (ln to T (fm r)) ∧ fsr ri r = ln to T (fm r) ∧ ln to T (fm r) ≤ 2 * X := by
  have hw := h.wlen
  have h8 := h.R8
  have hn := h.2.1.1.1
  obtain ⟨h1, hT, hH, hA, hv⟩ := h
  obtain ⟨hSr, hSc, hTo, hC, hV, hSI, gf1, gf2, gf3, gf4, gf5⟩ := hA
  have b : ln to T (fm r) ≤ 2 * X := by
    have := ln_mono (to := to) (T := T) (fm_mono gf3 R r hr (Nat.le_refl _))
    rw [gf2, ln_all] at this
    omega
  have a : Ri_firstStanding ri r = nI (ln to T (fm r)) := by
    by_cases c : r < R
    · exact (gf5 r c).2.1.1
    · obtain ⟨k, rfl⟩ : ∃ k, R = k + 1 := ⟨R - 1, by omega⟩
      have : r = k + 1 := by omega
      subst this
      exact (gf5 k (by omega)).2.1.2
  refine ⟨a, ?_, b⟩
  unfold fsr
  rw [a, cl_I (by omega)]
theorem ALLT.fit (h : ALLT to rd ri0 P X R T fm ri tn) (hb : To_begun to = 1) (hD : RHD to P X ri0) {l : Nat} (hl : l < P) : Ri_linkFits ri l = tf (fitL tn l) ∧ Ri_linkGoer ri l = nI (gl tn l) := by
  have h8 := h.R8
  have hT := h.2.1
  have hk := h.2.2.2.1.1.2.1
  have hr := h.2.2.2.1.2.1.2.1
  obtain ⟨_, _, g, g8, d1, d2, d3⟩ := hD.2 l hl
  obtain ⟨o1, o2, o3, o4⟩ := hall_of hT hl
  obtain ⟨_, f1, f2, f3, f4, f5⟩ := hT.hf.1 l hl
  have k1 : Tn_one tn = Tn_one rd := congrArg (fun z => z.2.1.1) hk
  have k2 : Tn_two tn = Tn_two rd := congrArg (fun z => z.2.1.2.2.1) hk
  have k3 : Tn_tall tn = Tn_tall rd := congrArg (fun z => z.1.2.2.2.2.2) hk
  have k4 : Tn_height tn = Tn_height rd := congrArg (fun z => z.1.1) hk
  have e1 : Ri_linkGoer ri = Ri_linkGoer ri0 := congrArg (fun z => z.2.2.2.1) hr
  have e2 : Ri_linkFits ri = Ri_linkFits ri0 := congrArg (fun z => z.2.2.2.2) hr
  have t1 : on1 tn l = hxv to l / 2 := by unfold on1; rw [k1, o1, cl_I (by omega)]
  have t2 : on2 tn l = hyv to l / 2 := by unfold on2; rw [k2, o3, cl_I (by omega)]
  have tt : ∀ p, p < P → To_talls to p = nI (tl tn p) ∧ tl tn p < 100 := fun p hp => by
    obtain ⟨t, a1, a2, a3, a4⟩ := hT.2.2.2.1 p hp
    have : tl tn p = t := by unfold tl; rw [k3, a4, cl_I (by omega)]
    rw [this]; exact ⟨a3, a2⟩
  have hgl : g = gl tn l := by
    rw [d2]
    unfold gl
    rw [t1, t2]
    have q1 : hxv to l / 2 < P := by omega
    have q2 : hyv to l / 2 < P := by omega
    generalize hxv to l / 2 = a at *
    generalize hyv to l / 2 = b at *
    obtain ⟨p1, p2⟩ := tt (min a b) (by omega)
    obtain ⟨p3, p4⟩ := tt (max a b) (by omega)
    rw [p1, p3]
    by_cases c : a ≤ b
    · rw [Nat.min_eq_left c, Nat.max_eq_right c]
      by_cases d : tl tn a ≤ tl tn b
      · rw [if_pos (nI_le d (by rw [Nat.max_eq_right c] at p4; omega)), if_neg (by omega)]
      · rw [if_neg (nI_ge (by omega) (by rw [Nat.min_eq_left c] at p2; omega)), if_pos (by omega)]
    · rw [Nat.min_eq_right (by omega), Nat.max_eq_left (by omega)]
      by_cases d : tl tn b ≤ tl tn a
      · rw [if_pos (nI_le d (by rw [Nat.max_eq_left (by omega)] at p4; omega)), if_pos (by omega)]
      · rw [if_neg (nI_ge (by omega) (by rw [Nat.min_eq_right (by omega)] at p2; omega)), if_neg (by omega)]
  have hgP : gl tn l < P := by
    unfold gl
    rw [t1, t2]
    split <;> omega
  rw [e1, e2, d1, d3, hgl]
  refine ⟨?_, rfl⟩
  have hh : ∃ v, v < 100 ∧ To_tall to = nI v ∧ Tn_height rd = nI v := by
    rcases hT.2.1.1 with a | ⟨_, v, v1, v2, v3⟩
    · rw [hb] at a; exact absurd a.1 (by decide)
    · exact ⟨v, v1, v2, v3⟩
  obtain ⟨v, v1, v2, v3⟩ := hh
  obtain ⟨p1, p2⟩ := tt (gl tn l) hgP
  unfold fitL
  rw [hD.1.2.2.1, v2, k4, v3, p1]
  by_cases c : v < tl tn (gl tn l)
  · rw [if_pos (nI_lt c (by omega)), tf_f (nI_ge c (by omega))]
  · rw [if_neg (nI_nlt (by omega) (by omega)), tf_t (nI_le (by omega) (by omega))]
theorem ALLT.tr (h : ALLT to rd ri0 P X R T fm ri tn) (hb : To_begun to = 1) (hD : RHD to P X ri0) : TR ri tn := by
  have hw := h.wlen
  have h8 := h.R8
  have hn := h.2.1.1.1
  have hlen := h.len
  obtain ⟨⟨e1, e2, e3, e4, e5⟩, c1, c2, c3, c4, c5⟩ := h.nums
  have hT := h.2.1
  have hk := h.2.2.2.1.1.2.1
  have hc := h.2.2.2.1.2.1
  have hr := hc.2.1
  obtain ⟨gf1, gf2, gf3, gf4, gf5⟩ := h.2.2.2.1.2.2.2.2.2.2
  have rng : ∀ {i : Nat} {t : Nat × Nat × Nat} {s : Nat}, T[i]? = some t → ln to T i ≤ s → s < ln to T (i + 1) → ln to T (fm t.2.1) ≤ s ∧ s < ln to T (fm (t.2.1 + 1)) := by
    intro i t s ht a b
    obtain ⟨b1, b2, b3⟩ := gf4 i t ht
    have m1 := ln_mono (to := to) (T := T) (show fm t.2.1 ≤ i by omega)
    have m2 := ln_mono (to := to) (T := T) (show i + 1 ≤ fm (t.2.1 + 1) by omega)
    omega
  unfold TR
  rw [c1, c2, c3, c4, c5]
  refine ⟨⟨?_, hc.1, ?_, ?_, ?_⟩, fun s hs => ?_, fun l hl => ?_, ⟨fun r hr => ?_, ?_, ?_, fun r hr => ?_, fun r s hr hs => ?_⟩, fun l hl => ?_, fun l hl => h.fit hb hD hl, fun a ha => ?_⟩
  · exact (congrArg (fun z => z.1.2.2.1) hr).trans hD.1.2.1
  · rw [hc.2.2.2.1.1, hw]
  · exact (congrArg (fun z => z.1.1) hr).trans h.2.2.1.1
  · exact (congrArg (fun z => z.1.2.1) hr).trans hD.1.1
  · obtain ⟨i, t, v, a1, a2, a3, a4, a5, a6, ⟨a7, a8, a9, a10, a11⟩, a12⟩ := h.st hs
    rw [a4, a8]
  · obtain ⟨i, t, a1, a2⟩ := h.link hl
    have b := (hc.2.2.1 i t.1 t.2.1 t.2.2 a1).2.2.1
    have := h.lrro a1
    rw [a2] at b this
    rw [b, this.2.1]
  · have := h.fs hr
    rw [this.2.1]
    exact ⟨this.1, this.2.2⟩
  · rw [(h.fs (by omega)).2.1, gf1, ln_0]
  · rw [(h.fs (Nat.le_refl _)).2.1, gf2, ln_all, hw]
  · rw [(h.fs (show r ≤ R by omega)).2.1, (h.fs (show r + 1 ≤ R by omega)).2.1]
    exact ln_mono (by have := gf3 r hr; omega)
  · rw [(h.fs (show r ≤ R by omega)).2.1, (h.fs (show r + 1 ≤ R by omega)).2.1]
    obtain ⟨i, t, v, a1, a2, a3, a4, a5, _⟩ := h.st hs
    have hq := rng a1 a3.1 a3.2
    have ht := (gf4 i t a1).1
    rw [a5]
    constructor
    · intro e; rw [← e]; exact hq
    · intro ⟨q1, q2⟩
      by_cases c : t.2.1 = r
      · exact c
      · by_cases d : t.2.1 < r
        · have := ln_mono (to := to) (T := T) (fm_mono gf3 r (t.2.1 + 1) (by omega) (by omega))
          omega
        · have := ln_mono (to := to) (T := T) (fm_mono gf3 t.2.1 (r + 1) (by omega) (by omega))
          omega
  · obtain ⟨i, t, a1, a2⟩ := h.link hl
    have b := (hc.2.2.1 i t.1 t.2.1 t.2.2 a1).2.2.2
    have hlr := h.lrro a1
    have ht := gf4 i t a1
    rw [a2] at b hlr
    have hil : i < T.length := (List.getElem?_eq_some_iff.mp a1).1
    have hle : ln to T i ≤ 2 * X := by
      have := ln_mono (to := to) (T := T) (show i ≤ T.length by omega)
      rw [ln_all] at this
      omega
    have b' : Ri_linkStart ri l = nI (ln to T i) := b
    have els : lsr ri l = ln to T i := by unfold lsr; rw [b', cl_I (by omega)]
    rw [els, hlr.2.1, hlr.2.2.2, (h.fs (show t.2.1 ≤ R by omega)).2.1, (h.fs (show t.2.1 + 1 ≤ R by omega)).2.1]
    refine ⟨b', ln_mono (by omega), ln_mono (by omega), fun s hs hrg hne => ?_⟩
    obtain ⟨j, u, v, d1, d2, d3, d4, d5, _⟩ := h.st hs
    rw [d4, (h.lrro d1).2.2.2]
    have o := (h.ord a1 d1).2.2 (by rw [← d5]; exact hrg.symm)
    rw [← o]
    constructor
    · intro q
      have := ln_lt d3.2 q (Nat.le_refl _)
      by_cases c : i = j
      · subst c
        rw [a1] at d1
        injection d1 with d1
        rw [d4, ← d1] at hne
        exact absurd a2 hne
      · omega
    · intro q
      have := ln_mono (to := to) (T := T) (show i ≤ j by omega)
      omega
  · have k1 : Tn_linkOf tn = Tn_linkOf rd := congrArg (fun z => z.2.1.2.2.2.2) hk
    have k2 : Ri_linkIn ri = Ri_linkIn ri0 := congrArg (fun z => z.2.2.1) hr
    rw [k1, k2, (h.2.2.1.2 a ha).2, hT.2.2.2.2.1.2.2.1 a ha, (hT.hf.2 a ha).1]
theorem ALLT.rf (h : ALLT to rd ri0 P X R T fm ri tn) (hb : To_begun to = 1) (hD : RHD to P X ri0) : RF ri tn := by
  have h8 := h.R8
  have hn := h.2.1.1.1
  have hlen := h.len
  obtain ⟨⟨e1, e2, e3, e4, e5⟩, c1, c2, c3, c4, c5⟩ := h.nums
  have hT := h.2.1
  have hk := h.2.2.2.1.1.2.1
  have hs3 := h.2.2.2.1.1.2.2.1
  have hc := h.2.2.2.1.2.1
  have hr := hc.2.1
  have hSI := h.2.2.2.1.2.2.2.2.2.1
  obtain ⟨gf1, gf2, gf3, gf4, gf5⟩ := h.2.2.2.1.2.2.2.2.2.2
  have k1 : Tn_linkOf tn = Tn_linkOf rd := congrArg (fun z => z.2.1.2.2.2.2) hk
  unfold RF
  rw [c3, c4, c5]
  refine ⟨fun p hp => ?_, fun r hr => ?_, fun a ha => ?_, fun l hl => ?_, ?_, ?_⟩
  · have hl := (hT.hf.2 (2 * p) (by omega)).2.1
    obtain ⟨i, t, a1, a2⟩ := h.link hl
    obtain ⟨u, hu, eu⟩ := h.2.2.2.2 p hp
    obtain ⟨j, hj, ej⟩ := List.getElem_of_mem hu
    have hj' : T[j]? = some u := by rw [List.getElem?_eq_getElem hj, ej]
    have r1 := (hs3 j u.1 u.2.1 u.2.2 hj').1
    have es := hSI (2 * p) u t (by omega) hu (List.mem_of_getElem? a1) (by omega) a2
    have hlr := (h.lrro a1).2.1
    rw [a2] at hlr
    refine ⟨hlv to (2 * p), hl, by rw [k1, hT.2.2.2.2.1.2.2.1 (2 * p) (by omega), (hT.hf.2 (2 * p) (by omega)).1], ?_⟩
    rw [hlr, es, ← r1, eu]
  · have m := fm_mono gf3 R (r + 1) (by omega) (Nat.le_refl _)
    have m0 := gf3 r hr
    obtain ⟨⟨b1, b2⟩, _, b5⟩ := gf5 r hr
    refine ⟨fm r, fm (r + 1) - fm r, by omega, b1, by rw [b2]; congr 1; omega, b5, fun i hi => ?_⟩
    have hil : fm r + i < T.length := by omega
    have hg : T[fm r + i]? = some T[fm r + i] := List.getElem?_eq_getElem hil
    generalize T[fm r + i] = t at hg
    obtain ⟨d1, d2, d3⟩ := gf4 _ t hg
    have er : t.2.1 = r := by
      by_cases c : t.2.1 = r
      · exact c
      · by_cases d : t.2.1 < r
        · have := fm_mono gf3 r (t.2.1 + 1) (by omega) (by omega)
          omega
        · have := fm_mono gf3 t.2.1 (r + 1) (by omega) (by omega)
          omega
    have ew : t.2.2 = i := by rw [er] at d2; omega
    have m1 := (hc.2.2.1 _ t.1 t.2.1 t.2.2 hg).1
    have m2 := (hs3 _ t.1 t.2.1 t.2.2 hg).2.1
    rw [m1, ← er, ← ew, m2]
  · have k2 : Ri_partner ri = Ri_partner ri0 := congrArg (fun z => z.2.1) hr
    rw [other_e hT hk ha, k2, (h.2.2.1.2 a ha).1]
  · obtain ⟨i, t, a1, a2⟩ := h.link hl
    have b := (hc.2.2.1 i t.1 t.2.1 t.2.2 a1).2.1
    have d := (hs3 i t.1 t.2.1 t.2.2 a1).2.2.2.2
    rw [a2] at b d
    rw [b, d]
    cases alo to t.1
    · exact Or.inl ⟨rfl, rfl⟩
    · exact Or.inr ⟨by decide, rfl⟩
  · have k3 : Ri_tall ri = Ri_tall ri0 := congrArg (fun z => z.1.2.2.2.1) hr
    have k4 : Tn_height tn = Tn_height rd := congrArg (fun z => z.1.1) hk
    rw [k3, k4, hD.1.2.2.1]
    rcases hT.2.1.1 with a | ⟨_, v, v1, v2, v3⟩
    · rw [hb] at a; exact absurd a.1 (by decide)
    · rw [v2, v3]
  · have k3 : Ri_once ri = Ri_once ri0 := congrArg (fun z => z.1.2.2.2.2) hr
    have k4 : Tn_once tn = Tn_once rd := congrArg (fun z => z.1.2.2.2.2.1) hk
    rw [k3, k4, hD.1.2.2.2, hT.2.1.2.1]
end ENDR
