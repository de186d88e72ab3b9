section SORTED
variable {l : List Nat} {f : Nat → Nat} {a b : Nat}
theorem AP_sorted (h : l.Pairwise (fun x y => f x < f y)) : AP l a b ↔ a ∈ l ∧ b ∈ l ∧ f a < f b ∧ ∀ c, c ∈ l → ¬ (f a < f c ∧ f c < f b) := by
  constructor
  · rintro ⟨l1, l2, e⟩
    subst e
    rw [List.pairwise_append] at h
    obtain ⟨_, h2, h3⟩ := h
    rw [List.pairwise_cons] at h2
    obtain ⟨h4, h5⟩ := h2
    rw [List.pairwise_cons] at h5
    obtain ⟨h6, _⟩ := h5
    refine ⟨by simp, by simp, h4 b (by simp), fun c hc => ?_⟩
    rcases List.mem_append.mp hc with h7 | h7
    · have := h3 c h7 a (by simp); omega
    · rcases List.mem_cons.mp h7 with rfl | h7
      · omega
      · rcases List.mem_cons.mp h7 with rfl | h7
        · omega
        · have := h6 c h7; omega
  · rintro ⟨h1, h2, h3, h4⟩
    obtain ⟨l1, l', e⟩ := List.append_of_mem h1
    subst e
    rw [List.pairwise_append] at h
    obtain ⟨_, h5, h6⟩ := h
    rw [List.pairwise_cons] at h5
    have hb : b ∈ l' := by
      rcases List.mem_append.mp h2 with h7 | h7
      · have := h6 b h7 a (by simp); omega
      · rcases List.mem_cons.mp h7 with rfl | h7
        · omega
        · exact h7
    cases l' with
    | nil => cases hb
    | cons c l2 =>
      rcases List.mem_cons.mp hb with rfl | h7
      · exact ⟨l1, l2, rfl⟩
      · have q1 := h5.1 c (by simp)
        have q2 := (List.pairwise_cons.mp h5.2).1 b h7
        exact absurd ⟨q1, q2⟩ (h4 c (by simp))
theorem CPr_sorted (h : l.Pairwise (fun x y => f x < f y)) : CPr l a b ↔ a ∈ l ∧ b ∈ l ∧ a ≠ b ∧ (∀ c, c ∈ l → f c ≤ f a) ∧ (∀ c, c ∈ l → f b ≤ f c) := by
  constructor
  · rintro ⟨l', e⟩
    subst e
    have e2 : b :: l' ++ [a] = [b] ++ (l' ++ [a]) := rfl
    have h1 := List.pairwise_append.mp h
    have h2 := h
    rw [e2] at h2
    have h2 := List.pairwise_append.mp h2
    have hba : f b < f a := h1.2.2 b (by simp) a (by simp)
    refine ⟨by simp, by simp, fun e => by rw [e] at hba; omega, fun c hc => ?_, fun c hc => ?_⟩
    · rcases List.mem_append.mp hc with h7 | h7
      · have := h1.2.2 c h7 a (by simp); omega
      · rw [List.mem_singleton.mp h7]; exact Nat.le_refl _
    · rw [e2] at hc
      rcases List.mem_append.mp hc with h7 | h7
      · rw [List.mem_singleton.mp h7]; exact Nat.le_refl _
      · have := h2.2.2 b (by simp) c h7; omega
  · rintro ⟨h1, h2, h3, h4, h5⟩
    cases l with
    | nil => cases h1
    | cons x l1 =>
      have ex : x = b := by
        rcases List.mem_cons.mp h2 with e | h7
        · exact e.symm
        · have q1 := (List.pairwise_cons.mp h).1 b h7
          have q2 := h5 x (by simp)
          omega
      subst ex
      rcases List.eq_nil_or_concat l1 with e | ⟨l2, y, e⟩
      · subst e
        rcases List.mem_cons.mp h1 with e | h7
        · exact absurd e h3
        · cases h7
      · rw [List.concat_eq_append] at e
        subst e
        have ey : y = a := by
          have e2 : x :: (l2 ++ [y]) = (x :: l2) ++ [y] := rfl
          rw [e2] at h h1 h4
          rcases List.mem_append.mp h1 with h7 | h7
          · have q1 := (List.pairwise_append.mp h).2.2 a h7 y (by simp)
            have q2 := h4 y (by simp)
            omega
          · exact (List.mem_singleton.mp h7).symm
        subst ey
        exact ⟨l2, rfl⟩
end SORTED
section ADJ
variable {ri : RiS} {tn : TnS} {pt : Option Nat} {t : Int64} {r : Nat}
def pos (ri : RiS) (tn : TnS) (pt : Option Nat) (r c : Nat) : Nat := if st0 ri tn pt r ≤ c then c - st0 ri tn pt r else c - fsr ri r + (fsr ri (r + 1) - st0 ri tn pt r)
theorem ordL_sorted (hR : TR ri tn) (hw : ptW tn pt) (hr : r < nR tn) : (ordL ri tn pt r).Pairwise (fun x y => pos ri tn pt r x < pos ri tn pt r y) := by
  have h := st0_in hR hw hr
  unfold ordL
  rw [List.pairwise_append]
  refine ⟨?_, ?_, fun x hx y hy => ?_⟩
  · refine (List.pairwise_lt_range' (s := st0 ri tn pt r) (n := fsr ri (r + 1) - st0 ri tn pt r)).imp_of_mem (fun {x y} hx hy hxy => ?_)
    have hx := List.mem_range'_1.mp hx
    have hy := List.mem_range'_1.mp hy
    unfold pos
    rw [if_pos (by omega), if_pos (by omega)]
    omega
  · refine (List.pairwise_lt_range' (s := fsr ri r) (n := st0 ri tn pt r - fsr ri r)).imp_of_mem (fun {x y} hx hy hxy => ?_)
    have hx := List.mem_range'_1.mp hx
    have hy := List.mem_range'_1.mp hy
    unfold pos
    rw [if_neg (by omega), if_neg (by omega)]
    omega
  · have hx := List.mem_range'_1.mp hx
    have hy := List.mem_range'_1.mp hy
    unfold pos
    rw [if_pos (by omega), if_neg (by omega)]
    omega
theorem WL_sorted (hR : TR ri tn) (hw : ptW tn pt) (hr : r < nR tn) : (WL ri tn pt t r).Pairwise (fun x y => pos ri tn pt r x < pos ri tn pt r y) := (ordL_sorted hR hw hr).filter _
/-- on which side of the gap a pass stands -/
theorem side (hT : TW tn) (hR : TR ri tn) (hD : DW tn pt t) {l a : Nat} (hl : pt = some l) (ha : a < nS tn) (e : rg tn a = lr tn l) (la : nib t a ≠ 15) : (st0 ri tn pt (rg tn a) ≤ a ↔ ro tn l < ro tn (lk tn a)) ∧ ro tn (lk tn a) ≠ ro tn l := by
  have h1 := hD.2.2.1 l hl
  have hne : lk tn a ≠ l := fun h => la (h1.2 a ha h)
  have es : st0 ri tn pt (rg tn a) = lsr ri l := by
    unfold st0
    rw [hl]
    exact if_pos e.symm
  rw [es]
  exact ⟨(hR.els h1.1).2.2.2 a ha e hne, fun h => hne (hT.inj (hT.lkL ha) h1.1 e h)⟩
theorem JR_iff (hT : TW tn) (hR : TR ri tn) (hD : DW tn pt t) (hr : r < nR tn) {a b : Nat} : JR ri tn pt t r a b ↔ NX tn pt t a b ∧ a ≠ b ∧ rg tn a = r := by
  have hw := hD.pt
  have hsrt := WL_sorted (t := t) hR hw hr
  have hs0 := st0_in hR hw hr
  have hfm := hR.fsm hr
  have hfS := hR.fsS (show r + 1 ≤ nR tn by omega)
  have mem := fun v => mem_WL (t := t) (v := v) hR hw hr
  have itv : ∀ v, v < nS tn → rg tn v = r → fsr ri r ≤ v ∧ v < fsr ri (r + 1) := fun v h1 h2 => (hR.fsi hr h1).mp h2
  unfold JR
  rw [AP_sorted hsrt, CPr_sorted hsrt]
  by_cases ho : opR tn pt r
  · obtain ⟨l, hl, el⟩ := ho
    have sd := fun v (hv : v < nS tn) (e : rg tn v = r) (lv : nib t v ≠ 15) => side hT hR hD hl hv (e.trans el.symm) lv
    constructor
    · rintro (⟨h1, h2, h3, h4⟩ | ⟨h1, _⟩)
      · obtain ⟨ha, ea, la⟩ := (mem a).mp h1
        obtain ⟨hb, eb, lb⟩ := (mem b).mp h2
        have ia := itv a ha ea
        have ib := itv b hb eb
        obtain ⟨sa, na⟩ := sd a ha ea la
        obtain ⟨sb, nb⟩ := sd b hb eb lb
        rw [ea] at sa
        rw [eb] at sb
        have dead : ∀ k, k < nS tn → rg tn k = r → pos ri tn pt r a < pos ri tn pt r k → pos ri tn pt r k < pos ri tn pt r b → nib t k = 15 := fun k hk ek p1 p2 => Classical.byContradiction (fun hn => h4 k ((mem k).mpr ⟨hk, ek, hn⟩) ⟨p1, p2⟩)
        have rk : ∀ k, fsr ri r ≤ k → k < fsr ri (r + 1) → rg tn k = r := fun k h1 h2 => (hR.fsi hr (by omega)).mpr ⟨h1, h2⟩
        unfold pos at h3 dead
        refine ⟨⟨ha, hb, la, lb, by rw [ea, eb], ?_⟩, fun e => by rw [e] at h3; omega, ea⟩
        by_cases ca : st0 ri tn pt r ≤ a
        · by_cases cb : st0 ri tn pt r ≤ b
          · rw [if_pos ca, if_pos cb] at h3
            refine Or.inl ⟨by omega, fun k k1 k2 => dead k (by omega) (rk k (by omega) (by omega)) ?_ ?_, ?_⟩
            · rw [if_pos ca, if_pos (by omega)]; omega
            · rw [if_pos cb, if_pos (by omega)]; omega
            · rintro ⟨l', e1, e2, e3, e4⟩
              rw [hl] at e1
              cases e1
              have := sa.mp ca
              omega
          · refine Or.inr ⟨by omega, fun k k1 k2 k3 => dead k k2 (k3.trans ea) ?_ ?_, fun k k1 k3 => ?_, ?_, ?_⟩
            · have := itv k k2 (k3.trans ea)
              rw [if_pos ca, if_pos (by omega)]; omega
            · have := itv k k2 (k3.trans ea)
              rw [if_neg cb, if_pos (by omega)]; omega
            · have ik := itv k (by omega) (k3.trans ea)
              refine dead k (by omega) (k3.trans ea) ?_ ?_
              · rw [if_pos ca, if_neg (by omega)]; omega
              · rw [if_neg cb, if_neg (by omega)]; omega
            · rintro ⟨l', e1, e2, e3, e4⟩
              rw [hl] at e1
              cases e1
              have := sa.mp ca
              omega
            · rintro ⟨l', e1, e2, e3, e4⟩
              rw [hl] at e1
              cases e1
              exact cb (sb.mpr e4)
        · by_cases cb : st0 ri tn pt r ≤ b
          · rw [if_neg ca, if_pos cb] at h3
            omega
          · rw [if_neg ca, if_neg cb] at h3
            refine Or.inl ⟨by omega, fun k k1 k2 => dead k (by omega) (rk k (by omega) (by omega)) ?_ ?_, ?_⟩
            · rw [if_neg ca, if_neg (by omega)]; omega
            · rw [if_neg cb, if_neg (by omega)]; omega
            · rintro ⟨l', e1, e2, e3, e4⟩
              rw [hl] at e1
              cases e1
              exact cb (sb.mpr e4)
      · exact absurd ⟨l, hl, el⟩ h1
    · rintro ⟨⟨ha, hb, la, lb, e, h⟩, hne, ea⟩
      have eb : rg tn b = r := e.symm.trans ea
      have ia := itv a ha ea
      have ib := itv b hb eb
      obtain ⟨sa, na⟩ := sd a ha ea la
      obtain ⟨sb, nb⟩ := sd b hb eb lb
      rw [ea] at sa
      rw [eb] at sb
      have hro := hT.ro8 (hD.2.2.1 l hl).1
      refine Or.inl ⟨(mem a).mpr ⟨ha, ea, la⟩, (mem b).mpr ⟨hb, eb, lb⟩, ?_, fun c hc hcc => ?_⟩
      · unfold pos
        rcases h with ⟨h1, h2, h3⟩ | ⟨h1, h2, h3, h4, h5⟩
        · have hcut : st0 ri tn pt r ≤ b → st0 ri tn pt r ≤ a := fun cb => Classical.byContradiction (fun ca => h3 ⟨l, hl, by rw [ea, el], by have : ¬ ro tn l < ro tn (lk tn a) := fun h => ca (sa.mpr h); omega, sb.mp cb⟩)
          by_cases ca : st0 ri tn pt r ≤ a
          · rw [if_pos ca, if_pos (by omega)]; omega
          · rw [if_neg ca, if_neg (fun cb => ca (hcut cb))]; omega
        · have ca : st0 ri tn pt r ≤ a := sa.mpr (Classical.byContradiction (fun h => h4 ⟨l, hl, by rw [ea, el], by omega, hro⟩))
          have cb : ¬ st0 ri tn pt r ≤ b := fun h => h5 ⟨l, hl, by rw [ea, el], by omega, sb.mp h⟩
          rw [if_pos ca, if_neg cb]; omega
      · obtain ⟨hc1, ec, lc⟩ := (mem c).mp hc
        have ic := itv c hc1 ec
        obtain ⟨p1, p2⟩ := hcc
        unfold pos at p1 p2
        rcases h with ⟨h1, h2, h3⟩ | ⟨h1, h2, h3, h4, h5⟩
        · have hcut : st0 ri tn pt r ≤ b → st0 ri tn pt r ≤ a := fun cb => Classical.byContradiction (fun ca => h3 ⟨l, hl, by rw [ea, el], by have : ¬ ro tn l < ro tn (lk tn a) := fun h => ca (sa.mpr h); omega, sb.mp cb⟩)
          by_cases ca : st0 ri tn pt r ≤ a
          · rw [if_pos ca] at p1
            rw [if_pos (show st0 ri tn pt r ≤ b by omega)] at p2
            by_cases cc : st0 ri tn pt r ≤ c
            · rw [if_pos cc] at p1 p2
              exact lc (h2 c (by omega) (by omega))
            · rw [if_neg cc] at p2
              omega
          · have cb : ¬ st0 ri tn pt r ≤ b := fun cb => ca (hcut cb)
            rw [if_neg ca] at p1
            rw [if_neg cb] at p2
            by_cases cc : st0 ri tn pt r ≤ c
            · rw [if_pos cc] at p1
              omega
            · rw [if_neg cc] at p1 p2
              exact lc (h2 c (by omega) (by omega))
        · have ca : st0 ri tn pt r ≤ a := sa.mpr (Classical.byContradiction (fun h => h4 ⟨l, hl, by rw [ea, el], by omega, hro⟩))
          have cb : ¬ st0 ri tn pt r ≤ b := fun h => h5 ⟨l, hl, by rw [ea, el], by omega, sb.mp h⟩
          rw [if_pos ca] at p1
          rw [if_neg cb] at p2
          by_cases cc : st0 ri tn pt r ≤ c
          · rw [if_pos cc] at p1
            exact lc (h2 c (by omega) hc1 (ec.trans ea.symm))
          · rw [if_neg cc] at p2
            exact lc (h3 c (by omega) (ec.trans ea.symm))
  · have es : st0 ri tn pt r = fsr ri r := by
      unfold st0
      cases h : pt with
      | none => rfl
      | some l => exact if_neg (fun e => ho ⟨l, h, e⟩)
    have ps : ∀ v, v < nS tn → rg tn v = r → pos ri tn pt r v = v - fsr ri r := fun v h1 h2 => by
      unfold pos
      rw [es, if_pos (itv v h1 h2).1]
    have nc : ∀ f t', ¬ cut tn pt f t' r := fun f t' ⟨l, h1, h2, _⟩ => ho ⟨l, h1, h2⟩
    constructor
    · rintro (⟨h1, h2, h3, h4⟩ | ⟨_, h1, h2, h3, h4, h5⟩)
      · obtain ⟨ha, ea, la⟩ := (mem a).mp h1
        obtain ⟨hb, eb, lb⟩ := (mem b).mp h2
        have ia := itv a ha ea
        have ib := itv b hb eb
        rw [ps a ha ea, ps b hb eb] at h3
        refine ⟨⟨ha, hb, la, lb, by rw [ea, eb], Or.inl ⟨by omega, fun k k1 k2 => Classical.byContradiction (fun hn => ?_), by rw [ea]; exact nc _ _⟩⟩, by omega, ea⟩
        have ek : rg tn k = r := (hR.fsi hr (by omega)).mpr ⟨by omega, by omega⟩
        refine h4 k ((mem k).mpr ⟨by omega, ek, hn⟩) ?_
        rw [ps a ha ea, ps b hb eb, ps k (by omega) ek]
        omega
      · obtain ⟨ha, ea, la⟩ := (mem a).mp h1
        obtain ⟨hb, eb, lb⟩ := (mem b).mp h2
        have ia := itv a ha ea
        have ib := itv b hb eb
        have hab := h4 b h2
        rw [ps a ha ea, ps b hb eb] at hab
        refine ⟨⟨ha, hb, la, lb, by rw [ea, eb], Or.inr ⟨by omega, fun k k1 k2 k3 => Classical.byContradiction (fun hn => ?_), fun k k1 k3 => Classical.byContradiction (fun hn => ?_), by rw [ea]; exact nc _ _, by rw [ea]; exact nc _ _⟩⟩, h3, ea⟩
        · have ek := k3.trans ea
          have ik := itv k k2 ek
          have := h4 k ((mem k).mpr ⟨k2, ek, hn⟩)
          rw [ps a ha ea, ps k k2 ek] at this
          omega
        · have ek := k3.trans ea
          have ik := itv k (by omega) ek
          have := h5 k ((mem k).mpr ⟨by omega, ek, hn⟩)
          rw [ps b hb eb, ps k (by omega) ek] at this
          omega
    · rintro ⟨⟨ha, hb, la, lb, e, h⟩, hne, ea⟩
      have eb : rg tn b = r := e.symm.trans ea
      have ia := itv a ha ea
      have ib := itv b hb eb
      rcases h with ⟨h1, h2, _⟩ | ⟨h1, h2, h3, _⟩
      · refine Or.inl ⟨(mem a).mpr ⟨ha, ea, la⟩, (mem b).mpr ⟨hb, eb, lb⟩, by rw [ps a ha ea, ps b hb eb]; omega, fun c hc hcc => ?_⟩
        obtain ⟨hc1, ec, lc⟩ := (mem c).mp hc
        have ic := itv c hc1 ec
        rw [ps a ha ea, ps b hb eb, ps c hc1 ec] at hcc
        exact lc (h2 c (by omega) (by omega))
      · refine Or.inr ⟨ho, (mem a).mpr ⟨ha, ea, la⟩, (mem b).mpr ⟨hb, eb, lb⟩, hne, fun c hc => ?_, fun c hc => ?_⟩
        · obtain ⟨hc1, ec, lc⟩ := (mem c).mp hc
          have ic := itv c hc1 ec
          rw [ps a ha ea, ps c hc1 ec]
          have : ¬ a < c := fun h => lc (h2 c h hc1 (ec.trans ea.symm))
          omega
        · obtain ⟨hc1, ec, lc⟩ := (mem c).mp hc
          have ic := itv c hc1 ec
          rw [ps b hb eb, ps c hc1 ec]
          have : ¬ c < b := fun h => lc (h3 c h (ec.trans ea.symm))
          omega
theorem PA_iff (hT : TW tn) (hR : TR ri tn) (hD : DW tn pt t) {p q : Nat} : PA ri tn pt t (nR tn) p q ↔ BES tn pt t p q := by
  unfold PA BES
  constructor
  · rintro ⟨i, a, b, hi, hj, h⟩
    obtain ⟨hn, hne, _⟩ := (JR_iff hT hR hD hi).mp hj
    rcases h with ⟨h1, h2⟩ | ⟨h1, h2⟩
    · exact ⟨a, b, hn.1, hn.2.1, h1.symm, h2.symm, hne, Or.inl hn⟩
    · exact ⟨b, a, hn.2.1, hn.1, h1.symm, h2.symm, fun e => hne e.symm, Or.inr hn⟩
  · rintro ⟨a, b, ha, hb, h1, h2, hne, hn | hn⟩
    · exact ⟨rg tn a, a, b, hT.rgR ha, (JR_iff hT hR hD (hT.rgR ha)).mpr ⟨hn, hne, rfl⟩, Or.inl ⟨h1.symm, h2.symm⟩⟩
    · exact ⟨rg tn b, b, a, hT.rgR hb, (JR_iff hT hR hD (hT.rgR hb)).mpr ⟨hn, fun e => hne e.symm, rfl⟩, Or.inr ⟨h1.symm, h2.symm⟩⟩
end ADJ
