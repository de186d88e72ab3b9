def fsr (ri : RiS) (r : Nat) : Nat := cl (Ri_firstStanding ri r)
def lsr (ri : RiS) (l : Nat) : Nat := cl (Ri_linkStart ri l)
def TR (ri : RiS) (tn : TnS) : Prop :=
  (Ri_crossings ri = nI (nX tn) ∧ Ri_count ri = nI (nR tn) ∧ Ri_standings ri = nI (nS tn) ∧ Ri_people ri = nI (nP tn) ∧ Ri_links ri = nI (nL tn)) ∧
  (∀ s, s < nS tn → Ri_standingLink ri s = nI (lk tn s)) ∧ (∀ l, l < nL tn → Ri_linkRing ri l = nI (lr tn l)) ∧
  ((∀ r, r ≤ nR tn → Ri_firstStanding ri r = nI (fsr ri r) ∧ fsr ri r ≤ nS tn) ∧ fsr ri 0 = 0 ∧ fsr ri (nR tn) = nS tn ∧
   (∀ r, r < nR tn → fsr ri r ≤ fsr ri (r + 1)) ∧ (∀ r s, r < nR tn → s < nS tn → (rg tn s = r ↔ fsr ri r ≤ s ∧ s < fsr ri (r + 1)))) ∧
  (∀ l, l < nL tn → Ri_linkStart ri l = nI (lsr ri l) ∧ fsr ri (lr tn l) ≤ lsr ri l ∧ lsr ri l ≤ fsr ri (lr tn l + 1) ∧ ∀ s, s < nS tn → rg tn s = lr tn l → lk tn s ≠ l → (lsr ri l ≤ s ↔ ro tn l < ro tn (lk tn s))) ∧
  (∀ l, l < nL tn → Ri_linkFits ri l = tf (fitL tn l) ∧ Ri_linkGoer ri l = nI (gl tn l)) ∧
  (∀ h, h < 2 * nP tn → Ri_linkIn ri h = Tn_linkOf tn h)
section TRS
variable {ri : RiS} {tn : TnS}
theorem TR.X (h : TR ri tn) : Ri_crossings ri = nI (nX tn) := h.1.1
theorem TR.R (h : TR ri tn) : Ri_count ri = nI (nR tn) := h.1.2.1
theorem TR.S (h : TR ri tn) : Ri_standings ri = nI (nS tn) := h.1.2.2.1
theorem TR.P (h : TR ri tn) : Ri_people ri = nI (nP tn) := h.1.2.2.2.1
theorem TR.L (h : TR ri tn) : Ri_links ri = nI (nL tn) := h.1.2.2.2.2
theorem TR.elk (h : TR ri tn) {s : Nat} (hs : s < nS tn) : Ri_standingLink ri s = nI (lk tn s) := h.2.1 s hs
theorem TR.elr (h : TR ri tn) {l : Nat} (hl : l < nL tn) : Ri_linkRing ri l = nI (lr tn l) := h.2.2.1 l hl
theorem TR.efs (h : TR ri tn) {r : Nat} (hr : r ≤ nR tn) : Ri_firstStanding ri r = nI (fsr ri r) := (h.2.2.2.1.1 r hr).1
theorem TR.fsS (h : TR ri tn) {r : Nat} (hr : r ≤ nR tn) : fsr ri r ≤ nS tn := (h.2.2.2.1.1 r hr).2
theorem TR.fs0 (h : TR ri tn) : fsr ri 0 = 0 := h.2.2.2.1.2.1
theorem TR.fsR (h : TR ri tn) : fsr ri (nR tn) = nS tn := h.2.2.2.1.2.2.1
theorem TR.fsm (h : TR ri tn) {r : Nat} (hr : r < nR tn) : fsr ri r ≤ fsr ri (r + 1) := h.2.2.2.1.2.2.2.1 r hr
theorem TR.fsi (h : TR ri tn) {r s : Nat} (hr : r < nR tn) (hs : s < nS tn) : rg tn s = r ↔ fsr ri r ≤ s ∧ s < fsr ri (r + 1) := h.2.2.2.1.2.2.2.2 r s hr hs
theorem TR.els (h : TR ri tn) {l : Nat} (hl : l < nL tn) : Ri_linkStart ri l = nI (lsr ri l) ∧ fsr ri (lr tn l) ≤ lsr ri l ∧ lsr ri l ≤ fsr ri (lr tn l + 1) ∧ ∀ s, s < nS tn → rg tn s = lr tn l → lk tn s ≠ l → (lsr ri l ≤ s ↔ ro tn l < ro tn (lk tn s)) := h.2.2.2.2.1 l hl
theorem TR.fit (h : TR ri tn) {l : Nat} (hl : l < nL tn) : Ri_linkFits ri l = tf (fitL tn l) := (h.2.2.2.2.2.1 l hl).1
theorem TR.goer (h : TR ri tn) {l : Nat} (hl : l < nL tn) : Ri_linkGoer ri l = nI (gl tn l) := (h.2.2.2.2.2.1 l hl).2
theorem TR.lin (h : TR ri tn) {k : Nat} (hk : k < 2 * nP tn) : Ri_linkIn ri k = Tn_linkOf tn k := h.2.2.2.2.2.2 k hk
end TRS
def opR (tn : TnS) (pt : Option Nat) (r : Nat) : Prop := ∃ l, pt = some l ∧ lr tn l = r
def st0 (ri : RiS) (tn : TnS) (pt : Option Nat) (r : Nat) : Nat := match pt with
  | none => fsr ri r
  | some l => if lr tn l = r then lsr ri l else fsr ri r
def ordL (ri : RiS) (tn : TnS) (pt : Option Nat) (r : Nat) : List Nat := List.range' (st0 ri tn pt r) (fsr ri (r + 1) - st0 ri tn pt r) ++ List.range' (fsr ri r) (st0 ri tn pt r - fsr ri r)
def WL (ri : RiS) (tn : TnS) (pt : Option Nat) (t : Int64) (r : Nat) : List Nat := (ordL ri tn pt r).filter (lvB t)
def preL (ri : RiS) (tn : TnS) (pt : Option Nat) (t : Int64) (r : Nat) : List Nat := (List.range r).flatMap (WL ri tn pt t)
def JR (ri : RiS) (tn : TnS) (pt : Option Nat) (t : Int64) (r a b : Nat) : Prop := AP (WL ri tn pt t r) a b ∨ (¬ opR tn pt r ∧ CPr (WL ri tn pt t r) a b)
def PA (ri : RiS) (tn : TnS) (pt : Option Nat) (t : Int64) (r : Nat) : Nat → Nat → Prop := fun p q => ∃ i a b, i < r ∧ JR ri tn pt t i a b ∧ ((p = nib t a ∧ q = nib t b) ∨ (p = nib t b ∧ q = nib t a))
theorem chain2 {to fr : Nat} : ∀ k s, s + k ≤ to → Chain to fr s (List.range' s k) := by
  intro k
  induction k with
  | zero => intro s h; exact trivial
  | succ k ih =>
    intro s h
    rw [List.range'_succ]
    exact ⟨(if_pos (by omega)).symm, ih (s + 1) (by omega)⟩
theorem chain1 {to fr : Nat} {rest : List Nat} : ∀ k s, s + k = to → Chain to fr to rest → Chain to fr s (List.range' s k ++ rest) := by
  intro k
  induction k with
  | zero => intro s h hc; rw [show s = to by omega]; exact hc
  | succ k ih =>
    intro s h hc
    rw [List.range'_succ, List.cons_append]
    exact ⟨(if_pos (by omega)).symm, ih (s + 1) (by omega) hc⟩
theorem chain3 {to fr : Nat} : ∀ k, fr + k ≤ to → Chain to fr to (List.range' fr k) := by
  intro k h
  cases k with
  | zero => exact trivial
  | succ k =>
    rw [List.range'_succ]
    exact ⟨(if_neg (by omega)).symm, chain2 k (fr + 1) (by omega)⟩
section RINGS
variable {ri : RiS} {tn : TnS} {pt : Option Nat} {t kc : Int64} {bo : BoS}
theorem st0_in (hR : TR ri tn) (hw : ptW tn pt) {r : Nat} (hr : r < nR tn) : fsr ri r ≤ st0 ri tn pt r ∧ st0 ri tn pt r ≤ fsr ri (r + 1) := by
  have hm := hR.fsm hr
  unfold st0
  cases pt with
  | none => exact ⟨Nat.le_refl _, hm⟩
  | some l =>
    show fsr ri r ≤ (if lr tn l = r then lsr ri l else fsr ri r) ∧ (if lr tn l = r then lsr ri l else fsr ri r) ≤ fsr ri (r + 1)
    by_cases e : lr tn l = r
    · rw [if_pos e]
      have := hR.els (hw l rfl)
      rw [e] at this
      exact ⟨this.2.1, this.2.2.1⟩
    · rw [if_neg e]; exact ⟨Nat.le_refl _, hm⟩
theorem mem_ordL (hR : TR ri tn) (hw : ptW tn pt) {r v : Nat} (hr : r < nR tn) : v ∈ ordL ri tn pt r ↔ fsr ri r ≤ v ∧ v < fsr ri (r + 1) := by
  have := st0_in hR hw hr
  unfold ordL
  rw [List.mem_append, List.mem_range'_1, List.mem_range'_1]
  omega
theorem mem_WL (hR : TR ri tn) (hw : ptW tn pt) {r v : Nat} (hr : r < nR tn) : v ∈ WL ri tn pt t r ↔ v < nS tn ∧ rg tn v = r ∧ nib t v ≠ 15 := by
  unfold WL
  rw [List.mem_filter, mem_ordL hR hw hr, lvB_t]
  have h1 := hR.fsS (show r + 1 ≤ nR tn by omega)
  constructor
  · rintro ⟨⟨h2, h3⟩, h4⟩
    exact ⟨by omega, (hR.fsi hr (by omega)).mpr ⟨h2, h3⟩, h4⟩
  · rintro ⟨h2, h3, h4⟩
    exact ⟨(hR.fsi hr h2).mp h3, h4⟩
theorem len_ordL (hR : TR ri tn) (hw : ptW tn pt) {r : Nat} (hr : r < nR tn) : (ordL ri tn pt r).length = fsr ri (r + 1) - fsr ri r := by
  have := st0_in hR hw hr
  unfold ordL
  rw [List.length_append, List.length_range', List.length_range']
  omega
theorem range_split {a b : Nat} (h : a ≤ b) : List.range b = List.range a ++ List.range' a (b - a) := by
  rw [List.range_eq_range', List.range_eq_range']
  have := List.range'_append (s := 0) (m := a) (n := b - a) (step := 1)
  rw [Nat.one_mul, Nat.zero_add, show a + (b - a) = b by omega] at this
  exact this.symm
theorem len_WL (hR : TR ri tn) (hw : ptW tn pt) {r : Nat} (hr : r < nR tn) : (List.range (fsr ri r)).countP (lvB t) + (WL ri tn pt t r).length = (List.range (fsr ri (r + 1))).countP (lvB t) := by
  have h := st0_in hR hw hr
  rw [range_split (hR.fsm hr), List.countP_append]
  unfold WL ordL
  rw [← List.countP_eq_length_filter, List.countP_append]
  have e : List.range' (fsr ri r) (fsr ri (r + 1) - fsr ri r) = List.range' (fsr ri r) (st0 ri tn pt r - fsr ri r) ++ List.range' (st0 ri tn pt r) (fsr ri (r + 1) - st0 ri tn pt r) := by
    have := List.range'_append (s := fsr ri r) (m := st0 ri tn pt r - fsr ri r) (n := fsr ri (r + 1) - st0 ri tn pt r) (step := 1)
    rw [Nat.one_mul, show fsr ri r + (st0 ri tn pt r - fsr ri r) = st0 ri tn pt r by omega, show st0 ri tn pt r - fsr ri r + (fsr ri (r + 1) - st0 ri tn pt r) = fsr ri (r + 1) - fsr ri r by omega] at this
    exact this.symm
  rw [e, List.countP_append]
  omega
theorem preL_succ (r : Nat) : preL ri tn pt t (r + 1) = preL ri tn pt t r ++ WL ri tn pt t r := by
  unfold preL
  rw [List.range_succ, List.flatMap_append]
  simp
theorem len_preL (hR : TR ri tn) (hw : ptW tn pt) : ∀ r, r ≤ nR tn → (preL ri tn pt t r).length = (List.range (fsr ri r)).countP (lvB t) := by
  intro r
  induction r with
  | zero => intro _; rw [hR.fs0]; rfl
  | succ r ih =>
    intro hr
    rw [preL_succ, List.length_append, ih (by omega), len_WL hR hw (by omega)]
theorem mem_preL (hR : TR ri tn) (hw : ptW tn pt) {r v : Nat} (hr : r ≤ nR tn) : v ∈ preL ri tn pt t r ↔ v < nS tn ∧ rg tn v < r ∧ nib t v ≠ 15 := by
  unfold preL
  rw [List.mem_flatMap]
  constructor
  · rintro ⟨i, h1, h2⟩
    have hi := List.mem_range.mp h1
    obtain ⟨h3, h4, h5⟩ := (mem_WL hR hw (by omega)).mp h2
    exact ⟨h3, by omega, h5⟩
  · rintro ⟨h1, h2, h3⟩
    exact ⟨rg tn v, List.mem_range.mpr h2, (mem_WL hR hw (by omega)).mpr ⟨h1, rfl, h3⟩⟩
theorem isOpen_e (hT : TW tn) (hR : TR ri tn) (hw : ptW tn pt) (hp : Bo_parted bo = ptv pt) {r : Nat} (hr : r < nR tn) : f_X0_isOpen bo ri (nI r) = some (tf (opR tn pt r)) := by
  unfold f_X0_isOpen
  rw [hp]
  cases pt with
  | none =>
    rw [if_pos (show ptv none < 0 by decide)]
    refine some_tf ?_ (fun _ => rfl)
    rintro ⟨l, h, _⟩
    cases h
  | some l =>
    have hl := hw l rfl
    have h8 := hT.l8
    have hlr := hT.lrR hl
    have hr8 := hT.r8
    show (if nI l < 0 then _ else if 8 ≤ nI l then _ else ck (nI l) 8 (if Ri_linkRing ri (Int32.toNatClampNeg (nI l)) = nI r then _ else _)) = _
    rw [if_neg (nI_pos (by omega)), li_8, if_neg (nI_ge (show l < 8 by omega) (by omega)), ckI (by omega) (by omega), nI_clamp (by omega), hR.elr hl]
    by_cases c : lr tn l = r
    · rw [if_pos (by rw [c])]
      exact some_tf (fun _ => rfl) (fun h => absurd ⟨l, rfl, c⟩ h)
    · rw [if_neg (fun h => c (nI_inj h (by omega) (by omega)))]
      refine some_tf ?_ (fun _ => rfl)
      rintro ⟨k, hk, h3⟩
      cases hk
      exact absurd h3 c
theorem walkRound_e (hT : TW tn) (hC : CW tn t) (hR : TR ri tn) (hw : ptW tn pt) (hK : KR tn kc t) {r : Nat} (hr : r < nR tn) (hk : Bo_key bo = kc) (hp : Bo_parted bo = ptv pt)
    (hW : WI (nX tn) t bo (preL ri tn pt t r) (PA ri tn pt t r)) :
    Ok (f_X0_walkRound bo ri (nI r) (nI (preL ri tn pt t r).length)) (fun q => q.1 = nI (preL ri tn pt t (r + 1)).length ∧ WI (nX tn) t q.2 (preL ri tn pt t (r + 1)) (PA ri tn pt t (r + 1)) ∧ wcore q.2 = wcore bo) := by
  have h14 := hT.s14
  have hr8 := hT.r8
  have hf1 := hR.fsS (show r + 1 ≤ nR tn by omega)
  have hfm := hR.fsm hr
  have hs0 := st0_in hR hw hr
  have hpl : (preL ri tn pt t r).length ≤ fsr ri r := by
    rw [len_preL hR hw r (by omega)]
    exact Nat.le_trans List.countP_le_length (by rw [List.length_range]; exact Nat.le_refl _)
  unfold f_X0_walkRound
  rw [ckI (by omega) (by omega), lt1_e, nI_1, ckI (by omega) (by omega), lt1_e, nI_clamp (by omega), nI_clamp (by omega), hR.efs (by omega), hR.efs (by omega), bd1_e (isOpen_e hT hR hw hp hr)]
  have main : Ok (f_X0_walkRound_L51 (nI (preL ri tn pt t r).length) (nI (fsr ri r)) (nI (fsr ri (r + 1))) (tf (opR tn pt r)) (nI (st0 ri tn pt r)) bo) (fun q => q.1 = nI (preL ri tn pt t (r + 1)).length ∧ WI (nX tn) t q.2 (preL ri tn pt t (r + 1)) (PA ri tn pt t (r + 1)) ∧ wcore q.2 = wcore bo) := by
    unfold f_X0_walkRound_L51
    have q := walk_L (P0 := PA ri tn pt t r) (pre := preL ri tn pt t r) (fr := fsr ri r) (to := fsr ri (r + 1)) (op := tf (opR tn pt r)) hT hC hf1 hK (ordL ri tn pt r) [] (st0 ri tn pt r) FU (fsr ri r) bo (by rw [len_ordL hR hw hr, FU_e]; omega) (by rw [len_ordL hR hw hr]; omega)
      (by unfold ordL; exact chain1 _ _ (by omega) (chain3 _ (by omega))) (by omega) (fun x hx => ((mem_ordL hR hw hr).mp hx).2) (by rw [len_ordL hR hw hr]; simp; omega) hk (fun v hv => by
        rw [List.append_nil] at hv
        obtain ⟨h1, _, h3⟩ := (mem_preL hR hw (by omega)).mp hv
        exact ⟨h1, h3⟩) (by rw [List.append_nil]; exact ⟨hW.1, hW.2.1, hW.2.2.congr (fun p q => (apP_nil p q).symm)⟩)
    refine q.mono (fun z hz => ?_)
    obtain ⟨z1, z2, z3⟩ := hz
    rw [List.nil_append] at z1 z2
    rw [preL_succ]
    refine ⟨z1, ⟨z2.1, z2.2.1, z2.2.2.congr (fun p q => ?_)⟩, z3⟩
    unfold clP apP PA
    constructor
    · rintro ((⟨i, a, b, h1, h2, h3⟩ | ⟨a, b, h2, h3⟩) | ⟨h0, a, b, h2, h3⟩)
      · exact ⟨i, a, b, by omega, h2, h3⟩
      · exact ⟨r, a, b, by omega, Or.inl h2, h3⟩
      · exact ⟨r, a, b, by omega, Or.inr ⟨tf_0.mp h0, h2⟩, h3⟩
    · rintro ⟨i, a, b, h1, h2, h3⟩
      by_cases e : i = r
      · subst e
        rcases h2 with h2 | ⟨h2, h4⟩
        · exact Or.inl (Or.inr ⟨a, b, h2, h3⟩)
        · exact Or.inr ⟨tf_0.mpr h2, a, b, h4, h3⟩
      · exact Or.inl (Or.inl ⟨i, a, b, by omega, h2, h3⟩)
  by_cases ho : opR tn pt r
  · obtain ⟨l, e1, e2⟩ := ho
    subst e1
    have hl := hw l rfl
    have h8 := hT.l8
    have es : st0 ri tn (some l) r = lsr ri l := if_pos e2
    rw [if_neg (by rw [tf_t ⟨l, rfl, e2⟩]; decide), hp]
    show Ok (ck (nI l) 8 (f_X0_walkRound_L51 _ _ _ _ (Ri_linkStart ri (Int32.toNatClampNeg (nI l))) bo)) _
    rw [ckI (by omega) (by omega), nI_clamp (by omega), (hR.els hl).1, ← es]
    exact main
  · have es : st0 ri tn pt r = fsr ri r := by
      unfold st0
      cases h : pt with
      | none => rfl
      | some l => exact if_neg (fun e => ho ⟨l, h, e⟩)
    rw [if_pos (tf_f ho)]
    rw [es] at main
    exact main
end RINGS
