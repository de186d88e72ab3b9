/-! class and reference count the same colours -/
section BLK
variable {ri : RiS} {tn : TnS} {pt : Option Nat} {t : Int64}
theorem blk_ex : ∀ R c, c < BA ri tn pt t R → ∃ r, r < R ∧ BA ri tn pt t r ≤ c ∧ c < BA ri tn pt t (r + 1) := by
  intro R
  induction R with
  | zero => intro c h; exact absurd h (Nat.not_lt_zero _)
  | succ R ih =>
    intro c h
    by_cases e : c < BA ri tn pt t R
    · obtain ⟨r, h1, h2⟩ := ih c e
      exact ⟨r, by omega, h2⟩
    · exact ⟨R, by omega, by omega, h⟩
theorem blk_uniq {a b c : Nat} (h1 : BA ri tn pt t a ≤ c) (h2 : c < BA ri tn pt t (a + 1)) (h3 : BA ri tn pt t b ≤ c) (h4 : c < BA ri tn pt t (b + 1)) : a = b := by
  rcases Nat.lt_trichotomy a b with q | q | q
  · have := BA_mono (ri := ri) (tn := tn) (pt := pt) (t := t) (show a + 1 ≤ b by omega); omega
  · exact q
  · have := BA_mono (ri := ri) (tn := tn) (pt := pt) (t := t) (show b + 1 ≤ a by omega); omega
/-- a map block by block -/
noncomputable def bmp (ri : RiS) (tn : TnS) (pt : Option Nat) (t : Int64) (g : Nat → Nat → Nat) (c : Nat) : Nat :=
  @dite Nat (c < BA ri tn pt t (nR tn)) (Classical.propDecidable _) (fun h => BA ri tn pt t (Classical.choose (blk_ex (nR tn) c h)) + g (Classical.choose (blk_ex (nR tn) c h)) (c - BA ri tn pt t (Classical.choose (blk_ex (nR tn) c h)))) (fun _ => c)
theorem bmp_at {g : Nat → Nat → Nat} {r i : Nat} (hr : r < nR tn) (hi : i < nA ri tn pt t r) : bmp ri tn pt t g (BA ri tn pt t r + i) = BA ri tn pt t r + g r i := by
  have hlt : BA ri tn pt t r + i < BA ri tn pt t (nR tn) := by
    have := BA_mono (ri := ri) (tn := tn) (pt := pt) (t := t) (show r + 1 ≤ nR tn by omega)
    rw [BA_succ] at this
    omega
  unfold bmp
  rw [dif_pos hlt]
  have hc := Classical.choose_spec (blk_ex (nR tn) (BA ri tn pt t r + i) hlt)
  have e : Classical.choose (blk_ex (nR tn) (BA ri tn pt t r + i) hlt) = r := blk_uniq hc.2.1 hc.2.2 (by omega) (by rw [BA_succ]; omega)
  rw [e, show BA ri tn pt t r + i - BA ri tn pt t r = i by omega]
theorem bmp_ok {g : Nat → Nat → Nat} (h1 : ∀ r i, r < nR tn → i < nA ri tn pt t r → g r i < nA ri tn pt t r) (h2 : ∀ r i j, r < nR tn → i < nA ri tn pt t r → j < nA ri tn pt t r → g r i = g r j → i = j) :
    (∀ c, c < BA ri tn pt t (nR tn) → bmp ri tn pt t g c < BA ri tn pt t (nR tn)) ∧ (∀ c d, c < BA ri tn pt t (nR tn) → d < BA ri tn pt t (nR tn) → bmp ri tn pt t g c = bmp ri tn pt t g d → c = d) := by
  have at_ : ∀ c, c < BA ri tn pt t (nR tn) → ∃ r i, r < nR tn ∧ i < nA ri tn pt t r ∧ c = BA ri tn pt t r + i := fun c hc => by
    obtain ⟨r, q1, q2, q3⟩ := blk_ex (nR tn) c hc
    rw [BA_succ] at q3
    exact ⟨r, c - BA ri tn pt t r, q1, by omega, by omega⟩
  constructor
  · intro c hc
    obtain ⟨r, i, q1, q2, rfl⟩ := at_ c hc
    rw [bmp_at q1 q2]
    have := h1 r i q1 q2
    have := BA_mono (ri := ri) (tn := tn) (pt := pt) (t := t) (show r + 1 ≤ nR tn by omega)
    rw [BA_succ] at this
    omega
  · intro c d hc hd e
    obtain ⟨r, i, q1, q2, rfl⟩ := at_ c hc
    obtain ⟨s, j, k1, k2, rfl⟩ := at_ d hd
    rw [bmp_at q1 q2, bmp_at k1 k2] at e
    have a1 := h1 r i q1 q2
    have a2 := h1 s j k1 k2
    have er : r = s := blk_uniq (ri := ri) (tn := tn) (pt := pt) (t := t) (c := BA ri tn pt t r + g r i) (by omega) (by rw [BA_succ]; omega) (by omega) (by rw [BA_succ]; omega)
    subst er
    rw [h2 r i j q1 q2 k2 (by omega)]
def gP (ri : RiS) (tn : TnS) (pt : Option Nat) (t : Int64) (r i : Nat) : Nat := if opB tn pt r = true ∨ uN ri tn pt t r = 0 then i else (i + uN ri tn pt t r - 1) % uN ri tn pt t r
def gR (ri : RiS) (tn : TnS) (pt : Option Nat) (t : Int64) (r i : Nat) : Nat := if opB tn pt r = true ∨ uN ri tn pt t r = 0 then i else (i + 1) % uN ri tn pt t r
theorem nA_c {r : Nat} (h : ¬ (opB tn pt r = true ∨ uN ri tn pt t r = 0)) : nA ri tn pt t r = uN ri tn pt t r ∧ 0 < uN ri tn pt t r := by
  have h1 : ¬ opB tn pt r = true := fun e => h (Or.inl e)
  have h2 : ¬ uN ri tn pt t r = 0 := fun e => h (Or.inr e)
  unfold nA
  rw [if_neg h1]
  omega
theorem modP {u i : Nat} (hu : 0 < u) (hi : i < u) : (i + u - 1) % u = if i = 0 then u - 1 else i - 1 := by
  by_cases e : i = 0
  · rw [if_pos e, e, Nat.zero_add]; exact Nat.mod_eq_of_lt (by omega)
  · rw [if_neg e, show i + u - 1 = (i - 1) + u by omega, Nat.add_mod_right]; exact Nat.mod_eq_of_lt (by omega)
theorem modR {u i : Nat} (hu : 0 < u) (hi : i < u) : (i + 1) % u = if i + 1 = u then 0 else i + 1 := by
  by_cases e : i + 1 = u
  · rw [if_pos e, e, Nat.mod_self]
  · rw [if_neg e]; exact Nat.mod_eq_of_lt (by omega)
theorem gP_ok : (∀ r i, r < nR tn → i < nA ri tn pt t r → gP ri tn pt t r i < nA ri tn pt t r) ∧ (∀ r i j, r < nR tn → i < nA ri tn pt t r → j < nA ri tn pt t r → gP ri tn pt t r i = gP ri tn pt t r j → i = j) := by
  constructor
  · intro r i _ hi
    unfold gP
    by_cases h : opB tn pt r = true ∨ uN ri tn pt t r = 0
    · rw [if_pos h]; exact hi
    · obtain ⟨e, hu⟩ := nA_c h
      rw [if_neg h, e]
      exact Nat.mod_lt _ hu
  · intro r i j _ hi hj e
    unfold gP at e
    by_cases h : opB tn pt r = true ∨ uN ri tn pt t r = 0
    · rw [if_pos h, if_pos h] at e; exact e
    · obtain ⟨en, hu⟩ := nA_c h
      rw [if_neg h, if_neg h, modP hu (by omega), modP hu (by omega)] at e
      split at e <;> split at e <;> omega
theorem gR_ok : (∀ r i, r < nR tn → i < nA ri tn pt t r → gR ri tn pt t r i < nA ri tn pt t r) ∧ (∀ r i j, r < nR tn → i < nA ri tn pt t r → j < nA ri tn pt t r → gR ri tn pt t r i = gR ri tn pt t r j → i = j) := by
  constructor
  · intro r i _ hi
    unfold gR
    by_cases h : opB tn pt r = true ∨ uN ri tn pt t r = 0
    · rw [if_pos h]; exact hi
    · obtain ⟨e, hu⟩ := nA_c h
      rw [if_neg h, e]
      exact Nat.mod_lt _ hu
  · intro r i j _ hi hj e
    unfold gR at e
    by_cases h : opB tn pt r = true ∨ uN ri tn pt t r = 0
    · rw [if_pos h, if_pos h] at e; exact e
    · obtain ⟨en, hu⟩ := nA_c h
      rw [if_neg h, if_neg h, modR hu (by omega), modR hu (by omega)] at e
      split at e <;> split at e <;> omega
theorem tie {r j : Nat} (hr : r < nR tn) (hj : j ≤ uN ri tn pt t r) : bmp ri tn pt t (gP ri tn pt t) (rI ri tn pt t r j) = cI ri tn pt t r j ∧ bmp ri tn pt t (gR ri tn pt t) (cI ri tn pt t r j) = rI ri tn pt t r j := by
  have a1 := rI_lt (ri := ri) (tn := tn) (pt := pt) (t := t) hj
  have a2 := cI_lt (ri := ri) (tn := tn) (pt := pt) (t := t) hj
  unfold rI cI at *
  rw [bmp_at hr (by omega), bmp_at hr (by omega)]
  unfold gP gR
  by_cases h : opB tn pt r = true ∨ uN ri tn pt t r = 0
  · simp only [h, if_true]; exact ⟨trivial, trivial⟩
  · obtain ⟨en, hu⟩ := nA_c h
    simp only [h, if_false]
    have e1 : j % uN ri tn pt t r = if j = uN ri tn pt t r then 0 else j := md_eq hj hu
    have e2 : (j + uN ri tn pt t r - 1) % uN ri tn pt t r = if j = 0 then uN ri tn pt t r - 1 else j - 1 := by
      by_cases c : j = uN ri tn pt t r
      · rw [c, show uN ri tn pt t r + uN ri tn pt t r - 1 = (uN ri tn pt t r - 1) + uN ri tn pt t r by omega, Nat.add_mod_right, Nat.mod_eq_of_lt (by omega), if_neg (by omega)]
      · exact modP hu (by omega)
    rw [e1, e2]
    constructor
    · congr 1
      by_cases c : j = uN ri tn pt t r
      · rw [if_pos c, modP hu hu, if_pos rfl, if_neg (by omega)]; omega
      · rw [if_neg c, modP hu (by omega)]
    · congr 1
      by_cases c : j = 0
      · rw [if_pos c, modR hu (by omega), if_pos (by omega), c, if_neg (by omega)]
      · rw [if_neg c, modR hu (by omega)]
        by_cases d : j = uN ri tn pt t r
        · rw [if_pos (by omega), if_pos d]
        · rw [if_neg (by omega), if_neg d]; omega
theorem rowE_map {p n A B C c : Nat} {π : Nat → Nat} (hi : ∀ c d, c < n → d < n → π c = π d → c = d) (hA : A < n) (hB : B < n) (hC : C < n) (hc : c < n) : rowE p (π A) (π B) (π C) (π c) = rowE p A B C c := by
  have e : ∀ X, X < n → ((π c = π X) ↔ c = X) := fun X hX => ⟨fun h => hi c X hc hX h, fun h => by rw [h]⟩
  unfold rowE
  simp only [e A hA, e B hB, e C hC]
theorem rowE_out {p n A B C c : Nat} {π : Nat → Nat} (hA : A < n) (hB : B < n) (hC : C < n) (h : ∀ i, i < n → π i ≠ c) : rowE p (π A) (π B) (π C) c = 0 % p := by
  unfold rowE
  rw [if_neg (fun e => h A hA e.symm), if_neg (fun e => h B hB e.symm), if_neg (fun e => h C hC e.symm)]
theorem ker_map {p m n : Nat} {Ea Eb : Nat → Nat → Nat} {π : Nat → Nat} {A B C : Nat → Nat} (h1 : ∀ c, c < n → π c < n) (hi : ∀ c d, c < n → d < n → π c = π d → c = d) (hA : ∀ i, i < m → A i < n ∧ B i < n ∧ C i < n) (hb : ∀ i, i < m → ∀ c, Eb i c = rowE p (A i) (B i) (C i) c) (ha : ∀ i, i < m → ∀ c, Ea i c = rowE p (π (A i)) (π (B i)) (π (C i)) c) (v : Nat → Nat) (hk : KER p m n Ea v) : KER p m n Eb (fun c => v (π c)) := by
  intro i him
  obtain ⟨a1, a2, a3⟩ := hA i him
  have := hk i him
  rw [sm_pick (g := fun c => Eb i c * v (π c)) n π h1 hi (fun c hc hn => ?_) (fun c hc => ?_)] at this
  · exact this
  · rw [ha i him, rowE_out a1 a2 a3 hn, Nat.mul_mod]; simp
  · rw [ha i him, hb i him, rowE_map hi a1 a2 a3 hc]
theorem col_eq (hT : TW tn) (hR : TR ri tn) (hD : DW tn pt t) {p r1 r2 : Nat} (hp : p = 3 ∨ p = 5 ∨ p = 7) {Ea Eb : Nat → Nat → Nat} {pa pb : Nat → Nat} (h1 : PRG p (xL tn t (nX tn)).length (BA ri tn pt t (nR tn)) r1 (BA ri tn pt t (nR tn)) (E1 ri tn pt t p) Ea pa) (h2 : PRG p (xL tn t (nX tn)).length (BA ri tn pt t (nR tn)) r2 (BA ri tn pt t (nR tn)) (E2 ri tn pt t p) Eb pb) : r1 = r2 := by
  have h7 := hT.x7
  have hC := hD.1
  -- the three arcs of a crossing that is left
  have arcs : ∀ i, i < (xL tn t (nX tn)).length → ∃ s0 s1, s0 < nS tn ∧ s1 < nS tn ∧ nib t s0 ≠ 15 ∧ nib t s1 ≠ 15 ∧ nib t s0 % 2 = 0 ∧ s1 = sp tn t (2 * (xL tn t (nX tn)).getD i 0 + 1) ∧ s0 = sp tn t (2 * (xL tn t (nX tn)).getD i 0) := by
    intro i hi
    have hm : (xL tn t (nX tn)).getD i 0 ∈ xL tn t (nX tn) := by
      rw [List.getD_eq_getElem?_getD, List.getElem?_eq_getElem hi]
      exact List.getElem_mem hi
    unfold xL at hm
    obtain ⟨q1, q2⟩ := List.mem_filter.mp hm
    have q1 := List.mem_range.mp q1
    obtain ⟨l0, l1⟩ := left_lv hC q1 h7 q2
    obtain ⟨_, b0, n0⟩ := lv_sp l0 hC (by omega)
    obtain ⟨_, b1, n1⟩ := lv_sp l1 hC (by omega)
    exact ⟨_, _, b0, b1, by unfold xL at *; omega, by unfold xL at *; omega, by unfold xL at *; omega, rfl, rfl⟩
  have bnd : ∀ s, s < nS tn → nib t s ≠ 15 → jb ri tn pt t s + uI t s ≤ uN ri tn pt t (rg tn s) := fun s hs ls => jb_bound (t := t) hR hD.pt hT hs ls
  have ones : ∀ s, nib t s % 2 = 0 → uI t s = 1 := fun s hs => by unfold uI; rw [if_pos (by simp [unB, hs])]
  obtain ⟨p1, p2⟩ := bmp_ok (ri := ri) (tn := tn) (pt := pt) (t := t) gP_ok.1 gP_ok.2
  obtain ⟨q1, q2⟩ := bmp_ok (ri := ri) (tn := tn) (pt := pt) (t := t) gR_ok.1 gR_ok.2
  have ta : ∀ s, s < nS tn → nib t s ≠ 15 → bmp ri tn pt t (gP ri tn pt t) (ra ri tn pt t s) = ca ri tn pt t s ∧ bmp ri tn pt t (gR ri tn pt t) (ca ri tn pt t s) = ra ri tn pt t s := fun s hs ls => tie (hT.rgR hs) (by have := bnd s hs ls; omega)
  have tb : ∀ s, s < nS tn → nib t s ≠ 15 → nib t s % 2 = 0 → bmp ri tn pt t (gP ri tn pt t) (rb ri tn pt t s) = cb ri tn pt t s ∧ bmp ri tn pt t (gR ri tn pt t) (cb ri tn pt t s) = rb ri tn pt t s := fun s hs ls hu => by
    unfold rb cb
    rw [ones s hu]
    exact tie (hT.rgR hs) (by have := bnd s hs ls; rw [ones s hu] at this; exact this)
  have g1 : r2 ≤ r1 := by
    refine rank_le (PR_p hp) h1.fin h2.fin p1 p2 (fun v hv => ?_)
    rw [h2.2.2.2 _]
    rw [h1.2.2.2 _] at hv
    refine ker_map (Ea := E1 ri tn pt t p) (Eb := E2 ri tn pt t p) (A := fun i => ra ri tn pt t (sp tn t (2 * (xL tn t (nX tn)).getD i 0 + 1))) (B := fun i => ra ri tn pt t (sp tn t (2 * (xL tn t (nX tn)).getD i 0))) (C := fun i => rb ri tn pt t (sp tn t (2 * (xL tn t (nX tn)).getD i 0))) p1 p2 (fun i hi => ?_) (fun i hi c => rfl) (fun i hi c => ?_) v hv
    · obtain ⟨s0, s1, b0, b1, l0, l1, _, e1, e0⟩ := arcs i hi
      have a := ra_lt hT hR hD b0 l0
      have b := ra_lt hT hR hD b1 l1
      subst e1 e0
      exact ⟨b.1, a.1, a.2⟩
    · obtain ⟨s0, s1, b0, b1, l0, l1, u0, e1, e0⟩ := arcs i hi
      unfold E1
      rw [← e1, ← e0, (ta s1 b1 l1).1, (ta s0 b0 l0).1, (tb s0 b0 l0 u0).1]
  have g2 : r1 ≤ r2 := by
    refine rank_le (PR_p hp) h2.fin h1.fin q1 q2 (fun v hv => ?_)
    rw [h1.2.2.2 _]
    rw [h2.2.2.2 _] at hv
    refine ker_map (Ea := E2 ri tn pt t p) (Eb := E1 ri tn pt t p) (A := fun i => ca ri tn pt t (sp tn t (2 * (xL tn t (nX tn)).getD i 0 + 1))) (B := fun i => ca ri tn pt t (sp tn t (2 * (xL tn t (nX tn)).getD i 0))) (C := fun i => cb ri tn pt t (sp tn t (2 * (xL tn t (nX tn)).getD i 0))) q1 q2 (fun i hi => ?_) (fun i hi c => rfl) (fun i hi c => ?_) v hv
    · obtain ⟨s0, s1, b0, b1, l0, l1, u0, e1, e0⟩ := arcs i hi
      have a := ca_lt hT hR hD b0 l0
      have b := ca_lt hT hR hD b1 l1
      subst e1 e0
      exact ⟨b.1, a.1, a.2 u0⟩
    · obtain ⟨s0, s1, b0, b1, l0, l1, u0, e1, e0⟩ := arcs i hi
      unfold E2
      rw [← e1, ← e0, (ta s1 b1 l1).2, (ta s0 b0 l0).2, (tb s0 b0 l0 u0).2]
  omega
end BLK
