/-! truth as a number -/
noncomputable def tf (P : Prop) : Int32 := @ite Int32 P (Classical.propDecidable P) 1 0
theorem tf_t {P : Prop} (h : P) : tf P = 1 := by unfold tf; exact if_pos h
theorem tf_f {P : Prop} (h : ¬ P) : tf P = 0 := by unfold tf; exact if_neg h
theorem tf_0 {P : Prop} : tf P = 0 ↔ ¬ P := ⟨fun e h => by rw [tf_t h] at e; exact absurd e (by decide), tf_f⟩
theorem tf_1 {P : Prop} : tf P = 1 ↔ P := ⟨fun e => Classical.byContradiction (fun h => by rw [tf_f h] at e; exact absurd e (by decide)), tf_t⟩
theorem tf_c {P Q : Prop} (h : P ↔ Q) : tf P = tf Q := by rw [propext h]
theorem tf_z (P : Prop) : tf P = 0 ∨ tf P = 1 := by
  by_cases h : P
  · exact Or.inr (tf_t h)
  · exact Or.inl (tf_f h)
theorem tf_inj {P Q : Prop} (h : tf P = tf Q) : P ↔ Q := by
  constructor
  · intro p; exact tf_1.mp (h ▸ tf_t p)
  · intro q; exact tf_1.mp (h.symm ▸ tf_t q)
theorem some_tf {P : Prop} {v : Int32} (h1 : P → v = 1) (h0 : ¬ P → v = 0) : some v = some (tf P) := by
  by_cases h : P
  · rw [tf_t h, h1 h]
  · rw [tf_f h, h0 h]
/-! what never changes of the reference's tangle -/
def cl (v : Int32) : Nat := v.toNatClampNeg
theorem cl_I {n : Nat} (h : n < 2 ^ 31) : cl (nI n) = n := nI_clamp h
def nS (tn : TnS) : Nat := cl (Tn_standings tn)
def nX (tn : TnS) : Nat := cl (Tn_crossings tn)
def nL (tn : TnS) : Nat := cl (Tn_links tn)
def nP (tn : TnS) : Nat := cl (Tn_people tn)
def nR (tn : TnS) : Nat := cl (Tn_rings tn)
def lk (tn : TnS) (s : Nat) : Nat := cl (Tn_standLink tn s)
def lr (tn : TnS) (l : Nat) : Nat := cl (Tn_linkRing tn l)
def ro (tn : TnS) (l : Nat) : Nat := cl (Tn_linkRow tn l)
def rg (tn : TnS) (s : Nat) : Nat := lr tn (lk tn s)
def tl (tn : TnS) (p : Nat) : Nat := cl (Tn_tall tn p)
def on1 (tn : TnS) (l : Nat) : Nat := cl (Tn_one tn l)
def on2 (tn : TnS) (l : Nat) : Nat := cl (Tn_two tn l)
def ov (tn : TnS) (x : Nat) : Nat := cl (Tn_over tn x)
def un (tn : TnS) (x : Nat) : Nat := cl (Tn_under tn x)
def TW (tn : TnS) : Prop :=
  (Tn_standings tn = nI (nS tn) ∧ Tn_crossings tn = nI (nX tn) ∧ Tn_links tn = nI (nL tn) ∧ Tn_people tn = nI (nP tn) ∧ Tn_rings tn = nI (nR tn)) ∧
  (nX tn ≤ 7 ∧ nS tn = 2 * nX tn ∧ nL tn ≤ 8 ∧ nP tn ≤ 8 ∧ nL tn = nP tn ∧ nR tn ≤ 8) ∧
  (∀ s, s < nS tn → Tn_standLink tn s = nI (lk tn s) ∧ lk tn s < nL tn ∧ Tn_standRing tn s = nI (rg tn s)) ∧
  (∀ l, l < nL tn → Tn_linkRing tn l = nI (lr tn l) ∧ lr tn l < nR tn ∧ Tn_linkRow tn l = nI (ro tn l) ∧ ro tn l < 8) ∧
  (∀ s k, s ≤ k → k < nS tn → rg tn s ≤ rg tn k ∧ (rg tn s = rg tn k → ro tn (lk tn s) ≤ ro tn (lk tn k))) ∧
  (∀ l k, l < nL tn → k < nL tn → lr tn l = lr tn k → ro tn l = ro tn k → l = k) ∧
  (∀ l, l < nL tn → Tn_one tn l = nI (on1 tn l) ∧ on1 tn l < nP tn ∧ Tn_two tn l = nI (on2 tn l) ∧ on2 tn l < nP tn) ∧
  (∀ p, p < nP tn → Tn_tall tn p = nI (tl tn p) ∧ tl tn p < 100) ∧ (∃ h, h < 100 ∧ Tn_height tn = nI h) ∧
  (∀ x, x < nX tn → Tn_over tn x = nI (ov tn x) ∧ ov tn x < nL tn ∧ Tn_under tn x = nI (un tn x) ∧ un tn x < nL tn ∧ (Tn_sign tn x = 1 ∨ Tn_sign tn x = -1))
section TWS
variable {tn : TnS}
theorem TW.S (h : TW tn) : Tn_standings tn = nI (nS tn) := h.1.1
theorem TW.X (h : TW tn) : Tn_crossings tn = nI (nX tn) := h.1.2.1
theorem TW.L (h : TW tn) : Tn_links tn = nI (nL tn) := h.1.2.2.1
theorem TW.P (h : TW tn) : Tn_people tn = nI (nP tn) := h.1.2.2.2.1
theorem TW.R (h : TW tn) : Tn_rings tn = nI (nR tn) := h.1.2.2.2.2
theorem TW.x7 (h : TW tn) : nX tn ≤ 7 := h.2.1.1
theorem TW.s2 (h : TW tn) : nS tn = 2 * nX tn := h.2.1.2.1
theorem TW.s14 (h : TW tn) : nS tn ≤ 14 := by have := h.x7; have := h.s2; omega
theorem TW.l8 (h : TW tn) : nL tn ≤ 8 := h.2.1.2.2.1
theorem TW.p8 (h : TW tn) : nP tn ≤ 8 := h.2.1.2.2.2.1
theorem TW.r8 (h : TW tn) : nR tn ≤ 8 := h.2.1.2.2.2.2.2
theorem TW.lp (h : TW tn) : nL tn = nP tn := h.2.1.2.2.2.2.1
theorem TW.elk (h : TW tn) {s : Nat} (hs : s < nS tn) : Tn_standLink tn s = nI (lk tn s) := (h.2.2.1 s hs).1
theorem TW.lkL (h : TW tn) {s : Nat} (hs : s < nS tn) : lk tn s < nL tn := (h.2.2.1 s hs).2.1
theorem TW.lk8 (h : TW tn) {s : Nat} (hs : s < nS tn) : lk tn s < 8 := Nat.lt_of_lt_of_le (h.lkL hs) h.l8
theorem TW.erg (h : TW tn) {s : Nat} (hs : s < nS tn) : Tn_standRing tn s = nI (rg tn s) := (h.2.2.1 s hs).2.2
theorem TW.elr (h : TW tn) {l : Nat} (hl : l < nL tn) : Tn_linkRing tn l = nI (lr tn l) := (h.2.2.2.1 l hl).1
theorem TW.lrR (h : TW tn) {l : Nat} (hl : l < nL tn) : lr tn l < nR tn := (h.2.2.2.1 l hl).2.1
theorem TW.ero (h : TW tn) {l : Nat} (hl : l < nL tn) : Tn_linkRow tn l = nI (ro tn l) := (h.2.2.2.1 l hl).2.2.1
theorem TW.ro8 (h : TW tn) {l : Nat} (hl : l < nL tn) : ro tn l < 8 := (h.2.2.2.1 l hl).2.2.2
theorem TW.rgR (h : TW tn) {s : Nat} (hs : s < nS tn) : rg tn s < nR tn := h.lrR (h.lkL hs)
theorem TW.mono (h : TW tn) {s k : Nat} (h1 : s ≤ k) (h2 : k < nS tn) : rg tn s ≤ rg tn k ∧ (rg tn s = rg tn k → ro tn (lk tn s) ≤ ro tn (lk tn k)) := h.2.2.2.2.1 s k h1 h2
theorem TW.inj (h : TW tn) {l k : Nat} (h1 : l < nL tn) (h2 : k < nL tn) (h3 : lr tn l = lr tn k) (h4 : ro tn l = ro tn k) : l = k := h.2.2.2.2.2.1 l k h1 h2 h3 h4
theorem TW.ends (h : TW tn) {l : Nat} (hl : l < nL tn) : Tn_one tn l = nI (on1 tn l) ∧ on1 tn l < nP tn ∧ Tn_two tn l = nI (on2 tn l) ∧ on2 tn l < nP tn := h.2.2.2.2.2.2.1 l hl
theorem TW.etl (h : TW tn) {p : Nat} (hp : p < nP tn) : Tn_tall tn p = nI (tl tn p) ∧ tl tn p < 100 := h.2.2.2.2.2.2.2.1 p hp
theorem TW.ht (h : TW tn) : ∃ h, h < 100 ∧ Tn_height tn = nI h := h.2.2.2.2.2.2.2.2.1
theorem TW.cr (h : TW tn) {x : Nat} (hx : x < nX tn) : Tn_over tn x = nI (ov tn x) ∧ ov tn x < nL tn ∧ Tn_under tn x = nI (un tn x) ∧ un tn x < nL tn ∧ (Tn_sign tn x = 1 ∨ Tn_sign tn x = -1) := h.2.2.2.2.2.2.2.2.2 x hx
end TWS
/-! what stands next to what -/
def ptv (pt : Option Nat) : Int32 := match pt with
  | none => -2
  | some l => nI l
def cut (tn : TnS) (pt : Option Nat) (f t r : Nat) : Prop := ∃ l, pt = some l ∧ lr tn l = r ∧ f ≤ ro tn l ∧ ro tn l < t
def NX (tn : TnS) (pt : Option Nat) (t : Int64) (a b : Nat) : Prop :=
  a < nS tn ∧ b < nS tn ∧ nib t a ≠ 15 ∧ nib t b ≠ 15 ∧ rg tn a = rg tn b ∧
  ((a < b ∧ (∀ k, a < k → k < b → nib t k = 15) ∧ ¬ cut tn pt (ro tn (lk tn a) + 1) (ro tn (lk tn b)) (rg tn a)) ∨
   (b ≤ a ∧ (∀ k, a < k → k < nS tn → rg tn k = rg tn a → nib t k = 15) ∧ (∀ k, k < b → rg tn k = rg tn a → nib t k = 15) ∧ ¬ cut tn pt (ro tn (lk tn a) + 1) 8 (rg tn a) ∧ ¬ cut tn pt 0 (ro tn (lk tn b)) (rg tn a)))
def ptW (tn : TnS) (pt : Option Nat) : Prop := ∀ l, pt = some l → l < nL tn
theorem rOpen {md : MdS} {tn : TnS} {pt : Option Nat} (hT : TW tn) (hp : Md_parted md = ptv pt) (hw : ptW tn pt) {f t r : Nat} {p1 : Int32} (h1 : p1 + 1 = nI f) (hf : f < 100) (ht : t < 100) (hr : r < 100) :
    f_X13_isOpen md tn p1 (nI t) (nI r) = some (tf (cut tn pt f t r)) := by
  unfold f_X13_isOpen
  rw [hp]
  cases pt with
  | none =>
    rw [if_pos (show ptv none = -2 from rfl)]
    refine some_tf ?_ (fun _ => rfl)
    rintro ⟨l, h, _⟩
    cases h
  | some l =>
    have hl := hw l rfl
    have h8 := hT.l8
    have e : ptv (some l) = nI l := rfl
    have hro := hT.ro8 hl
    have hlr := hT.lrR hl
    have hr8 := hT.r8
    rw [e, if_neg (by rw [nI_neg2 (by omega)]; exact fun h => h), ckI (by omega) (by omega), nI_clamp (by omega), hT.elr hl, hT.ero hl]
    have e1 : nI (ro tn l) ≤ p1 ↔ ro tn l < f := by
      have : p1 = nI f - 1 := by rw [← h1]; exact (Int32.add_sub_cancel p1 1).symm
      cases f with
      | zero =>
        rw [this]
        have e0 : nI 0 - 1 = -1 := by decide
        rw [e0, Int32.le_iff_toInt_le, nI_toInt (by omega)]
        have e2 : (-1 : Int32).toInt = -1 := by decide
        rw [e2]
        omega
      | succ f =>
        rw [this, nI_pred, nI_leI (by omega) (by omega)]
        omega
    by_cases hc : lr tn l = r
    · rw [if_pos (by rw [hc]), ckI (by omega) (by omega)]
      by_cases h2 : ro tn l < f
      · rw [if_pos (e1.mpr h2)]
        refine some_tf ?_ (fun _ => rfl)
        rintro ⟨k, hk, _, h3, _⟩
        cases hk
        omega
      · rw [if_neg (fun h => h2 (e1.mp h)), ckI (by omega) (by omega)]
        by_cases h3 : t ≤ ro tn l
        · rw [if_pos ((nI_leI (by omega) (by omega)).mpr h3)]
          refine some_tf ?_ (fun _ => rfl)
          rintro ⟨k, hk, _, _, h4⟩
          cases hk
          omega
        · rw [if_neg (fun h => h3 ((nI_leI (by omega) (by omega)).mp h))]
          refine some_tf (fun _ => rfl) (fun h => absurd ⟨l, rfl, hc, by omega, by omega⟩ h)
    · rw [if_neg (fun h => hc (nI_inj h (by omega) (by omega)))]
      refine some_tf ?_ (fun _ => rfl)
      rintro ⟨k, hk, h3, _⟩
      cases hk
      exact absurd h3 hc
