def rI (ri : RiS) (tn : TnS) (pt : Option Nat) (t : Int64) (r j : Nat) : Nat := BA ri tn pt t r + (if opB tn pt r = true ∨ uN ri tn pt t r = 0 then j else j % uN ri tn pt t r)
def uI (t : Int64) (s : Nat) : Nat := if unB t s then 1 else 0
def ra (ri : RiS) (tn : TnS) (pt : Option Nat) (t : Int64) (s : Nat) : Nat := rI ri tn pt t (rg tn s) (jb ri tn pt t s)
def rb (ri : RiS) (tn : TnS) (pt : Option Nat) (t : Int64) (s : Nat) : Nat := rI ri tn pt t (rg tn s) (jb ri tn pt t s + uI t s)
def RAs (ri : RiS) (tn : TnS) (pt : Option Nat) (t : Int64) (md : MdS) (W : List Nat) : Prop := ∀ s, s ∈ W → Md_ahead md s = nI (ra ri tn pt t s) ∧ Md_after md s = nI (rb ri tn pt t s)
/-- the gap's side, told as the reference does -/
def latB (tn : TnS) (pt : Option Nat) (r s : Nat) : Bool := match pt with
  | none => true
  | some l => !(lr tn l == r) || decide (ro tn l < ro tn (lk tn s))
def P0 (tn : TnS) (pt : Option Nat) (t : Int64) (r s : Nat) : Bool := (rg tn s == r) && lvB t s && latB tn pt r s
def P1 (tn : TnS) (pt : Option Nat) (t : Int64) (r s : Nat) : Bool := (rg tn s == r) && lvB t s && !(latB tn pt r s)
theorem filter_itv {p : Nat → Bool} {a b S : Nat} (h1 : a ≤ b) (h2 : b ≤ S) : (List.range S).filter (fun s => decide (a ≤ s ∧ s < b) && p s) = (List.range' a (b - a)).filter p := by
  rw [range_split h2, range_split h1, List.filter_append, List.filter_append]
  have e1 : (List.range a).filter (fun s => decide (a ≤ s ∧ s < b) && p s) = [] := List.filter_eq_nil_iff.mpr (fun s hs => by
    have := List.mem_range.mp hs
    simp [show ¬ a ≤ s by omega])
  have e2 : (List.range' b (S - b)).filter (fun s => decide (a ≤ s ∧ s < b) && p s) = [] := List.filter_eq_nil_iff.mpr (fun s hs => by
    have := List.mem_range'_1.mp hs
    simp [show ¬ s < b by omega])
  rw [e1, e2, List.append_nil, List.nil_append]
  refine List.filter_congr (fun s hs => ?_)
  have := List.mem_range'_1.mp hs
  simp [show a ≤ s by omega, show s < b by omega]
section RARCS
variable {ri : RiS} {tn : TnS} {pt : Option Nat} {t : Int64}
theorem WL_parts (hT : TW tn) (hR : TR ri tn) (hD : DW tn pt t) {r : Nat} (hr : r < nR tn) : WL ri tn pt t r = (List.range (nS tn)).filter (P0 tn pt t r) ++ (List.range (nS tn)).filter (P1 tn pt t r) := by
  have hw := hD.pt
  have h := st0_in hR hw hr
  have hf := hR.fsS (show r + 1 ≤ nR tn by omega)
  unfold WL ordL
  rw [List.filter_append, ← filter_itv (p := lvB t) (a := st0 ri tn pt r) (b := fsr ri (r + 1)) (S := nS tn) h.2 hf, ← filter_itv (p := lvB t) (a := fsr ri r) (b := st0 ri tn pt r) (S := nS tn) h.1 (by omega)]
  -- on which side
  have sd : ∀ s, s < nS tn → rg tn s = r → lvB t s = true → (latB tn pt r s = true ↔ st0 ri tn pt r ≤ s) := by
    intro s hs er hl
    unfold latB st0
    cases hp : pt with
    | none => exact ⟨fun _ => ((hR.fsi hr hs).mp er).1, fun _ => rfl⟩
    | some l =>
      by_cases e : lr tn l = r
      · have := side hT hR hD hp hs (er.trans e.symm) (lvB_t.mp hl)
        rw [er] at this
        unfold st0 at this
        rw [hp] at this
        simp only [e, if_true] at this ⊢
        simp [this.1]
      · simp only [e, if_false]
        simp [e, ((hR.fsi hr hs).mp er).1]
  congr 1
  · refine List.filter_congr (fun s hs => ?_)
    have hs := List.mem_range.mp hs
    have hi := hR.fsi hr hs
    unfold P0
    by_cases hl : lvB t s = true
    · by_cases er : rg tn s = r
      · have hii := hi.mp er
        have h2 := sd s hs er hl
        by_cases hc : st0 ri tn pt r ≤ s
        · simp [hl, er, h2.mpr hc, hc, hii.2]
        · have : latB tn pt r s = false := by
            cases hb : latB tn pt r s with
            | false => rfl
            | true => exact absurd (h2.mp hb) hc
          simp [hl, er, this, hc]
      · have : ¬ (st0 ri tn pt r ≤ s ∧ s < fsr ri (r + 1)) := fun hc => er (hi.mpr ⟨by omega, hc.2⟩)
        simp [hl, er, this]
    · simp [hl]
  · refine List.filter_congr (fun s hs => ?_)
    have hs := List.mem_range.mp hs
    have hi := hR.fsi hr hs
    unfold P1
    by_cases hl : lvB t s = true
    · by_cases er : rg tn s = r
      · have hii := hi.mp er
        have h2 := sd s hs er hl
        by_cases hc : st0 ri tn pt r ≤ s
        · simp [hl, er, h2.mpr hc, show ¬ s < st0 ri tn pt r by omega]
        · have : latB tn pt r s = false := by
            cases hb : latB tn pt r s with
            | false => rfl
            | true => exact absurd (h2.mp hb) hc
          simp [hl, er, this, hii.1]; omega
      · have : ¬ (fsr ri r ≤ s ∧ s < st0 ri tn pt r) := fun hc => er (hi.mpr ⟨hc.1, by omega⟩)
        simp [hl, er, this]
    · simp [hl]
/-- a row of standings -/
def RWs (md : MdS) (W : List Nat) : Prop := ∀ j s, W[j]? = some s → Md_row md j = nI s
def qcore (md : MdS) : MdS := score md
theorem arcsOf1 (hT : TW tn) (hR : TR ri tn) (hD : DW tn pt t) {r : Nat} (hr : r < nR tn) (K : MdS → Option MdS) (Q : MdS → Prop) (op : Int32) :
    ∀ n k md, (WL ri tn pt t r).length - k < n → k ≤ (WL ri tn pt t r).length → Md_now md = t → RWs md (WL ri tn pt t r) →
    (∀ s, s ∈ (WL ri tn pt t r).take k → Md_ahead md s = nI (BA ri tn pt t r + jb ri tn pt t s) ∧ Md_after md s = nI (BA ri tn pt t r + (jb ri tn pt t s + uI t s))) →
    (∀ md', Sc md md' → Md_arcs md' = Md_arcs md → RWs md' (WL ri tn pt t r) → (∀ s, s ∈ WL ri tn pt t r → Md_ahead md' s = nI (BA ri tn pt t r + jb ri tn pt t s) ∧ Md_after md' s = nI (BA ri tn pt t r + (jb ri tn pt t s + uI t s))) → (∀ s, s ∉ WL ri tn pt t r → Md_ahead md' s = Md_ahead md s ∧ Md_after md' s = Md_after md s) →
      Ok (if op = 0 then (if nI (uN ri tn pt t r) = 0 then f_X13_laysArcsOf_L103 (nI (BA ri tn pt t r + uN ri tn pt t r)) md' else f_X13_laysArcsOf_L115 FU (nI (WL ri tn pt t r).length) (nI (BA ri tn pt t r)) (nI (BA ri tn pt t r + uN ri tn pt t r)) 0 md') else f_X13_laysArcsOf_L103 (nI (BA ri tn pt t r + uN ri tn pt t r)) md') Q) →
    Ok (f_X13_laysArcsOf_L17 n (nI (WL ri tn pt t r).length) op (nI (BA ri tn pt t r)) (nI (BA ri tn pt t r + ((WL ri tn pt t r).take k).countP (unB t))) (nI (((WL ri tn pt t r).take k).countP (unB t))) (nI k) md) Q := by
  have hw := hD.pt
  have h14 := hT.s14
  have hWl : (WL ri tn pt t r).length ≤ 14 := by
    have h1 := len_WL (t := t) hR hw hr
    have h2 : (List.range (fsr ri (r + 1))).countP (lvB t) ≤ fsr ri (r + 1) := Nat.le_trans List.countP_le_length (by rw [List.length_range]; exact Nat.le_refl _)
    have := hR.fsS (show r + 1 ≤ nR tn by omega)
    omega
  intro n
  induction n with
  | zero => intro k md h; omega
  | succ n ih =>
    intro k md hn hk hno hrow hd hQ
    rw [f_X13_laysArcsOf_L17]
    by_cases e : k = (WL ri tn pt t r).length
    · subst e
      rw [if_pos (nI_le (Nat.le_refl _) (by omega)), List.take_length]
      rw [List.take_length] at hd
      exact hQ md (Sc.refl md) rfl hrow hd (fun s _ => ⟨rfl, rfl⟩)
    · have hk2 : k < (WL ri tn pt t r).length := by omega
      obtain ⟨s, hs⟩ : ∃ s, (WL ri tn pt t r)[k]? = some s := ⟨(WL ri tn pt t r)[k], List.getElem?_eq_getElem hk2⟩
      have hsm := (mem_WL hR hw hr).mp (List.mem_of_getElem? hs)
      obtain ⟨hrg, hjb⟩ := jb_at hR hw hr hs
      have hns := nib_lt t s
      have htk : (WL ri tn pt t r).take (k + 1) = (WL ri tn pt t r).take k ++ [s] := by rw [List.take_succ, hs]; rfl
      have hnin : s ∉ (WL ri tn pt t r).take k := by
        intro hm
        have h2 := List.Nodup.sublist (List.take_sublist (k + 1) _) (WL_nodup (t := t) hR hw hr)
        rw [htk, List.nodup_append] at h2
        exact h2.2.2 s hm s (by simp) rfl
      rw [if_neg (nI_ge hk2 (by omega)), ckI (by omega) (by decide), nI_clamp (by omega), hrow k s hs, hno, bd1_e (at_e t s (by omega)), show nI (nib t s) &&& (1 : Int32) = nI (nib t s % 2) from n_and1 _ (by omega)]
      have fin : ∀ u : Nat, u = uI t s → ∀ md2, md2 = Md_after' (Md_ahead' md (upd (Md_ahead md) s (nI (BA ri tn pt t r + ((WL ri tn pt t r).take k).countP (unB t))))) (upd (Md_after md) s (nI (BA ri tn pt t r + ((WL ri tn pt t r).take k).countP (unB t) + u))) → Ok (f_X13_laysArcsOf_L17 n (nI (WL ri tn pt t r).length) op (nI (BA ri tn pt t r)) (nI (BA ri tn pt t r + ((WL ri tn pt t r).take k).countP (unB t) + u)) (nI (((WL ri tn pt t r).take k).countP (unB t) + u)) (nI (k + 1)) md2) Q := by
        intro u hu md2 hm2
        subst hm2
        have hsc : Sc md (Md_after' (Md_ahead' md (upd (Md_ahead md) s (nI (BA ri tn pt t r + ((WL ri tn pt t r).take k).countP (unB t))))) (upd (Md_after md) s (nI (BA ri tn pt t r + ((WL ri tn pt t r).take k).countP (unB t) + u)))) := (Sc.u_ahead _ _).trans (Sc.u_after _ _)
        have ecnt : ((WL ri tn pt t r).take (k + 1)).countP (unB t) = ((WL ri tn pt t r).take k).countP (unB t) + u := by
          rw [htk, List.countP_append, List.countP_singleton, hu]; rfl
        have q := ih (k + 1) (Md_after' (Md_ahead' md (upd (Md_ahead md) s (nI (BA ri tn pt t r + ((WL ri tn pt t r).take k).countP (unB t))))) (upd (Md_after md) s (nI (BA ri tn pt t r + ((WL ri tn pt t r).take k).countP (unB t) + u)))) (by omega) (by omega) (hsc.now.trans hno) (by
          unfold RWs
          rw [gn_row_after, gn_row_ahead]; exact hrow) (fun v hv => by
          rw [gn_ahead_after, gs_ahead, gs_after]
          rw [htk] at hv
          rcases List.mem_append.mp hv with hv | hv
          · have hne : v ≠ s := fun e => hnin (by rw [← e]; exact hv)
            rw [upd_ne hne, upd_ne hne]
            exact hd v hv
          · rw [List.mem_singleton.mp hv, upd_at, upd_at, hjb, hu]
            exact ⟨rfl, by rw [Nat.add_assoc]⟩) (fun md' h1 h2 h3 h4 h5 => hQ md' (hsc.trans h1) (h2.trans (by rw [gn_arcs_after, gn_arcs_ahead])) h3 h4 (fun v hv => by
          obtain ⟨q1, q2⟩ := h5 v hv
          have hne : v ≠ s := fun e => hv (by rw [e]; exact List.mem_of_getElem? hs)
          rw [gn_ahead_after, gs_ahead, upd_ne hne] at q1
          rw [gs_after, upd_ne hne] at q2
          exact ⟨q1, q2⟩))
        rw [ecnt, ← Nat.add_assoc] at q
        exact q
      unfold f_X13_laysArcsOf_L47 f_X13_laysArcsOf_L74
      by_cases c : nib t s % 2 = 0
      · have hu : unB t s = true := by simp [unB, c]
        rw [if_pos (by rw [c]; rfl), ckI (by omega) (by decide), nI_clamp (by omega), hrow k s hs, ckI (by omega) (by decide), nI_clamp (by omega), lt1_e, if_neg (by decide), lt1_e, lt1_e, ckI (by omega) (by decide), gn_row_ahead, hrow k s hs, ckI (by omega) (by decide), nI_clamp (by omega), lt1_e, lt1_e, nI_1, nI_1, nI_1]
        exact fin 1 (by unfold uI; rw [if_pos hu]) _ (by rw [gn_after_ahead])
      · have hu : ¬ unB t s = true := by simp [unB, c]
        rw [if_neg (nI_ne0 (by omega) (by omega)), ckI (by omega) (by decide), nI_clamp (by omega), hrow k s hs, ckI (by omega) (by decide), nI_clamp (by omega), lt1_e, if_pos rfl, ckI (by omega) (by decide), gn_row_ahead, hrow k s hs, ckI (by omega) (by decide), nI_clamp (by omega), lt1_e, lt1_e, nI_1]
        exact fin 0 (by unfold uI; rw [if_neg hu]) _ (by rw [gn_after_ahead]; rfl)
end RARCS
