section RARCS3
variable {ri : RiS} {tn : TnS} {pt : Option Nat} {t : Int64}
theorem P0_or {r s : Nat} : (P0 tn pt t r s = true → rg tn s = r ∧ nib t s ≠ 15 ∧ latB tn pt r s = true) ∧ (P1 tn pt t r s = true → rg tn s = r ∧ nib t s ≠ 15 ∧ latB tn pt r s = false) := by
  unfold P0 P1
  constructor
  · intro h
    simp only [Bool.and_eq_true, beq_iff_eq] at h
    exact ⟨h.1.1, lvB_t.mp h.1.2, h.2⟩
  · intro h
    simp only [Bool.and_eq_true, beq_iff_eq] at h
    exact ⟨h.1.1, lvB_t.mp h.1.2, by simpa using h.2⟩
/-- the row, filled so far -/
noncomputable def Fr (tn : TnS) (pt : Option Nat) (t : Int64) (r part k : Nat) : List Nat := if part = 0 then (List.range k).filter (P0 tn pt t r) else (List.range (nS tn)).filter (P0 tn pt t r) ++ (List.range k).filter (P1 tn pt t r)
theorem Fr_step {r part k : Nat} (hp : part < 2) : Fr tn pt t r part (k + 1) = Fr tn pt t r part k ++ (if rg tn k = r ∧ nib t k ≠ 15 ∧ (latB tn pt r k = true ↔ part = 0) then [k] else []) := by
  unfold Fr
  have e0 : P0 tn pt t r k = decide (rg tn k = r ∧ nib t k ≠ 15 ∧ latB tn pt r k = true) := by
    cases h : P0 tn pt t r k with
    | true => exact (decide_eq_true (P0_or.1 h)).symm
    | false =>
      refine (decide_eq_false (fun hc => ?_)).symm
      unfold P0 at h
      simp [hc.1, lvB_t.mpr hc.2.1, hc.2.2] at h
  have e1 : P1 tn pt t r k = decide (rg tn k = r ∧ nib t k ≠ 15 ∧ latB tn pt r k = false) := by
    cases h : P1 tn pt t r k with
    | true => exact (decide_eq_true (P0_or.2 h)).symm
    | false =>
      refine (decide_eq_false (fun hc => ?_)).symm
      unfold P1 at h
      simp [hc.1, lvB_t.mpr hc.2.1, hc.2.2] at h
  by_cases c : part = 0
  · rw [if_pos c, if_pos c, List.range_succ, List.filter_append]
    congr 1
    by_cases d : rg tn k = r ∧ nib t k ≠ 15 ∧ latB tn pt r k = true
    · rw [if_pos ⟨d.1, d.2.1, by simp [c, d.2.2]⟩]
      simp [List.filter, e0, d]
    · rw [if_neg (fun h => d ⟨h.1, h.2.1, h.2.2.mpr c⟩)]
      simp [List.filter, e0, d]
  · rw [if_neg c, if_neg c, List.range_succ, List.filter_append, List.append_assoc]
    congr 2
    by_cases d : rg tn k = r ∧ nib t k ≠ 15 ∧ latB tn pt r k = false
    · rw [if_pos ⟨d.1, d.2.1, by simp [c, d.2.2]⟩]
      simp [List.filter, e1, d]
    · rw [if_neg (fun h => d ⟨h.1, h.2.1, by
        cases hb : latB tn pt r k with
        | false => rfl
        | true => exact absurd (h.2.2.mp hb) c⟩)]
      simp [List.filter, e1, d]
theorem Fr_len (hT : TW tn) (hR : TR ri tn) (hD : DW tn pt t) {r part k : Nat} (hr : r < nR tn) (hk : k ≤ nS tn) : (Fr tn pt t r part k).length ≤ (WL ri tn pt t r).length := by
  rw [WL_parts hT hR hD hr, List.length_append]
  have e : List.range (nS tn) = List.range k ++ List.range' k (nS tn - k) := range_split hk
  unfold Fr
  by_cases c : part = 0
  · rw [if_pos c]
    have : ((List.range (nS tn)).filter (P0 tn pt t r)).length = ((List.range k).filter (P0 tn pt t r)).length + ((List.range' k (nS tn - k)).filter (P0 tn pt t r)).length := by rw [e, List.filter_append, List.length_append]
    omega
  · rw [if_neg c, List.length_append]
    have : ((List.range (nS tn)).filter (P1 tn pt t r)).length = ((List.range k).filter (P1 tn pt t r)).length + ((List.range' k (nS tn - k)).filter (P1 tn pt t r)).length := by rw [e, List.filter_append, List.length_append]
    omega
theorem WL14 (hT : TW tn) (hR : TR ri tn) (hw : ptW tn pt) {r : Nat} (hr : r < nR tn) : (WL ri tn pt t r).length ≤ 14 := by
  have h1 := len_WL (t := t) hR hw hr
  have h2 : (List.range (fsr ri (r + 1))).countP (lvB t) ≤ fsr ri (r + 1) := Nat.le_trans List.countP_le_length (by rw [List.length_range]; exact Nat.le_refl _)
  have := hR.fsS (show r + 1 ≤ nR tn by omega)
  have := hT.s14
  omega
theorem lat_e (hw : ptW tn pt) (hT : TW tn) {md : MdS} (hp : Md_parted md = ptv pt) {r k : Nat} (hk : k < nS tn) {α : Type} (A B : Option α) :
    (if tf (opR tn pt r) = 0 then A else ck (nI k) 14 (ck (Tn_standLink tn (Int32.toNatClampNeg (nI k))) 8 (ck (Md_parted md) 8 (if (Tn_linkRow tn (Int32.toNatClampNeg (Tn_standLink tn (Int32.toNatClampNeg (nI k))))) ≤ (Tn_linkRow tn (Int32.toNatClampNeg (Md_parted md))) then B else A)))) = if latB tn pt r k = true then A else B := by
  have h14 := hT.s14
  have h8 := hT.l8
  by_cases ho : opR tn pt r
  · obtain ⟨l, e1, e2⟩ := ho
    subst e1
    have hl := hw l rfl
    have hlk := hT.lkL hk
    have hr1 := hT.ro8 hl
    have hr2 := hT.ro8 hlk
    rw [if_neg (by rw [tf_t ⟨l, rfl, e2⟩]; decide), ckI (by omega) (by decide), nI_clamp (by omega), hT.elk hk, ckI (by omega) (by decide), hp]
    show ck (nI l) 8 (if Tn_linkRow tn (Int32.toNatClampNeg (nI (lk tn k))) ≤ Tn_linkRow tn (Int32.toNatClampNeg (nI l)) then B else A) = _
    rw [ckI (by omega) (by decide), nI_clamp (by omega), nI_clamp (by omega), hT.ero hl, hT.ero hlk]
    have el : latB tn (some l) r k = decide (ro tn l < ro tn (lk tn k)) := by
      unfold latB
      simp [e2]
    rw [el]
    by_cases c : ro tn l < ro tn (lk tn k)
    · rw [if_neg (nI_ge c (by omega)), if_pos (decide_eq_true c)]
    · rw [if_pos (nI_le (by omega) (by omega)), if_neg (by simpa using c)]
  · rw [if_pos (tf_f ho)]
    have el : latB tn pt r k = true := by
      unfold latB
      cases h : pt with
      | none => rfl
      | some l =>
        have : ¬ lr tn l = r := fun e => ho ⟨l, h, e⟩
        simp [this]
    rw [if_pos el]
theorem fill_L (hT : TW tn) (hR : TR ri tn) (hD : DW tn pt t) {r part : Nat} (hr : r < nR tn) (hpart : part < 2) (K : Int32 → Int32 → Int32 → Int32 → MdS → TnS → Option MdS) (Q : MdS → Prop) :
    ∀ n k md, nS tn - k < n → k ≤ nS tn → Md_now md = t → Md_parted md = ptv pt → RWs md (Fr tn pt t r part k) →
    (∀ f, RWs (Md_row' md f) (Fr tn pt t r part (nS tn)) → Ok (K (nI r) (tf (opR tn pt r)) (nI (Fr tn pt t r part (nS tn)).length) (nI (part + 1)) (Md_row' md f) tn) Q) →
    Ok (f_X13_laysArcs_L63 n (nI r) (tf (opR tn pt r)) (nI (Fr tn pt t r part k).length) (nI part) (nI k) md tn K) Q := by
  have h14 := hT.s14
  have h8 := hT.r8
  have hw := hD.pt
  have hWl := WL14 (t := t) hT hR hw hr
  intro n
  induction n with
  | zero => intro k md h; omega
  | succ n ih =>
    intro k md hn hk hno hp hrow hQ
    rw [f_X13_laysArcs_L63, hT.S]
    by_cases e : k = nS tn
    · subst e
      rw [if_pos (nI_le (Nat.le_refl _) (by omega)), lt1_e, nI_1]
      have := hQ (Md_row md) (by unfold RWs; rw [gs_row]; exact hrow)
      have er : Md_row' md (Md_row md) = md := rfl
      rw [er] at this
      exact this
    · have hk2 : k < nS tn := by omega
      have hfl := Fr_len (part := part) hT hR hD hr (show k + 1 ≤ nS tn by omega)
      have hrg8 := hT.rgR hk2
      rw [if_neg (nI_ge hk2 (by omega)), ckI (by omega) (by decide), nI_clamp (by omega), hT.erg hk2]
      have skip : ¬ (rg tn k = r ∧ nib t k ≠ 15 ∧ (latB tn pt r k = true ↔ part = 0)) → Ok (f_X13_laysArcs_L179 (nI r) (tf (opR tn pt r)) (nI (Fr tn pt t r part k).length) (nI part) (nI k) md tn (fun y0 y1 y2 y3 y4 y5 y6 => f_X13_laysArcs_L63 n y0 y1 y2 y3 y4 y5 y6 K)) Q := by
        intro hc
        have es := Fr_step (tn := tn) (pt := pt) (t := t) (r := r) (k := k) hpart
        rw [if_neg hc, List.append_nil] at es
        unfold f_X13_laysArcs_L179
        rw [lt1_e, nI_1, ← es]
        exact ih (k + 1) md (by omega) (by omega) hno hp (by rw [es]; exact hrow) hQ
      by_cases c1 : rg tn k = r
      · rw [if_pos (by rw [c1]), hno, bd1_e (at_e t k (by omega))]
        by_cases c2 : nib t k = 15
        · rw [if_pos (by rw [c2]; rfl)]
          exact skip (fun h => h.2.1 c2)
        · rw [if_neg (n15 c2)]
          have hl := lat_e (α := MdS) (r := r) hw hT hp hk2 (f_X13_laysArcs_L143 (nI r) (tf (opR tn pt r)) (nI (Fr tn pt t r part k).length) (nI part) (nI k) md tn (fun y0 y1 y2 y3 y4 y5 y6 => f_X13_laysArcs_L63 n y0 y1 y2 y3 y4 y5 y6 K)) (f_X13_laysArcs_L148 (nI r) (tf (opR tn pt r)) (nI (Fr tn pt t r part k).length) (nI part) (nI k) 0 md tn (fun y0 y1 y2 y3 y4 y5 y6 => f_X13_laysArcs_L63 n y0 y1 y2 y3 y4 y5 y6 K))
          rw [nI_clamp (by omega)] at hl
          rw [hl]
          have put : (latB tn pt r k = true ↔ part = 0) → Ok (ck (nI (Fr tn pt t r part k).length) 14 (lt1 (Md_row' md (upd (Md_row md) (Int32.toNatClampNeg (nI (Fr tn pt t r part k).length)) (nI k))) fun (md_7 : MdS) => lt1 (nI (Fr tn pt t r part k).length + (1 : Int32)) fun (v_8 : Int32) => f_X13_laysArcs_L179 (nI r) (tf (opR tn pt r)) v_8 (nI part) (nI k) md_7 tn (fun y0 y1 y2 y3 y4 y5 y6 => f_X13_laysArcs_L63 n y0 y1 y2 y3 y4 y5 y6 K))) Q := by
            intro hc
            have es := Fr_step (tn := tn) (pt := pt) (t := t) (r := r) (k := k) hpart
            rw [if_pos ⟨c1, c2, hc⟩] at es
            have el : (Fr tn pt t r part (k + 1)).length = (Fr tn pt t r part k).length + 1 := by rw [es, List.length_append]; rfl
            rw [ckI (by omega) (by decide), lt1_e, lt1_e, nI_clamp (by omega), nI_1, ← el]
            unfold f_X13_laysArcs_L179
            rw [lt1_e, nI_1]
            refine ih (k + 1) _ (by omega) (by omega) ((Sc.u_row _ _).now.trans hno) ((Sc.u_row _ _).parted.trans hp) (fun j s hj => ?_) (fun f hf => ?_)
            · rw [gs_row]
              rw [es] at hj
              by_cases ej : j = (Fr tn pt t r part k).length
              · subst ej
                rw [List.getElem?_append_right (Nat.le_refl _), Nat.sub_self] at hj
                cases hj
                rw [upd_at]
              · rw [upd_ne ej]
                by_cases hj2 : j < (Fr tn pt t r part k).length
                · rw [List.getElem?_append_left hj2] at hj
                  exact hrow j s hj
                · rw [List.getElem?_append_right (by omega), List.getElem?_eq_none (by simp; omega)] at hj
                  cases hj
            · exact hQ f hf
          unfold f_X13_laysArcs_L143 f_X13_laysArcs_L148 f_X13_laysArcs_L162
          have hp2 : part = 0 ∨ part = 1 := by omega
          by_cases hb : latB tn pt r k = true
          · rw [if_pos hb]
            rcases hp2 with hp2 | hp2
            · subst hp2
              rw [if_pos (by rfl), if_pos (by rfl)]
              exact put (by simp [hb])
            · subst hp2
              rw [if_neg (by decide), if_neg (by decide)]
              exact skip (by simp [hb])
          · rw [if_neg hb]
            rcases hp2 with hp2 | hp2
            · subst hp2
              rw [if_pos (by rfl), if_neg (by decide)]
              exact skip (by simp [hb])
            · subst hp2
              rw [if_neg (by decide), if_pos (by rfl)]
              exact put (by simp [hb])
      · rw [if_neg (fun h => c1 (nI_inj h (by omega) (by omega)))]
        exact skip (fun h => c1 h.1)
theorem laysArcs_e (hT : TW tn) (hR : TR ri tn) {md : MdS} (hno : Md_now md = t) (hD : DW tn pt t) (hp : Md_parted md = ptv pt) : Ok (f_X13_laysArcs md tn) (fun md' => Sc md md' ∧ Md_arcs md' = nI (BA ri tn pt t (nR tn)) ∧ RAs ri tn pt t md' (preL ri tn pt t (nR tn))) := by
  have h8 := hT.r8
  have h14 := hT.s14
  have hw := hD.pt
  have key : ∀ n r md1, nR tn - r < n → r ≤ nR tn → Sc md md1 → Md_arcs md1 = nI (BA ri tn pt t r) → RAs ri tn pt t md1 (preL ri tn pt t r) → Ok (f_X13_laysArcs_L7 n (nI r) md1 tn) (fun md' => Sc md md' ∧ Md_arcs md' = nI (BA ri tn pt t (nR tn)) ∧ RAs ri tn pt t md' (preL ri tn pt t (nR tn))) := by
    intro n
    induction n with
    | zero => intro r md1 h; omega
    | succ n ih =>
      intro r md1 hn hr hsc ha hA
      have hno1 := hsc.now.trans hno
      have hp1 := hsc.parted.trans hp
      rw [f_X13_laysArcs_L7, hT.R]
      by_cases e : r = nR tn
      · subst e
        rw [if_pos (nI_le (Nat.le_refl _) (by omega)), Ok_some]
        exact ⟨hsc, ha, hA⟩
      · have hr2 : r < nR tn := by omega
        have main : Ok (f_X13_laysArcs_L48 (nI r) (tf (opR tn pt r)) md1 tn (fun y0 y1 y2 => f_X13_laysArcs_L7 n y0 y1 y2)) (fun md' => Sc md md' ∧ Md_arcs md' = nI (BA ri tn pt t (nR tn)) ∧ RAs ri tn pt t md' (preL ri tn pt t (nR tn))) := by
          unfold f_X13_laysArcs_L48
          obtain ⟨N, hN⟩ : ∃ N, FU = N + 3 := ⟨99997, rfl⟩
          rw [hN]
          have last : ∀ (m : Nat) (f : Nat → Int32), RWs (Md_row' md1 f) (WL ri tn pt t r) → Ok (f_X13_laysArcs_L54 (m + 1) (nI r) (tf (opR tn pt r)) (nI (WL ri tn pt t r).length) (nI 2) (Md_row' md1 f) tn (fun y0 y1 y2 => f_X13_laysArcs_L7 n y0 y1 y2)) (fun md' => Sc md md' ∧ Md_arcs md' = nI (BA ri tn pt t (nR tn)) ∧ RAs ri tn pt t md' (preL ri tn pt t (nR tn))) := by
            intro m f hf
            rw [f_X13_laysArcs_L54, if_pos (by decide), Ok_bd1]
            refine (arcsOf_e hT hR hD hr2 ((Sc.u_row _ _).now.trans hno1) (by rw [gn_arcs_row]; exact ha) hf (fun s hs => by rw [gn_ahead_row, gn_after_row]; exact hA s hs)).mono (fun md2 h => ?_)
            rw [lt1_e, nI_1]
            exact ih (r + 1) md2 (by omega) (by omega) ((hsc.trans (Sc.u_row _ _)).trans h.1) h.2.1 h.2.2
          rw [f_X13_laysArcs_L54, if_neg (by decide)]
          have e0 : nI (Fr tn pt t r 0 0).length = 0 := rfl
          have q := fill_L (part := 0) hT hR hD hr2 (by decide) (fun y0 y1 y2 y3 y4 y5 => f_X13_laysArcs_L54 (N + 2) y0 y1 y2 y3 y4 y5 (fun y0 y1 y2 => f_X13_laysArcs_L7 n y0 y1 y2)) (fun md' => Sc md md' ∧ Md_arcs md' = nI (BA ri tn pt t (nR tn)) ∧ RAs ri tn pt t md' (preL ri tn pt t (nR tn))) FU 0 md1 (by rw [FU_e]; omega) (by omega) hno1 hp1 (fun j s hj => by cases hj) (fun f hf => ?_)
          · rw [e0] at q
            exact q
          · show Ok (f_X13_laysArcs_L54 (N + 2) (nI r) (tf (opR tn pt r)) (nI (Fr tn pt t r 0 (nS tn)).length) (nI 1) (Md_row' md1 f) tn _) _
            rw [f_X13_laysArcs_L54, if_neg (by decide)]
            have eF : Fr tn pt t r 0 (nS tn) = Fr tn pt t r 1 0 := by
              unfold Fr
              rw [if_pos rfl, if_neg (by decide)]
              simp
            rw [eF] at hf ⊢
            refine fill_L (part := 1) hT hR hD hr2 (by decide) (fun y0 y1 y2 y3 y4 y5 => f_X13_laysArcs_L54 (N + 1) y0 y1 y2 y3 y4 y5 (fun y0 y1 y2 => f_X13_laysArcs_L7 n y0 y1 y2)) _ FU 0 (Md_row' md1 f) (by rw [FU_e]; omega) (by omega) ((Sc.u_row _ _).now.trans hno1) ((Sc.u_row _ _).parted.trans hp1) hf (fun g hg => ?_)
            have eW : Fr tn pt t r 1 (nS tn) = WL ri tn pt t r := by
              rw [WL_parts hT hR hD hr2]
              unfold Fr
              rw [if_neg (by decide)]
            rw [eW] at hg ⊢
            exact last N g hg
        rw [if_neg (nI_ge hr2 (by omega)), hp1]
        unfold f_X13_laysArcs_L47
        cases hpt : pt with
        | none =>
          rw [if_pos (show ptv none = -2 from rfl)]
          have e0 : tf (opR tn none r) = 0 := tf_f (fun ⟨l, h, _⟩ => by cases h)
          rw [hpt, e0] at main
          rw [hpt] at *
          exact main
        | some l =>
          have hl := hw l hpt
          have h8l := hT.l8
          have hlr := hT.lrR hl
          rw [if_neg (show ¬ ptv (some l) = -2 by show ¬ nI l = -2; rw [nI_neg2 (by omega)]; exact fun h => h)]
          show Ok (ck (nI l) 8 (if Tn_linkRing tn (Int32.toNatClampNeg (nI l)) = nI r then _ else _)) _
          rw [ckI (by omega) (by decide), nI_clamp (by omega), hT.elr hl]
          rw [hpt] at main
          by_cases c : lr tn l = r
          · rw [if_pos (by rw [c])]
            rw [tf_t ⟨l, rfl, c⟩] at main
            exact main
          · rw [if_neg (fun h => c (nI_inj h (by omega) (by omega)))]
            have e0 : tf (opR tn (some l) r) = 0 := tf_f (fun ⟨k, h, e⟩ => by cases h; exact c e)
            rw [e0] at main
            exact main
  unfold f_X13_laysArcs
  rw [lt1_e]
  exact key FU 0 _ (by rw [FU_e]; omega) (by omega) (Sc.u_arcs _ _) (gs_arcs _ _) (fun s hs => by cases hs)
end RARCS3
