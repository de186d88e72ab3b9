section RARCS2
variable {ri : RiS} {tn : TnS} {pt : Option Nat} {t : Int64}
theorem jb_le (hR : TR ri tn) (hw : ptW tn pt) {r k s : Nat} (hr : r < nR tn) (h : (WL ri tn pt t r)[k]? = some s) : jb ri tn pt t s + uI t s ≤ uN ri tn pt t r := by
  obtain ⟨_, hjb⟩ := jb_at hR hw hr h
  have htk : (WL ri tn pt t r).take (k + 1) = (WL ri tn pt t r).take k ++ [s] := by rw [List.take_succ, h]; rfl
  have h1 : ((WL ri tn pt t r).take (k + 1)).countP (unB t) ≤ uN ri tn pt t r := by
    have : (WL ri tn pt t r) = (WL ri tn pt t r).take (k + 1) ++ (WL ri tn pt t r).drop (k + 1) := (List.take_append_drop _ _).symm
    unfold uN
    conv => rhs; rw [this]
    rw [List.countP_append]; omega
  rw [htk, List.countP_append, List.countP_singleton] at h1
  rw [hjb]
  exact h1
theorem md_eq {u j : Nat} (h : j ≤ u) (hu : 0 < u) : j % u = if j = u then 0 else j := by
  by_cases e : j = u
  · rw [if_pos e, e, Nat.mod_self]
  · rw [if_neg e]; exact Nat.mod_eq_of_lt (by omega)
theorem arcsOf2 (hT : TW tn) (hR : TR ri tn) (hD : DW tn pt t) {r : Nat} (hr : r < nR tn) (ho : ¬ opB tn pt r = true) (hu : uN ri tn pt t r ≠ 0) (Q : MdS → Prop) :
    ∀ n k md, (WL ri tn pt t r).length - k < n → k ≤ (WL ri tn pt t r).length → RWs md (WL ri tn pt t r) →
    (∀ i s, (WL ri tn pt t r)[i]? = some s → (i < k → Md_ahead md s = nI (ra ri tn pt t s) ∧ Md_after md s = nI (rb ri tn pt t s)) ∧ (k ≤ i → Md_ahead md s = nI (BA ri tn pt t r + jb ri tn pt t s) ∧ Md_after md s = nI (BA ri tn pt t r + (jb ri tn pt t s + uI t s)))) →
    (∀ md', Sc md md' → Md_arcs md' = nI (BA ri tn pt t r + uN ri tn pt t r) → RAs ri tn pt t md' (WL ri tn pt t r) → (∀ s, s ∉ WL ri tn pt t r → Md_ahead md' s = Md_ahead md s ∧ Md_after md' s = Md_after md s) → Q md') →
    Ok (f_X13_laysArcsOf_L115 n (nI (WL ri tn pt t r).length) (nI (BA ri tn pt t r)) (nI (BA ri tn pt t r + uN ri tn pt t r)) (nI k) md) Q := by
  have hw := hD.pt
  have h14 := hT.s14
  have hu7 := un7 hT hR hD (show r + 1 ≤ nR tn by omega)
  rw [sm] at hu7
  have h15 := BA15 hT hR hD (show r ≤ nR tn by omega)
  have hWl : (WL ri tn pt t r).length ≤ 14 := by
    have h1 := len_WL (t := t) hR hw hr
    have h2 : (List.range (fsr ri (r + 1))).countP (lvB t) ≤ fsr ri (r + 1) := Nat.le_trans List.countP_le_length (by rw [List.length_range]; exact Nat.le_refl _)
    have := hR.fsS (show r + 1 ≤ nR tn by omega)
    omega
  intro n
  induction n with
  | zero => intro k md h; omega
  | succ n ih =>
    intro k md hn hk hrow hd hQ
    rw [f_X13_laysArcsOf_L115]
    by_cases e : k = (WL ri tn pt t r).length
    · subst e
      rw [if_pos (nI_le (Nat.le_refl _) (by omega)), lt1_e, Ok_some]
      refine hQ _ (Sc.u_arcs _ _) (gs_arcs _ _) (fun s hs => ?_) (fun s _ => by rw [gn_ahead_arcs, gn_after_arcs]; exact ⟨rfl, rfl⟩)
      rw [gn_ahead_arcs, gn_after_arcs]
      obtain ⟨i, hi⟩ := List.getElem?_of_mem hs
      exact (hd i s hi).1 (List.getElem?_eq_some_iff.mp hi).1
    · have hk2 : k < (WL ri tn pt t r).length := by omega
      obtain ⟨s, hs⟩ : ∃ s, (WL ri tn pt t r)[k]? = some s := ⟨(WL ri tn pt t r)[k], List.getElem?_eq_getElem hk2⟩
      have hsm := (mem_WL hR hw hr).mp (List.mem_of_getElem? hs)
      have hle := jb_le hR hw hr hs
      obtain ⟨g1, g2⟩ := (hd k s hs).2 (Nat.le_refl _)
      have era : ra ri tn pt t s = BA ri tn pt t r + (if jb ri tn pt t s = uN ri tn pt t r then 0 else jb ri tn pt t s) := by
        unfold ra rI
        rw [hsm.2.1, if_neg (fun h => h.elim ho hu), md_eq (by omega) (by omega)]
      have erb : rb ri tn pt t s = BA ri tn pt t r + (if jb ri tn pt t s + uI t s = uN ri tn pt t r then 0 else jb ri tn pt t s + uI t s) := by
        unfold rb rI
        rw [hsm.2.1, if_neg (fun h => h.elim ho hu), md_eq (by omega) (by omega)]
      have hnd := WL_nodup (t := t) hR hw hr
      have hne : ∀ i v, (WL ri tn pt t r)[i]? = some v → i ≠ k → v ≠ s := fun i v hi hik e => by
        subst e
        obtain ⟨a1, a2⟩ := List.getElem?_eq_some_iff.mp hi
        obtain ⟨b1, b2⟩ := List.getElem?_eq_some_iff.mp hs
        have q1 := hnd.idxOf_getElem i a1
        have q2 := hnd.idxOf_getElem k b1
        rw [a2] at q1
        rw [b2] at q2
        omega
      rw [if_neg (nI_ge hk2 (by omega)), ckI (by omega) (by decide), nI_clamp (by omega), hrow k s hs, ckI (by omega) (by decide), nI_clamp (by omega), g1]
      -- the second half
      have half : ∀ md1, Sc md md1 → RWs md1 (WL ri tn pt t r) → Md_ahead md1 s = nI (ra ri tn pt t s) → (∀ v, v ≠ s → Md_ahead md1 v = Md_ahead md v) → Md_after md1 = Md_after md →
          Ok (f_X13_laysArcsOf_L151 (nI (WL ri tn pt t r).length) (nI (BA ri tn pt t r)) (nI (BA ri tn pt t r + uN ri tn pt t r)) (nI k) md1 (fun y0 y1 y2 y3 y4 => f_X13_laysArcsOf_L115 n y0 y1 y2 y3 y4)) Q := by
        intro md1 hsc hrow1 ha1 hav haf
        have next : ∀ md2, Sc md md2 → RWs md2 (WL ri tn pt t r) → Md_ahead md2 s = nI (ra ri tn pt t s) → Md_after md2 s = nI (rb ri tn pt t s) → (∀ v, v ≠ s → Md_ahead md2 v = Md_ahead md v ∧ Md_after md2 v = Md_after md v) →
            Ok (f_X13_laysArcsOf_L181 (nI (WL ri tn pt t r).length) (nI (BA ri tn pt t r)) (nI (BA ri tn pt t r + uN ri tn pt t r)) (nI k) md2 (fun y0 y1 y2 y3 y4 => f_X13_laysArcsOf_L115 n y0 y1 y2 y3 y4)) Q := by
          intro md2 hsc2 hrow2 h1 h2 h3
          unfold f_X13_laysArcsOf_L181
          rw [lt1_e, nI_1]
          refine ih (k + 1) md2 (by omega) (by omega) hrow2 (fun i v hi => ?_) (fun md' q1 q2 q3 q4 => hQ md' (hsc2.trans q1) q2 q3 (fun v hv => ?_))
          · by_cases ei : i = k
            · subst ei
              rw [hs] at hi
              cases hi
              exact ⟨fun _ => ⟨h1, h2⟩, fun h => by omega⟩
            · obtain ⟨q1, q2⟩ := h3 v (hne i v hi ei)
              rw [q1, q2]
              exact ⟨fun h => (hd i v hi).1 (by omega), fun h => (hd i v hi).2 (by omega)⟩
          · obtain ⟨q5, q6⟩ := q4 v hv
            obtain ⟨q7, q8⟩ := h3 v (fun e => hv (by rw [e]; exact List.mem_of_getElem? hs))
            exact ⟨q5.trans q7, q6.trans q8⟩
        unfold f_X13_laysArcsOf_L151
        rw [ckI (by omega) (by decide), nI_clamp (by omega), hrow1 k s hs, ckI (by omega) (by decide), nI_clamp (by omega), haf, g2]
        by_cases c : jb ri tn pt t s + uI t s = uN ri tn pt t r
        · rw [if_pos (by rw [c]), ckI (by omega) (by decide), ckI (by omega) (by decide), lt1_e]
          refine next _ (hsc.trans (Sc.u_after _ _)) (by unfold RWs; rw [gn_row_after]; exact hrow1) (by rw [gn_ahead_after]; exact ha1) ?_ (fun v hv => ?_)
          · rw [gs_after, upd_at, erb, if_pos c]; rfl
          · rw [gn_ahead_after, gs_after, upd_ne hv, hav v hv]; exact ⟨rfl, rfl⟩
        · rw [if_neg (fun h => c (by have := nI_inj h (by omega) (by omega); omega))]
          refine next md1 hsc hrow1 ha1 ?_ (fun v hv => ⟨hav v hv, by rw [haf]⟩)
          rw [haf, g2, erb, if_neg c]
      by_cases c : jb ri tn pt t s = uN ri tn pt t r
      · rw [if_pos (by rw [c]), ckI (by omega) (by decide), ckI (by omega) (by decide), lt1_e]
        refine half _ (Sc.u_ahead _ _) (by unfold RWs; rw [gn_row_ahead]; exact hrow) ?_ (fun v hv => by rw [gs_ahead, upd_ne hv]) (gn_after_ahead _ _)
        rw [gs_ahead, upd_at, era, if_pos c]; rfl
      · rw [if_neg (fun h => c (by have := nI_inj h (by omega) (by omega); omega))]
        refine half md (Sc.refl md) hrow ?_ (fun v _ => rfl) rfl
        rw [g1, era, if_neg c]
theorem arcsOf_e (hT : TW tn) (hR : TR ri tn) (hD : DW tn pt t) {r : Nat} (hr : r < nR tn) {md : MdS} (hno : Md_now md = t) (ha : Md_arcs md = nI (BA ri tn pt t r)) (hrow : RWs md (WL ri tn pt t r)) (hA : RAs ri tn pt t md (preL ri tn pt t r)) :
    Ok (f_X13_laysArcsOf md (nI (WL ri tn pt t r).length) (tf (opR tn pt r))) (fun md' => Sc md md' ∧ Md_arcs md' = nI (BA ri tn pt t (r + 1)) ∧ RAs ri tn pt t md' (preL ri tn pt t (r + 1))) := by
  have hw := hD.pt
  have hu7 := un7 hT hR hD (show r + 1 ≤ nR tn by omega)
  rw [sm] at hu7
  have h15 := BA15 hT hR hD (show r ≤ nR tn by omega)
  have hdis : ∀ s, s ∈ preL ri tn pt t r → s ∉ WL ri tn pt t r := fun s h1 h2 => by
    have a := (mem_preL hR hw (by omega)).mp h1
    have b := (mem_WL hR hw hr).mp h2
    omega
  have joinR : ∀ md1 : MdS, RAs ri tn pt t md1 (WL ri tn pt t r) → (∀ s, s ∉ WL ri tn pt t r → Md_ahead md1 s = Md_ahead md s ∧ Md_after md1 s = Md_after md s) → RAs ri tn pt t md1 (preL ri tn pt t (r + 1)) := by
    intro md1 h1 h2 s hs
    rw [preL_succ] at hs
    rcases List.mem_append.mp hs with h | h
    · obtain ⟨q1, q2⟩ := h2 s (hdis s h)
      rw [q1, q2]; exact hA s h
    · exact h1 s h
  have plain : (opB tn pt r = true ∨ uN ri tn pt t r = 0) → ∀ md1 : MdS, (∀ s, s ∈ WL ri tn pt t r → Md_ahead md1 s = nI (BA ri tn pt t r + jb ri tn pt t s) ∧ Md_after md1 s = nI (BA ri tn pt t r + (jb ri tn pt t s + uI t s))) → RAs ri tn pt t md1 (WL ri tn pt t r) := by
    intro hc md1 h s hs
    have hsm := (mem_WL hR hw hr).mp hs
    unfold ra rb rI
    rw [hsm.2.1, if_pos hc, if_pos hc]
    exact h s hs
  have eA : (opB tn pt r = true ∨ uN ri tn pt t r = 0) → BA ri tn pt t (r + 1) = BA ri tn pt t r + uN ri tn pt t r + 1 := by
    intro hc
    rw [BA_succ]
    unfold nA
    by_cases h : opB tn pt r = true
    · rw [if_pos h]; rfl
    · rw [if_neg h]
      have := hc.resolve_left h
      omega
  unfold f_X13_laysArcsOf
  rw [lt1_e, lt1_e, ha]
  have q := arcsOf1 hT hR hD hr (fun _ => none) (fun md' => Sc md md' ∧ Md_arcs md' = nI (BA ri tn pt t (r + 1)) ∧ RAs ri tn pt t md' (preL ri tn pt t (r + 1))) (tf (opR tn pt r)) FU 0 md (by rw [FU_e]; have := uN_le (ri := ri) (tn := tn) (pt := pt) (t := t) r; have := len_WL (t := t) hR hw hr; have h2 : (List.range (fsr ri (r + 1))).countP (lvB t) ≤ fsr ri (r + 1) := Nat.le_trans List.countP_le_length (by rw [List.length_range]; exact Nat.le_refl _); have := hR.fsS (show r + 1 ≤ nR tn by omega); have := hT.s14; omega) (by omega) hno hrow (fun s hs => by cases hs) (fun md' h1 h2 h3 h4 h5 => ?_)
  · rw [List.take_zero] at q
    exact q
  · have l103 : (opB tn pt r = true ∨ uN ri tn pt t r = 0) → Ok (f_X13_laysArcsOf_L103 (nI (BA ri tn pt t r + uN ri tn pt t r)) md') (fun md' => Sc md md' ∧ Md_arcs md' = nI (BA ri tn pt t (r + 1)) ∧ RAs ri tn pt t md' (preL ri tn pt t (r + 1))) := by
      intro hc
      unfold f_X13_laysArcsOf_L103
      rw [lt1_e, nI_1, Ok_some]
      refine ⟨h1.trans (Sc.u_arcs _ _), by rw [gs_arcs, eA hc], ?_⟩
      have := joinR md' (plain hc md' h4) h5
      intro s hs
      rw [gn_ahead_arcs, gn_after_arcs]
      exact this s hs
    by_cases ho : opB tn pt r = true
    · rw [if_neg (by rw [tf_t (opB_t.mp ho)]; decide)]
      exact l103 (Or.inl ho)
    · rw [if_pos (tf_f (fun h => ho (opB_t.mpr h)))]
      by_cases hu : uN ri tn pt t r = 0
      · rw [if_pos (by rw [hu]; rfl)]
        exact l103 (Or.inr hu)
      · rw [if_neg (nI_ne0 (by omega) (by omega))]
        refine arcsOf2 hT hR hD hr ho hu _ FU 0 md' (by rw [FU_e]; have := len_WL (t := t) hR hw hr; have h2 : (List.range (fsr ri (r + 1))).countP (lvB t) ≤ fsr ri (r + 1) := Nat.le_trans List.countP_le_length (by rw [List.length_range]; exact Nat.le_refl _); have := hR.fsS (show r + 1 ≤ nR tn by omega); have := hT.s14; omega) (by omega) h3 (fun i s hi => ⟨fun h => by omega, fun _ => h4 s (List.mem_of_getElem? hi)⟩) (fun md2 q1 q2 q3 q4 => ?_)
        refine ⟨h1.trans q1, ?_, joinR md2 q3 (fun s hs => ?_)⟩
        · rw [q2, BA_succ]
          unfold nA
          rw [if_neg ho, Nat.max_eq_left (by omega)]
        · obtain ⟨a1, a2⟩ := q4 s hs
          obtain ⟨b1, b2⟩ := h5 s hs
          exact ⟨a1.trans b1, a2.trans b2⟩
end RARCS2
