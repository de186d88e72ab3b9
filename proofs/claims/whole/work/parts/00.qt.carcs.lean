def unB (t : Int64) (s : Nat) : Bool := nib t s % 2 == 0
def opB (tn : TnS) (pt : Option Nat) (r : Nat) : Bool := match pt with
  | none => false
  | some l => lr tn l == r
theorem opB_t {tn : TnS} {pt : Option Nat} {r : Nat} : opB tn pt r = true ↔ opR tn pt r := by
  unfold opB opR
  cases pt with
  | none => exact ⟨fun h => (by cases h), fun ⟨l, h, _⟩ => by cases h⟩
  | some l => exact ⟨fun h => ⟨l, rfl, by simpa using h⟩, fun ⟨k, h, e⟩ => by cases h; simpa using e⟩
def uN (ri : RiS) (tn : TnS) (pt : Option Nat) (t : Int64) (r : Nat) : Nat := (WL ri tn pt t r).countP (unB t)
def nA (ri : RiS) (tn : TnS) (pt : Option Nat) (t : Int64) (r : Nat) : Nat := if opB tn pt r then uN ri tn pt t r + 1 else max (uN ri tn pt t r) 1
def BA (ri : RiS) (tn : TnS) (pt : Option Nat) (t : Int64) (r : Nat) : Nat := sm r (nA ri tn pt t)
def jb (ri : RiS) (tn : TnS) (pt : Option Nat) (t : Int64) (s : Nat) : Nat := ((WL ri tn pt t (rg tn s)).take ((WL ri tn pt t (rg tn s)).idxOf s)).countP (unB t)
/-- the class's number of an arc, by how many under passes lie ahead -/
def cI (ri : RiS) (tn : TnS) (pt : Option Nat) (t : Int64) (r j : Nat) : Nat := BA ri tn pt t r + (if opB tn pt r ∨ uN ri tn pt t r = 0 then j else (j + uN ri tn pt t r - 1) % uN ri tn pt t r)
def ca (ri : RiS) (tn : TnS) (pt : Option Nat) (t : Int64) (s : Nat) : Nat := cI ri tn pt t (rg tn s) (jb ri tn pt t s)
def cb (ri : RiS) (tn : TnS) (pt : Option Nat) (t : Int64) (s : Nat) : Nat := cI ri tn pt t (rg tn s) (jb ri tn pt t s + 1)
def ARC (co : CoS) (t : Int64) (s a b : Nat) : Prop := if nib t s % 2 = 0 then Co_arcBefore co (nib t s / 2) = nI a ∧ Co_arcBehind co (nib t s / 2) = nI b else Co_overArc co (nib t s / 2) = nI a
section CARCS
variable {ri : RiS} {tn : TnS} {pt : Option Nat} {t kc : Int64} {lf plus : Int32} {bo : BoS}
theorem preL_get (r i v : Nat) (h : (WL ri tn pt t r)[i]? = some v) : ∀ R, r < R → (preL ri tn pt t R)[(preL ri tn pt t r).length + i]? = some v := by
  intro R
  induction R with
  | zero => intro h; omega
  | succ R ih =>
    intro hr
    rw [preL_succ]
    by_cases e : r = R
    · subst e
      rw [List.getElem?_append_right (by omega), show (preL ri tn pt t r).length + i - (preL ri tn pt t r).length = i by omega]
      exact h
    · have := ih (by omega)
      rw [List.getElem?_append_left (List.getElem?_eq_some_iff.mp this).1]
      exact this
theorem WL_nodup (hR : TR ri tn) (hw : ptW tn pt) {r : Nat} (hr : r < nR tn) : (WL ri tn pt t r).Nodup := (WL_sorted hR hw hr).imp (fun {a b} h e => by rw [e] at h; omega)
theorem jb_at (hR : TR ri tn) (hw : ptW tn pt) {r k s : Nat} (hr : r < nR tn) (h : (WL ri tn pt t r)[k]? = some s) : rg tn s = r ∧ jb ri tn pt t s = ((WL ri tn pt t r).take k).countP (unB t) := by
  have hs := ((mem_WL hR hw hr).mp (List.mem_of_getElem? h)).2.1
  refine ⟨hs, ?_⟩
  unfold jb
  rw [hs]
  obtain ⟨hk, e⟩ := List.getElem?_eq_some_iff.mp h
  have := (WL_nodup (t := t) hR hw hr).idxOf_getElem k hk
  rw [e] at this
  rw [this]
theorem uN_le (r : Nat) : uN ri tn pt t r ≤ (WL ri tn pt t r).length := List.countP_le_length
theorem BA_succ (r : Nat) : BA ri tn pt t (r + 1) = BA ri tn pt t r + nA ri tn pt t r := rfl
theorem preL_nodup (hR : TR ri tn) (hw : ptW tn pt) : ∀ r, r ≤ nR tn → (preL ri tn pt t r).Nodup := by
  intro r
  induction r with
  | zero => intro _; exact List.nodup_nil
  | succ r ih =>
    intro hr
    rw [preL_succ, List.nodup_append]
    refine ⟨ih (by omega), WL_nodup hR hw (by omega), fun a ha b hb e => ?_⟩
    have h1 := (mem_preL hR hw (by omega)).mp ha
    have h2 := (mem_WL hR hw (by omega)).mp hb
    rw [e] at h1
    omega
theorem sm_uN : ∀ r, sm r (uN ri tn pt t) = (preL ri tn pt t r).countP (unB t) := by
  intro r
  induction r with
  | zero => rfl
  | succ r ih => rw [sm, ih, preL_succ, List.countP_append]; rfl
theorem un7 (hT : TW tn) (hR : TR ri tn) (hD : DW tn pt t) {r : Nat} (hr : r ≤ nR tn) : sm r (uN ri tn pt t) ≤ 7 := by
  have h7 := hT.x7
  have hw := hD.pt
  rw [sm_uN, List.countP_eq_length_filter]
  have hmem : ∀ a, a ∈ (preL ri tn pt t r).filter (unB t) → a < nS tn ∧ nib t a ≠ 15 ∧ nib t a % 2 = 0 := fun a ha => by
    obtain ⟨h1, h2⟩ := List.mem_filter.mp ha
    obtain ⟨h3, _, h4⟩ := (mem_preL hR hw hr).mp h1
    exact ⟨h3, h4, by simpa [unB] using h2⟩
  have hnd : (((preL ri tn pt t r).filter (unB t)).map (fun s => nib t s / 2)).Nodup := by
    refine List.pairwise_map.mpr (((preL_nodup hR hw r hr).filter (unB t)).imp_of_mem (fun {a b} ha hb hab e => ?_))
    obtain ⟨a1, a2, a3⟩ := hmem a ha
    obtain ⟨b1, b2, b3⟩ := hmem b hb
    exact hab (hD.1.2.1 a b a1 b1 a2 (by omega))
  have := hnd.length_le_of_subset (l₂ := List.range 7) (fun x hx => by
    obtain ⟨a, ha, rfl⟩ := List.mem_map.mp hx
    obtain ⟨a1, a2, a3⟩ := hmem a ha
    have := hD.1.1 a a1 a2
    exact List.mem_range.mpr (by omega))
  rw [List.length_map, List.length_range] at this
  exact this
theorem nA_le (r : Nat) : nA ri tn pt t r ≤ uN ri tn pt t r + 1 := by unfold nA; split <;> omega
theorem nA_pos (r : Nat) : 1 ≤ nA ri tn pt t r := by unfold nA; split <;> omega
theorem BA_le : ∀ r, BA ri tn pt t r ≤ sm r (uN ri tn pt t) + r := by
  intro r
  induction r with
  | zero => exact Nat.le_refl _
  | succ r ih => rw [BA_succ, sm]; have := nA_le (ri := ri) (tn := tn) (pt := pt) (t := t) r; omega
theorem BA15 (hT : TW tn) (hR : TR ri tn) (hD : DW tn pt t) {r : Nat} (hr : r ≤ nR tn) : BA ri tn pt t r ≤ 15 := by
  have := un7 hT hR hD hr
  have := BA_le (ri := ri) (tn := tn) (pt := pt) (t := t) r
  have := hT.r8
  omega
theorem cI_lt {r j : Nat} (hj : j ≤ uN ri tn pt t r) : cI ri tn pt t r j < BA ri tn pt t r + nA ri tn pt t r := by
  unfold cI nA
  by_cases h : opB tn pt r = true
  · rw [if_pos (Or.inl h), if_pos h]; omega
  · by_cases h2 : uN ri tn pt t r = 0
    · rw [if_pos (Or.inr h2), if_neg h]; omega
    · rw [if_neg (fun e => e.elim h h2), if_neg h]
      have := Nat.mod_lt (j + uN ri tn pt t r - 1) (show 0 < uN ri tn pt t r by omega)
      omega
theorem arc_step {B u j : Nat} (op : Bool) (h : j + 1 ≤ u) (hb : B + u ≤ 100) : (if nI (B + (if op = true then u + 1 else max u 1)) ≤ nI (B + (if op = true ∨ u = 0 then j else (j + u - 1) % u) + 1) then B else B + (if op = true ∨ u = 0 then j else (j + u - 1) % u) + 1) = B + (if op = true ∨ u = 0 then j + 1 else (j + 1 + u - 1) % u) := by
  cases op with
  | true =>
    rw [if_pos rfl, if_pos (Or.inl rfl), if_pos (Or.inl rfl), if_neg (nI_ge (by omega) (by omega))]
    omega
  | false =>
    have hu : ¬ (false = true ∨ u = 0) := by
      rintro (h | h)
      · cases h
      · omega
    have e1 : (j + 1 + u - 1) % u = j := by
      rw [show j + 1 + u - 1 = j + u by omega, Nat.add_mod_right]
      exact Nat.mod_eq_of_lt (by omega)
    rw [if_neg (show ¬ false = true by decide), if_neg hu, if_neg hu, e1, Nat.max_eq_left (by omega)]
    by_cases hj : j = 0
    · subst hj
      have e2 : (0 + u - 1) % u = u - 1 := by rw [Nat.zero_add]; exact Nat.mod_eq_of_lt (by omega)
      rw [e2, if_pos (nI_le (by omega) (by omega))]; rfl
    · have e2 : (j + u - 1) % u = j - 1 := by
        rw [show j + u - 1 = (j - 1) + u by omega, Nat.add_mod_right]
        exact Nat.mod_eq_of_lt (by omega)
      rw [e2, if_neg (nI_ge (by omega) (by omega))]
      omega
/-- arcs of the passes walked over -/
def CAs (ri : RiS) (tn : TnS) (pt : Option Nat) (t : Int64) (co : CoS) (W : List Nat) : Prop := ∀ s, s ∈ W → ARC co t s (ca ri tn pt t s) (cb ri tn pt t s)
theorem CAs.put (hC : CW tn t) {co : CoS} {W : List Nat} {s : Nat} (h : CAs ri tn pt t co W) (hW : ∀ v, v ∈ W → v < nS tn ∧ nib t v ≠ 15) (hs : s < nS tn) (ls : nib t s ≠ 15) (hn : s ∉ W) {co' : CoS} (hnew : ARC co' t s (ca ri tn pt t s) (cb ri tn pt t s))
    (hk : ∀ x, (nib t s % 2 = 0 → Co_overArc co' = Co_overArc co ∧ (x ≠ nib t s / 2 → Co_arcBefore co' x = Co_arcBefore co x ∧ Co_arcBehind co' x = Co_arcBehind co x)) ∧ (¬ nib t s % 2 = 0 → Co_arcBefore co' = Co_arcBefore co ∧ Co_arcBehind co' = Co_arcBehind co ∧ (x ≠ nib t s / 2 → Co_overArc co' x = Co_overArc co x))) : CAs ri tn pt t co' (W ++ [s]) := by
  intro v hv
  rcases List.mem_append.mp hv with hv | hv
  · have h1 := h v hv
    have hne : nib t v ≠ nib t s := fun e => by
      have := hC.2.1 v s (hW v hv).1 hs (hW v hv).2 e
      rw [this] at hv
      exact hn hv
    unfold ARC at h1 ⊢
    have k := hk (nib t v / 2)
    by_cases c : nib t s % 2 = 0
    · obtain ⟨k1, k2⟩ := k.1 c
      by_cases d : nib t v % 2 = 0
      · rw [if_pos d] at h1 ⊢
        obtain ⟨k3, k4⟩ := k2 (by omega)
        rw [k3, k4]; exact h1
      · rw [if_neg d] at h1 ⊢
        rw [k1]; exact h1
    · obtain ⟨k1, k2, k3⟩ := k.2 c
      by_cases d : nib t v % 2 = 0
      · rw [if_pos d] at h1 ⊢
        rw [k1, k2]; exact h1
      · rw [if_neg d] at h1 ⊢
        rw [k3 (by omega)]; exact h1
  · rw [List.mem_singleton.mp hv]; exact hnew
def acore (co : CoS) : (Nat → Nat) × (Nat → Nat → Int32) := (Co_pi co, Co_rw co)
theorem arcs2_L (hT : TW tn) (hR : TR ri tn) (hD : DW tn pt t) (hB : BO ri tn pt lf kc t plus bo) {r : Nat} (hr : r < nR tn) :
    ∀ n k co, (WL ri tn pt t r).length - k < n → k ≤ (WL ri tn pt t r).length → Co_arcs co = nI (BA ri tn pt t r) → CAs ri tn pt t co (preL ri tn pt t r ++ (WL ri tn pt t r).take k) →
    Ok (f_X2_traceArcs_L111 n (nI (preL ri tn pt t (r + 1)).length) (nI (BA ri tn pt t (r + 1))) (nI (cI ri tn pt t r (((WL ri tn pt t r).take k).countP (unB t)))) (nI ((preL ri tn pt t r).length + k)) co bo)
      (fun co' => Co_arcs co' = nI (BA ri tn pt t (r + 1)) ∧ CAs ri tn pt t co' (preL ri tn pt t (r + 1)) ∧ acore co' = acore co) := by
  have h7 := hT.x7
  have h14 := hT.s14
  have hw := hD.pt
  have h15 := BA15 hT hR hD (show r + 1 ≤ nR tn by omega)
  have hlenW : (preL ri tn pt t (r + 1)).length = (preL ri tn pt t r).length + (WL ri tn pt t r).length := by rw [preL_succ, List.length_append]
  have hlen14 : (preL ri tn pt t (r + 1)).length ≤ 14 := by
    have := len_preL (t := t) hR hw (r + 1) (by omega)
    have h1 : (List.range (fsr ri (r + 1))).countP (lvB t) ≤ fsr ri (r + 1) := Nat.le_trans List.countP_le_length (by rw [List.length_range]; exact Nat.le_refl _)
    have := hR.fsS (show r + 1 ≤ nR tn by omega)
    omega
  intro n
  induction n with
  | zero => intro k co h; omega
  | succ n ih =>
    intro k co hn hk ha hC
    rw [f_X2_traceArcs_L111]
    by_cases e : k = (WL ri tn pt t r).length
    · rw [if_pos (by rw [e, hlenW]; exact nI_le (Nat.le_refl _) (by omega)), lt1_e, Ok_some]
      refine ⟨rfl, ?_, rfl⟩
      rw [preL_succ]
      rw [e, List.take_length] at hC
      exact hC
    · have hk2 : k < (WL ri tn pt t r).length := by omega
      obtain ⟨s, hs⟩ : ∃ s, (WL ri tn pt t r)[k]? = some s := ⟨(WL ri tn pt t r)[k], List.getElem?_eq_getElem hk2⟩
      have hsm := (mem_WL hR hw hr).mp (List.mem_of_getElem? hs)
      have hwk : Bo_walk bo ((preL ri tn pt t r).length + k) = nI (nib t s) := hB.2.2.2.2.2.1 _ s (preL_get r k s hs (nR tn) hr)
      have hns := hD.1.1 s hsm.1 hsm.2.2
      obtain ⟨hrg, hjb⟩ := jb_at hR hw hr hs
      have htk : (WL ri tn pt t r).take (k + 1) = (WL ri tn pt t r).take k ++ [s] := by
        rw [List.take_succ, hs]; rfl
      have hnin : s ∉ preL ri tn pt t r ++ (WL ri tn pt t r).take k := by
        intro hm
        rcases List.mem_append.mp hm with h | h
        · have := ((mem_preL hR hw (by omega)).mp h).2.1; omega
        · have hnd := WL_nodup (t := t) hR hw hr
          have h2 := List.Nodup.sublist (List.take_sublist (k + 1) _) hnd
          rw [htk, List.nodup_append] at h2
          exact h2.2.2 s h s (by simp) rfl
      have hcap : ca ri tn pt t s = cI ri tn pt t r (((WL ri tn pt t r).take k).countP (unB t)) := by unfold ca; rw [hrg, hjb]
      have hWm : ∀ v, v ∈ preL ri tn pt t r ++ (WL ri tn pt t r).take k → v < nS tn ∧ nib t v ≠ 15 := fun v hv => by
        rcases List.mem_append.mp hv with h | h
        · have := (mem_preL hR hw (by omega)).mp h; exact ⟨this.1, this.2.2⟩
        · have := (mem_WL hR hw hr).mp (List.mem_of_mem_take h); exact ⟨this.1, this.2.2⟩
      have hJ : ((WL ri tn pt t r).take k).countP (unB t) ≤ uN ri tn pt t r := by
        have : (WL ri tn pt t r) = (WL ri tn pt t r).take k ++ (WL ri tn pt t r).drop k := (List.take_append_drop k _).symm
        unfold uN
        conv => rhs; rw [this]
        rw [List.countP_append]; omega
      have hcl := cI_lt (ri := ri) (tn := tn) (pt := pt) (t := t) hJ
      rw [if_neg (by rw [hlenW]; exact nI_ge (by omega) (by omega)), ckI (by omega) (by decide), nI_clamp (by omega), hwk, lt1_e, li_2, nI_div (by omega) (by omega), ckI (by omega) (by decide), li_1, show nI (nib t s) &&& nI 1 = nI (nib t s % 2) from n_and1 _ (by omega)]
      rw [BA_succ] at h15
      by_cases c : nib t s % 2 = 0
      · have hJ1 : ((WL ri tn pt t r).take k).countP (unB t) + 1 ≤ uN ri tn pt t r := by
          have h1 : ((WL ri tn pt t r).take (k + 1)).countP (unB t) ≤ uN ri tn pt t r := by
            have : (WL ri tn pt t r) = (WL ri tn pt t r).take (k + 1) ++ (WL ri tn pt t r).drop (k + 1) := (List.take_append_drop _ _).symm
            unfold uN
            conv => rhs; rw [this]
            rw [List.countP_append]; omega
          rw [htk, List.countP_append, List.countP_singleton, show unB t s = true by simp [unB, c], if_pos rfl] at h1
          exact h1
        have hcb : cb ri tn pt t s = cI ri tn pt t r (((WL ri tn pt t r).take k).countP (unB t) + 1) := by unfold cb; rw [hrg, hjb]
        have hcl1 := cI_lt (ri := ri) (tn := tn) (pt := pt) (t := t) hJ1
        rw [if_pos (by rw [c]; rfl), ckI (by omega) (by decide), lt1_e, nI_clamp (by omega), nI_add]
        have fin : Ok (f_X2_traceArcs_L182 (nI (preL ri tn pt t (r + 1)).length) (nI (BA ri tn pt t (r + 1))) (nI ((preL ri tn pt t r).length + k)) (nI (nib t s / 2)) (nI (cI ri tn pt t r (((WL ri tn pt t r).take k).countP (unB t) + 1))) (Co_arcBefore' co (upd (Co_arcBefore co) (nib t s / 2) (nI (cI ri tn pt t r (((WL ri tn pt t r).take k).countP (unB t)))))) bo (fun y0 y1 y2 y3 y4 y5 => f_X2_traceArcs_L111 n y0 y1 y2 y3 y4 y5)) (fun co' => Co_arcs co' = nI (BA ri tn pt t (r + 1)) ∧ CAs ri tn pt t co' (preL ri tn pt t (r + 1)) ∧ acore co' = acore co) := by
          unfold f_X2_traceArcs_L182 f_X2_traceArcs_L193
          rw [ckI (by omega) (by decide), lt1_e, lt1_e, nI_clamp (by omega), nI_1]
          have q := ih (k + 1) (Co_arcBehind' (Co_arcBefore' co (upd (Co_arcBefore co) (nib t s / 2) (nI (cI ri tn pt t r (((WL ri tn pt t r).take k).countP (unB t)))))) (upd (Co_arcBehind co) (nib t s / 2) (nI (cI ri tn pt t r (((WL ri tn pt t r).take k).countP (unB t) + 1))))) (by omega) (by omega) ha ?_
          · rw [htk, List.countP_append, List.countP_singleton, show unB t s = true by simp [unB, c], if_pos rfl, ← Nat.add_assoc] at q
            exact q
          · rw [htk, ← List.append_assoc]
            refine hC.put hD.1 hWm hsm.1 hsm.2.2 hnin ?_ (fun x => ⟨fun _ => ⟨rfl, fun hx => ⟨upd_ne hx, upd_ne hx⟩⟩, fun h => absurd c h⟩)
            unfold ARC
            rw [if_pos c, hcap, hcb]
            exact ⟨upd_at, upd_at⟩
        -- the arc behind an under pass
        have hstep : (if nI (BA ri tn pt t (r + 1)) ≤ nI (cI ri tn pt t r (((WL ri tn pt t r).take k).countP (unB t)) + 1) then BA ri tn pt t r else cI ri tn pt t r (((WL ri tn pt t r).take k).countP (unB t)) + 1) = cI ri tn pt t r (((WL ri tn pt t r).take k).countP (unB t) + 1) := by
          have hu7 := un7 hT hR hD (show r + 1 ≤ nR tn by omega)
          rw [sm] at hu7
          have hB0 := BA15 hT hR hD (show r ≤ nR tn by omega)
          exact arc_step (B := BA ri tn pt t r) (u := uN ri tn pt t r) (opB tn pt r) hJ1 (by omega)
        by_cases c2 : nI (BA ri tn pt t (r + 1)) ≤ nI (cI ri tn pt t r (((WL ri tn pt t r).take k).countP (unB t)) + 1)
        · rw [if_pos c2] at hstep ⊢
          show Ok (f_X2_traceArcs_L182 _ _ _ _ (Co_arcs co) _ _ _) _
          rw [ha, hstep]
          exact fin
        · rw [if_neg c2] at hstep ⊢
          rw [hstep]
          exact fin
      · rw [if_neg (fun h => c (by
          have := nI_inj (b := 0) h (by omega) (by omega)
          exact this)), ckI (by omega) (by decide), lt1_e, nI_clamp (by omega)]
        unfold f_X2_traceArcs_L193
        rw [lt1_e, nI_1]
        have q := ih (k + 1) (Co_overArc' co (upd (Co_overArc co) (nib t s / 2) (nI (cI ri tn pt t r (((WL ri tn pt t r).take k).countP (unB t)))))) (by omega) (by omega) ha ?_
        · rw [htk, List.countP_append, List.countP_singleton, show unB t s = false by simp [unB, c], if_neg (by decide), Nat.add_zero] at q
          exact q
        · rw [htk, ← List.append_assoc]
          refine hC.put hD.1 hWm hsm.1 hsm.2.2 hnin ?_ (fun x => ⟨fun h => absurd h c, fun _ => ⟨rfl, rfl, fun hx => upd_ne hx⟩⟩)
          unfold ARC
          rw [if_neg c, hcap]
          exact upd_at
end CARCS
