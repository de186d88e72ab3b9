section CARCS2
variable {ri : RiS} {tn : TnS} {pt : Option Nat} {t kc : Int64} {lf plus : Int32} {bo : BoS}
theorem cI_0 (r : Nat) (ho : ¬ opB tn pt r = true) : cI ri tn pt t r 0 = BA ri tn pt t r + nA ri tn pt t r - 1 := by
  unfold cI nA
  rw [if_neg ho]
  by_cases h : uN ri tn pt t r = 0
  · rw [if_pos (Or.inr h), h]; rfl
  · rw [if_neg (fun e => e.elim ho h), Nat.zero_add, Nat.mod_eq_of_lt (by omega), Nat.max_eq_left (by omega)]
    omega
theorem cI_o (r j : Nat) (ho : opB tn pt r = true) : cI ri tn pt t r j = BA ri tn pt t r + j := by
  unfold cI
  rw [if_pos (Or.inl ho)]
theorem traceArcs_e (hT : TW tn) (hR : TR ri tn) (hD : DW tn pt t) (hB : BO ri tn pt lf kc t plus bo) {r : Nat} (hr : r < nR tn) {co : CoS} (ha : Co_arcs co = nI (BA ri tn pt t r)) (hC : CAs ri tn pt t co (preL ri tn pt t r)) :
    Ok (f_X2_traceArcs co bo ri (nI r)) (fun co' => Co_arcs co' = nI (BA ri tn pt t (r + 1)) ∧ CAs ri tn pt t co' (preL ri tn pt t (r + 1)) ∧ acore co' = acore co) := by
  have h7 := hT.x7
  have h8 := hT.r8
  have h14 := hT.s14
  have hw := hD.pt
  have h15 := BA15 hT hR hD (show r + 1 ≤ nR tn by omega)
  have hlenW : (preL ri tn pt t (r + 1)).length = (preL ri tn pt t r).length + (WL ri tn pt t r).length := by rw [preL_succ, List.length_append]
  have hlen14 : (preL ri tn pt t (r + 1)).length ≤ 14 := by
    have := len_preL (t := t) hR hw (r + 1) (by omega)
    have h1 : (List.range (fsr ri (r + 1))).countP (lvB t) ≤ fsr ri (r + 1) := Nat.le_trans List.countP_le_length (by rw [List.length_range]; exact Nat.le_refl _)
    have := hR.fsS (show r + 1 ≤ nR tn by omega)
    omega
  unfold f_X2_traceArcs
  rw [ckI (by omega) (by decide), lt1_e, nI_1, ckI (by omega) (by decide), lt1_e, nI_clamp (by omega), nI_clamp (by omega), hB.2.2.2.2.2.2.1 r (by omega), hB.2.2.2.2.2.2.1 (r + 1) (by omega)]
  have main : Ok (f_X2_traceArcs_L111 FU (nI (preL ri tn pt t (r + 1)).length) (nI (BA ri tn pt t (r + 1))) (nI (cI ri tn pt t r 0)) (nI (preL ri tn pt t r).length) co bo) (fun co' => Co_arcs co' = nI (BA ri tn pt t (r + 1)) ∧ CAs ri tn pt t co' (preL ri tn pt t (r + 1)) ∧ acore co' = acore co) := by
    have q := arcs2_L hT hR hD hB hr FU 0 co (by rw [FU_e]; omega) (by omega) ha (by rw [List.take_zero, List.append_nil]; exact hC)
    rw [List.take_zero, Nat.add_zero] at q
    exact q
  have hu := uN_le (ri := ri) (tn := tn) (pt := pt) (t := t) r
  have key : ∀ n k, (WL ri tn pt t r).length - k < n → k ≤ (WL ri tn pt t r).length → Ok (f_X2_traceArcs_L23 n (nI r) (nI (preL ri tn pt t r).length) (nI (preL ri tn pt t (r + 1)).length) (nI (((WL ri tn pt t r).take k).countP (unB t))) (nI ((preL ri tn pt t r).length + k)) co bo ri) (fun co' => Co_arcs co' = nI (BA ri tn pt t (r + 1)) ∧ CAs ri tn pt t co' (preL ri tn pt t (r + 1)) ∧ acore co' = acore co) := by
    intro n
    induction n with
    | zero => intro k h; omega
    | succ n ih =>
      intro k hn hk
      rw [f_X2_traceArcs_L23]
      by_cases e : k = (WL ri tn pt t r).length
      · rw [if_pos (by rw [e, hlenW]; exact nI_le (Nat.le_refl _) (by omega)), bd1_e (isOpen_e hT hR hw hB.2.2.1 hr), e, List.take_length, ha]
        have eu : (WL ri tn pt t r).countP (unB t) = uN ri tn pt t r := rfl
        rw [eu]
        unfold f_X2_traceArcs_L87 f_X2_traceArcs_L106
        by_cases ho : opB tn pt r = true
        · have e1 : tf (opR tn pt r) = 1 := tf_t (opB_t.mp ho)
          have e2 : nI (BA ri tn pt t r) + (nI (uN ri tn pt t r) + 1) = nI (BA ri tn pt t (r + 1)) := by
            rw [nI_1, nI_add, BA_succ]
            unfold nA
            rw [if_pos ho]
          have e3 : nI (BA ri tn pt t r) = nI (cI ri tn pt t r 0) := by rw [cI_o r 0 ho]; rfl
          rw [e1, if_neg (by decide), lt1_e, if_neg (by decide), e2, ha, e3]
          exact main
        · have e1 : tf (opR tn pt r) = 0 := tf_f (fun h => ho (opB_t.mpr h))
          have e2 : nI (BA ri tn pt t r) + (if nI (uN ri tn pt t r) < (1 : Int32) then (1 : Int32) else nI (uN ri tn pt t r)) = nI (BA ri tn pt t (r + 1)) := by
            rw [BA_succ]
            unfold nA
            rw [if_neg ho, li_1]
            by_cases c : uN ri tn pt t r < 1
            · rw [if_pos (nI_lt c (by omega)), nI_add, Nat.max_eq_right (by omega)]
            · rw [if_neg (nI_nlt (by omega) (by omega)), nI_add, Nat.max_eq_left (by omega)]
          have hpos := nA_pos (ri := ri) (tn := tn) (pt := pt) (t := t) r
          have e3 : nI (BA ri tn pt t (r + 1)) - 1 = nI (cI ri tn pt t r 0) := by
            rw [cI_0 r ho, li_1, nI_sub (by rw [BA_succ]; omega), BA_succ]
          rw [e1, if_pos rfl, lt1_e, if_pos rfl, e2, e3]
          exact main
      · have hk2 : k < (WL ri tn pt t r).length := by omega
        obtain ⟨s, hs⟩ : ∃ s, (WL ri tn pt t r)[k]? = some s := ⟨(WL ri tn pt t r)[k], List.getElem?_eq_getElem hk2⟩
        have hwk : Bo_walk bo ((preL ri tn pt t r).length + k) = nI (nib t s) := hB.2.2.2.2.2.1 _ s (preL_get r k s hs (nR tn) hr)
        have htk : (WL ri tn pt t r).take (k + 1) = (WL ri tn pt t r).take k ++ [s] := by
          rw [List.take_succ, hs]; rfl
        have hns := nib_lt t s
        have q := ih (k + 1) (by omega) (by omega)
        rw [htk, List.countP_append, List.countP_singleton, ← Nat.add_assoc] at q
        rw [if_neg (by rw [hlenW]; exact nI_ge (by omega) (by omega)), ckI (by omega) (by decide), nI_clamp (by omega), hwk, show nI (nib t s) &&& (1 : Int32) = nI (nib t s % 2) from n_and1 _ (by omega)]
        unfold f_X2_traceArcs_L49
        by_cases c : nib t s % 2 = 0
        · rw [show unB t s = true by simp [unB, c], if_pos rfl] at q
          rw [if_pos (by rw [c]; rfl), lt1_e, lt1_e, nI_1, nI_1]
          exact q
        · rw [show unB t s = false by simp [unB, c], if_neg (by decide), Nat.add_zero] at q
          rw [if_neg (nI_ne0 (by omega) (by omega)), lt1_e, lt1_e, nI_1, Int32.add_zero]
          exact q
  have q := key FU 0 (by rw [FU_e]; omega) (by omega)
  rw [List.take_zero, Nat.add_zero] at q
  exact q
theorem countArcs_e (hT : TW tn) (hR : TR ri tn) (hD : DW tn pt t) (hB : BO ri tn pt lf kc t plus bo) {co : CoS} : Ok (f_X2_countArcs co bo ri (nI (nR tn))) (fun q => q.1 = nI (BA ri tn pt t (nR tn)) ∧ Co_arcs q.2 = nI (BA ri tn pt t (nR tn)) ∧ CAs ri tn pt t q.2 (preL ri tn pt t (nR tn)) ∧ acore q.2 = acore co) := by
  have h8 := hT.r8
  have key : ∀ n r co1, nR tn - r < n → r ≤ nR tn → Co_arcs co1 = nI (BA ri tn pt t r) → CAs ri tn pt t co1 (preL ri tn pt t r) → acore co1 = acore co → Ok (f_X2_countArcs_L7 n (nI (nR tn)) (nI r) co1 bo ri) (fun q => q.1 = nI (BA ri tn pt t (nR tn)) ∧ Co_arcs q.2 = nI (BA ri tn pt t (nR tn)) ∧ CAs ri tn pt t q.2 (preL ri tn pt t (nR tn)) ∧ acore q.2 = acore co) := by
    intro n
    induction n with
    | zero => intro r co1 h; omega
    | succ n ih =>
      intro r co1 hn hr ha hC hac
      rw [f_X2_countArcs_L7]
      by_cases e : r = nR tn
      · subst e
        rw [if_pos (nI_le (Nat.le_refl _) (by omega)), Ok_some]
        exact ⟨ha, ha, hC, hac⟩
      · rw [if_neg (nI_ge (show r < nR tn by omega) (by omega)), Ok_bd1]
        refine (traceArcs_e hT hR hD hB (by omega) ha hC).mono (fun co2 h => ?_)
        rw [lt1_e, nI_1]
        exact ih (r + 1) co2 (by omega) (by omega) h.1 h.2.1 (h.2.2.trans hac)
  unfold f_X2_countArcs
  rw [lt1_e]
  exact key FU 0 _ (by rw [FU_e]; omega) (by omega) rfl (fun s hs => by cases hs) rfl
end CARCS2
