/-! the class's colours -/
def xL (tn : TnS) (t : Int64) (k : Nat) : List Nat := (List.range k).filter (fun x => (spt tn t (2 * x)).isSome)
theorem xL_len (tn : TnS) (t : Int64) (k : Nat) : (xL tn t k).length ≤ k := by
  unfold xL
  exact Nat.le_trans (List.length_filter_le _ _) (by rw [List.length_range]; exact Nat.le_refl _)
theorem xL_succ (tn : TnS) (t : Int64) (k : Nat) : xL tn t (k + 1) = xL tn t k ++ (if (spt tn t (2 * k)).isSome = true then [k] else []) := by
  unfold xL
  rw [List.range_succ, List.filter_append]
  congr 1
  by_cases h : (spt tn t (2 * k)).isSome = true
  · rw [if_pos h]; simp [List.filter, h]
  · rw [if_neg h]; simp [List.filter, h]
/-- the class's equations, of the crossings that are left -/
def E1 (ri : RiS) (tn : TnS) (pt : Option Nat) (t : Int64) (p i c : Nat) : Nat := rowE p (ca ri tn pt t (sp tn t (2 * (xL tn t (nX tn)).getD i 0 + 1))) (ca ri tn pt t (sp tn t (2 * (xL tn t (nX tn)).getD i 0))) (cb ri tn pt t (sp tn t (2 * (xL tn t (nX tn)).getD i 0))) c
section CCOL
variable {ri : RiS} {tn : TnS} {pt : Option Nat} {t kc : Int64} {lf plus : Int32} {bo : BoS} {p : Nat}
theorem isLeft_e (hT : TW tn) (hG : GB tn pt lf t bo) {x : Nat} (hx : x < nX tn) : f_X0_isLeft bo (nI x) = some (bI (spt tn t (2 * x)).isSome) := by
  have h7 := hT.x7
  unfold f_X0_isLeft
  rw [i2, ckI (by omega) (by decide), nI_clamp (by omega), hG.1 _ (by omega)]
  cases h : spt tn t (2 * x) with
  | none => rw [if_pos (show oI none = -1 from rfl)]; rfl
  | some s =>
    have hs : s < nS tn := by
      unfold spt at h
      exact List.mem_range.mp (List.mem_of_find?_eq_some h)
    have := hT.s14
    show (if nI s = -1 then some (0 : Int32) else some 1) = _
    rw [if_neg (show ¬ nI s = -1 by rw [nI_neg1 (by omega)]; exact fun h => h)]; rfl
theorem left_lv (hC : CW tn t) {x : Nat} (hx : x < nX tn) (h7 : nX tn ≤ 7) (h : (spt tn t (2 * x)).isSome = true) : LV tn t (2 * x) ∧ LV tn t (2 * x + 1) := by
  obtain ⟨s, hs⟩ := Option.isSome_iff_exists.mp h
  have h1 := (spt_some hC (by omega)).mp hs
  have : LV tn t (2 * x) := ⟨s, h1⟩
  exact ⟨this, (hC.2.2.2 x hx).mp this⟩
theorem jb_bound (hR : TR ri tn) (hw : ptW tn pt) (hT : TW tn) {s : Nat} (hs : s < nS tn) (ls : nib t s ≠ 15) : jb ri tn pt t s + uI t s ≤ uN ri tn pt t (rg tn s) := by
  have hm := (mem_WL hR hw (hT.rgR hs)).mpr ⟨hs, rfl, ls⟩
  obtain ⟨k, hk⟩ := List.getElem?_of_mem hm
  exact jb_le hR hw (hT.rgR hs) hk
theorem BA_mono {a b : Nat} (h : a ≤ b) : BA ri tn pt t a ≤ BA ri tn pt t b := by
  induction b with
  | zero => rw [show a = 0 by omega]; exact Nat.le_refl _
  | succ b ih =>
    by_cases e : a = b + 1
    · rw [e]; exact Nat.le_refl _
    · have := ih (by omega); rw [BA_succ]; omega
theorem ca_lt (hT : TW tn) (hR : TR ri tn) (hD : DW tn pt t) {s : Nat} (hs : s < nS tn) (ls : nib t s ≠ 15) : ca ri tn pt t s < BA ri tn pt t (nR tn) ∧ (nib t s % 2 = 0 → cb ri tn pt t s < BA ri tn pt t (nR tn)) := by
  have h := jb_bound (t := t) hR hD.pt hT hs ls
  have hr := hT.rgR hs
  have hm := BA_mono (ri := ri) (tn := tn) (pt := pt) (t := t) (show rg tn s + 1 ≤ nR tn by omega)
  rw [BA_succ] at hm
  constructor
  · have := cI_lt (ri := ri) (tn := tn) (pt := pt) (t := t) (r := rg tn s) (j := jb ri tn pt t s) (by omega)
    unfold ca; omega
  · intro hu
    have e : uI t s = 1 := by unfold uI; rw [if_pos (by simp [unB, hu])]
    have := cI_lt (ri := ri) (tn := tn) (pt := pt) (t := t) (r := rg tn s) (j := jb ri tn pt t s + 1) (by omega)
    unfold cb; omega
theorem free_e (hT : TW tn) (hR : TR ri tn) (hD : DW tn pt t) (hB : BO ri tn pt lf kc t plus bo) (hp : p = 3 ∨ p = 5 ∨ p = 7) {co : CoS} (hPI : PIo co) :
    Ok (f_X2_freeColours co bo ri (nI (nR tn)) (nI p)) (fun q => PIo q.2 ∧ ∃ r E pc, r ≤ (xL tn t (nX tn)).length ∧ q.1 = nI (BA ri tn pt t (nR tn)) - nI r ∧ PRG p (xL tn t (nX tn)).length (BA ri tn pt t (nR tn)) r (BA ri tn pt t (nR tn)) (E1 ri tn pt t p) E pc) := by
  have h7 := hT.x7
  have h15 := BA15 hT hR hD (Nat.le_refl (nR tn))
  have hC := hD.1
  have hp7 : p ≤ 7 ∧ 3 ≤ p := by omega
  unfold f_X2_freeColours
  rw [Ok_bd2]
  refine (countArcs_e (co := co) hT hR hD hB).mono (fun q hq => ?_)
  obtain ⟨_, q2, q3, q4⟩ := hq
  have hpi0 : Co_pi q.2 = Co_pi co := congrArg (fun z => z.1) q4
  -- the rows that are filled
  have fin : ∀ c1 : CoS, PIo c1 → Co_arcs c1 = nI (BA ri tn pt t (nR tn)) → (∀ i x, (xL tn t (nX tn))[i]? = some x → ∀ c, c < 16 → Co_rw c1 (Co_pi c1 i) c = nI (rowE p (ca ri tn pt t (sp tn t (2 * x + 1))) (ca ri tn pt t (sp tn t (2 * x))) (cb ri tn pt t (sp tn t (2 * x))) c)) → Ok (f_X2_freeColours_L64 (nI p) (nI (xL tn t (nX tn)).length) c1) (fun q => PIo q.2 ∧ ∃ r E pc, r ≤ (xL tn t (nX tn)).length ∧ q.1 = nI (BA ri tn pt t (nR tn)) - nI r ∧ PRG p (xL tn t (nX tn)).length (BA ri tn pt t (nR tn)) r (BA ri tn pt t (nR tn)) (E1 ri tn pt t p) E pc) := by
    intro c1 p1 a1 r1
    unfold f_X2_freeColours_L64
    rw [Ok_bd2]
    refine (rank_e hp (Nat.le_trans (xL_len tn t _) h7) h15 p1 (E0 := E1 ri tn pt t p) (fun i hi c hc => ?_) a1).mono (fun z hz => ?_)
    · have hx : (xL tn t (nX tn))[i]? = some ((xL tn t (nX tn)).getD i 0) := by
        rw [List.getElem?_eq_getElem hi, List.getD_eq_getElem?_getD, List.getElem?_eq_getElem hi]
        rfl
      refine ⟨r1 i _ hx c hc, ?_⟩
      unfold E1 rowE
      exact Nat.mod_lt _ (by omega)
    · obtain ⟨z1, r, E, pc, z2, z3, z4⟩ := hz
      rw [Ok_some, a1, z3]
      exact ⟨z1, r, E, pc, z2, rfl, z4⟩
  have key : ∀ n x c1, nX tn - x < n → x ≤ nX tn → PIo c1 → frow c1 = frow q.2 → (∀ i y, (xL tn t x)[i]? = some y → ∀ c, c < 16 → Co_rw c1 (Co_pi c1 i) c = nI (rowE p (ca ri tn pt t (sp tn t (2 * y + 1))) (ca ri tn pt t (sp tn t (2 * y))) (cb ri tn pt t (sp tn t (2 * y))) c)) →
      Ok (f_X2_freeColours_L13 n (nI p) (nI (xL tn t x).length) (nI x) c1 bo ri) (fun q => PIo q.2 ∧ ∃ r E pc, r ≤ (xL tn t (nX tn)).length ∧ q.1 = nI (BA ri tn pt t (nR tn)) - nI r ∧ PRG p (xL tn t (nX tn)).length (BA ri tn pt t (nR tn)) r (BA ri tn pt t (nR tn)) (E1 ri tn pt t p) E pc) := by
    intro n
    induction n with
    | zero => intro x c1 h; omega
    | succ n ih =>
      intro x c1 hn hx p1 f1 r1
      have far : Co_arcs c1 = nI (BA ri tn pt t (nR tn)) := (congrArg (fun z => z.2.2.2.2) f1 : Co_arcs c1 = Co_arcs q.2).trans q2
      have hxl := xL_len tn t x
      rw [f_X2_freeColours_L13, hR.X]
      by_cases e : x = nX tn
      · subst e
        by_cases e7 : nX tn = 7
        · rw [if_pos (by rw [e7]; decide)]; exact fin c1 p1 far r1
        · rw [li_7, if_neg (nI_ge (by omega) (by omega)), if_pos (nI_le (Nat.le_refl _) (by omega))]; exact fin c1 p1 far r1
      · have hx2 : x < nX tn := by omega
        rw [li_7, if_neg (nI_ge (by omega) (by omega)), if_neg (nI_ge hx2 (by omega)), bd1_e (isLeft_e hT hB.2.2.2.2.1 hx2)]
        have es := xL_succ tn t x
        cases hs : (spt tn t (2 * x)).isSome with
        | false =>
          rw [hs, if_neg (by decide), List.append_nil] at es
          rw [if_pos (by rfl)]
          unfold f_X2_freeColours_L58
          rw [lt1_e, nI_1, ← es]
          exact ih (x + 1) c1 (by omega) (by omega) p1 f1 (by rw [es]; exact r1)
        | true =>
          rw [hs, if_pos rfl] at es
          obtain ⟨l0, l1⟩ := left_lv hC hx2 h7 hs
          obtain ⟨_, b0, n0⟩ := lv_sp l0 hC (by omega)
          obtain ⟨_, b1, n1⟩ := lv_sp l1 hC (by omega)
          have m0 := (mem_preL (t := t) hR hD.pt (Nat.le_refl (nR tn))).mpr ⟨b0, hT.rgR b0, by omega⟩
          have m1 := (mem_preL (t := t) hR hD.pt (Nat.le_refl (nR tn))).mpr ⟨b1, hT.rgR b1, by omega⟩
          have g0 := q3 _ m0
          have g1 := q3 _ m1
          unfold ARC at g0 g1
          rw [if_pos (by omega), n0, show 2 * x / 2 = x by omega] at g0
          rw [if_neg (by omega), n1, show (2 * x + 1) / 2 = x by omega] at g1
          have fo : Co_overArc c1 = Co_overArc q.2 := congrArg (fun z => z.1) f1
          have fb : Co_arcBefore c1 = Co_arcBefore q.2 := congrArg (fun z => z.2.1) f1
          have fh : Co_arcBehind c1 = Co_arcBehind q.2 := congrArg (fun z => z.2.2.1) f1
          have t0 := ca_lt hT hR hD b0 (by omega)
          have t1 := ca_lt hT hR hD b1 (by omega)
          rw [if_neg (by decide), ckI (by omega) (by decide), nI_clamp (by omega), Ok_bd1]
          refine (fillRow_e (A := ca ri tn pt t (sp tn t (2 * x + 1))) (B := ca ri tn pt t (sp tn t (2 * x))) (C := cb ri tn pt t (sp tn t (2 * x))) hp (p1.1 _ (by omega)) (by omega) (by omega) (by omega) (by have := t0.2 (by omega); omega) (by rw [fo]; exact g1) (by rw [fb]; exact g0.1) (by rw [fh]; exact g0.2)).mono (fun c2 h => ?_)
          obtain ⟨w1, w2, w3⟩ := h
          have wpi : Co_pi c2 = Co_pi c1 := congrArg (fun z => z.2.2.2.1) w1
          rw [lt1_e, nI_1]
          unfold f_X2_freeColours_L58
          rw [lt1_e, nI_1]
          have el : (xL tn t (x + 1)).length = (xL tn t x).length + 1 := by rw [es, List.length_append]; rfl
          rw [← el]
          refine ih (x + 1) c2 (by omega) (by omega) (by unfold PIo; rw [wpi]; exact p1) (w1.trans f1) (fun i y hi c hc => ?_)
          rw [es] at hi
          rw [wpi]
          by_cases ei : i = (xL tn t x).length
          · subst ei
            rw [List.getElem?_append_right (Nat.le_refl _), Nat.sub_self] at hi
            cases hi
            exact w3 c hc
          · have hi2 : i < (xL tn t x).length := by
              have := (List.getElem?_eq_some_iff.mp hi).1
              rw [List.length_append, List.length_singleton] at this
              omega
            rw [List.getElem?_append_left hi2] at hi
            rw [w2 _ (fun h => ei (p1.2 i _ (by omega) (by omega) h))]
            exact r1 i y hi c hc
  exact key FU 0 q.2 (by rw [FU_e]; omega) (by omega) (by unfold PIo; rw [hpi0]; exact hPI) rfl (fun i y hi => by cases hi)
end CCOL
