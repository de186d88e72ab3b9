def SEE (tn : TnS) (t : Int64) (p z : Nat) (W : List Nat) : Prop := ∃ s, s ∈ W ∧ nib t s ≠ 15 ∧ nib t s / 2 = z ∧ (Tn_linkOf tn (2 * p) = nI (lk tn s) ∨ Tn_linkOf tn (2 * p + 1) = nI (lk tn s))
theorem or_bit {x : Int32} {y z : Nat} (hy : y < 32) (hz : z < 32) : bitB (x ||| ((1 : Int32) <<< (nI y &&& 31))) z = true ↔ bitB x z = true ∨ z = y := by
  rw [bit_or, bit_one _ _ hy hz]
  simp
section OWN
variable {ri : RiS} {tn : TnS} {pt : Option Nat} {lf plus : Int32} {t kc : Int64} {bo : BoS}
theorem rsees_e (hT : TW tn) (hC : CW tn t) {p : Nat} (hp : p < nP tn) : ∃ v, f_X13_seesIn tn t (nI p) = some v ∧ ∀ z, z < 32 → (bitB v z = true ↔ SEE tn t p z (List.range (nS tn))) := by
  have h14 := hT.s14
  have h8 := hT.p8
  have h7 := hT.x7
  have key : ∀ n k x, nS tn - k < n → k ≤ nS tn → (∀ z, z < 32 → (bitB x z = true ↔ SEE tn t p z (List.range k))) → ∃ v, f_X13_seesIn_L6 n t (nI p) x (nI k) tn = some v ∧ ∀ z, z < 32 → (bitB v z = true ↔ SEE tn t p z (List.range (nS tn))) := by
    intro n
    induction n with
    | zero => intro k x h; omega
    | succ n ih =>
      intro k x hn hk hx
      rw [f_X13_seesIn_L6, hT.S]
      by_cases e : k = nS tn
      · subst e
        rw [if_pos (nI_le (Nat.le_refl _) (by omega))]
        exact ⟨x, rfl, hx⟩
      · have hk2 : k < nS tn := by omega
        have hlk := hT.lk8 hk2
        rw [if_neg (nI_ge hk2 (by omega)), ckI (by omega) (by decide), lt1_e, nI_clamp (by omega), hT.elk hk2, bd1_e (at_e t k (by omega))]
        have skip : ¬ (nib t k ≠ 15 ∧ (Tn_linkOf tn (2 * p) = nI (lk tn k) ∨ Tn_linkOf tn (2 * p + 1) = nI (lk tn k))) → ∃ v, f_X13_seesIn_L90 t (nI p) x (nI k) tn (fun y0 y1 y2 y3 y4 => f_X13_seesIn_L6 n y0 y1 y2 y3 y4) = some v ∧ ∀ z, z < 32 → (bitB v z = true ↔ SEE tn t p z (List.range (nS tn))) := by
          intro hc
          unfold f_X13_seesIn_L90
          rw [lt1_e, nI_1]
          refine ih (k + 1) x (by omega) (by omega) (fun z hz => ?_)
          rw [hx z hz, List.range_succ]
          constructor
          · rintro ⟨s, h1, h2⟩; exact ⟨s, List.mem_append_left _ h1, h2⟩
          · rintro ⟨s, h1, h2, h3, h4⟩
            rcases List.mem_append.mp h1 with h1 | h1
            · exact ⟨s, h1, h2, h3, h4⟩
            · rw [List.mem_singleton.mp h1] at h2 h4
              exact absurd ⟨h2, h4⟩ hc
        have add : nib t k ≠ 15 → (Tn_linkOf tn (2 * p) = nI (lk tn k) ∨ Tn_linkOf tn (2 * p + 1) = nI (lk tn k)) → ∃ v, f_X13_seesIn_L75 t (nI p) x (nI k) tn (fun y0 y1 y2 y3 y4 => f_X13_seesIn_L6 n y0 y1 y2 y3 y4) = some v ∧ ∀ z, z < 32 → (bitB v z = true ↔ SEE tn t p z (List.range (nS tn))) := by
          intro hl hc
          have hb := hC.1 k hk2 hl
          unfold f_X13_seesIn_L75 f_X13_seesIn_L90
          rw [bd1_e (at_e t k (by omega)), lt1_e, lt1_e, nI_1, li_2, nI_div (by omega) (by omega)]
          refine ih (k + 1) _ (by omega) (by omega) (fun z hz => ?_)
          rw [or_bit (by omega) hz, hx z hz, List.range_succ]
          constructor
          · rintro (⟨s, h1, h2⟩ | e)
            · exact ⟨s, List.mem_append_left _ h1, h2⟩
            · exact ⟨k, by simp, hl, e.symm, hc⟩
          · rintro ⟨s, h1, h2, h3, h4⟩
            rcases List.mem_append.mp h1 with h1 | h1
            · exact Or.inl ⟨s, h1, h2, h3, h4⟩
            · rw [List.mem_singleton.mp h1] at h3
              exact Or.inr h3.symm
        by_cases l : nib t k = 15
        · rw [if_pos (by rw [l]; rfl)]
          exact skip (fun h => h.1 l)
        · rw [if_neg (n15 l), i21, i2, ckI (by omega) (by decide), nI_clamp (by omega)]
          by_cases c1 : Tn_linkOf tn (2 * p) = nI (lk tn k)
          · rw [if_pos c1]; exact add l (Or.inl c1)
          · rw [if_neg c1, ckI (by omega) (by decide), nI_clamp (by omega)]
            by_cases c2 : Tn_linkOf tn (2 * p + 1) = nI (lk tn k)
            · rw [if_pos c2]; exact add l (Or.inr c2)
            · rw [if_neg c2]; exact skip (fun h => h.2.elim c1 c2)
  unfold f_X13_seesIn
  exact key FU 0 0 (by rw [FU_e]; omega) (by omega) (fun z _ => by
    rw [bit_0]
    exact ⟨fun h => (by cases h), fun ⟨s, h, _⟩ => by cases h⟩)
theorem csees_e (hT : TW tn) (hR : TR ri tn) (hD : DW tn pt t) (hB : BO ri tn pt lf kc t plus bo) {p : Nat} (hp : p < nP tn) : ∃ v, f_X0_seenBy bo ri (nI p) = some v ∧ ∀ z, z < 32 → (bitB v z = true ↔ SEE tn t p z (List.range (nS tn))) := by
  have h14 := hT.s14
  have h8 := hT.p8
  have h7 := hT.x7
  have hw := hD.pt
  have hC := hD.1
  have hlen : (preL ri tn pt t (nR tn)).length = cnt tn t := by
    rw [len_preL hR hw _ (Nat.le_refl _), hR.fsR]; rfl
  have hcnt := cnt_le tn t
  have heven := hD.2.1
  have hmem := fun v => mem_preL (t := t) (v := v) hR hw (Nat.le_refl (nR tn))
  have key : ∀ n k x, cnt tn t - k < n → k ≤ cnt tn t → (∀ z, z < 32 → (bitB x z = true ↔ SEE tn t p z ((preL ri tn pt t (nR tn)).take k))) → ∃ v, f_X0_seenBy_L4 n (nI p) x (nI k) bo ri = some v ∧ ∀ z, z < 32 → (bitB v z = true ↔ SEE tn t p z (List.range (nS tn))) := by
    intro n
    induction n with
    | zero => intro k x h; omega
    | succ n ih =>
      intro k x hn hk hx
      rw [f_X0_seenBy_L4, hB.2.2.2.1, i2, show 2 * lft tn t = cnt tn t by unfold lft; omega]
      by_cases e : k = cnt tn t
      · subst e
        rw [if_pos (nI_le (Nat.le_refl _) (by omega))]
        refine ⟨x, rfl, fun z hz => ?_⟩
        rw [hx z hz, ← hlen, List.take_length]
        constructor
        · rintro ⟨s, h1, h2⟩; exact ⟨s, List.mem_range.mpr ((hmem s).mp h1).1, h2⟩
        · rintro ⟨s, h1, h2, h3⟩
          have h1 := List.mem_range.mp h1
          exact ⟨s, (hmem s).mpr ⟨h1, hT.rgR h1, h2⟩, h2, h3⟩
      · have hk2 : k < (preL ri tn pt t (nR tn)).length := by omega
        obtain ⟨s, hs⟩ : ∃ s, (preL ri tn pt t (nR tn))[k]? = some s := ⟨_, List.getElem?_eq_getElem hk2⟩
        obtain ⟨s1, _, s3⟩ := (hmem s).mp (List.mem_of_getElem? hs)
        have hb := hC.1 s s1 s3
        have hst : Bo_standing bo (nib t s) = nI s := by
          rw [hB.2.2.2.2.1.1 _ hb, (spt_some hC s3).mpr ⟨s1, rfl⟩]; rfl
        have htk : (preL ri tn pt t (nR tn)).take (k + 1) = (preL ri tn pt t (nR tn)).take k ++ [s] := by rw [List.take_succ, hs]; rfl
        have hwk := hB.2.2.2.2.2.1 k s hs
        rw [if_neg (nI_ge (show k < cnt tn t by omega) (by omega)), ckI (by omega) (by decide), nI_clamp (by omega), hwk, ckI (by omega) (by decide), nI_clamp (by omega), hst, ckI (by omega) (by decide), nI_clamp (by omega), hR.elk s1, lt1_e, i21, i2, ckI (by omega) (by decide), nI_clamp (by omega), hR.lin (by omega)]
        have skip : ¬ (Tn_linkOf tn (2 * p) = nI (lk tn s) ∨ Tn_linkOf tn (2 * p + 1) = nI (lk tn s)) → ∃ v, f_X0_seenBy_L82 (nI p) x (nI k) bo ri (fun y0 y1 y2 y3 y4 => f_X0_seenBy_L4 n y0 y1 y2 y3 y4) = some v ∧ ∀ z, z < 32 → (bitB v z = true ↔ SEE tn t p z (List.range (nS tn))) := by
          intro hc
          unfold f_X0_seenBy_L82
          rw [lt1_e, nI_1]
          refine ih (k + 1) x (by omega) (by omega) (fun z hz => ?_)
          rw [hx z hz, htk]
          constructor
          · rintro ⟨v, h1, h2⟩; exact ⟨v, List.mem_append_left _ h1, h2⟩
          · rintro ⟨v, h1, h2, h3, h4⟩
            rcases List.mem_append.mp h1 with h1 | h1
            · exact ⟨v, h1, h2, h3, h4⟩
            · rw [List.mem_singleton.mp h1] at h4
              exact absurd h4 hc
        have add : (Tn_linkOf tn (2 * p) = nI (lk tn s) ∨ Tn_linkOf tn (2 * p + 1) = nI (lk tn s)) → ∃ v, f_X0_seenBy_L69 (nI p) x (nI k) bo ri (fun y0 y1 y2 y3 y4 => f_X0_seenBy_L4 n y0 y1 y2 y3 y4) = some v ∧ ∀ z, z < 32 → (bitB v z = true ↔ SEE tn t p z (List.range (nS tn))) := by
          intro hc
          unfold f_X0_seenBy_L69 f_X0_seenBy_L82
          rw [ckI (by omega) (by decide), lt1_e, lt1_e, nI_1, nI_clamp (by omega), hwk, li_2, nI_div (by omega) (by omega)]
          refine ih (k + 1) _ (by omega) (by omega) (fun z hz => ?_)
          rw [or_bit (by omega) hz, hx z hz, htk]
          constructor
          · rintro (⟨v, h1, h2⟩ | e)
            · exact ⟨v, List.mem_append_left _ h1, h2⟩
            · exact ⟨s, by simp, s3, e.symm, hc⟩
          · rintro ⟨v, h1, h2, h3, h4⟩
            rcases List.mem_append.mp h1 with h1 | h1
            · exact Or.inl ⟨v, h1, h2, h3, h4⟩
            · rw [List.mem_singleton.mp h1] at h3
              exact Or.inr h3.symm
        by_cases c1 : nI (lk tn s) = Tn_linkOf tn (2 * p)
        · rw [if_pos c1]; exact add (Or.inl c1.symm)
        · rw [if_neg c1, ckI (by omega) (by decide), nI_clamp (by omega), hR.lin (by omega)]
          by_cases c2 : nI (lk tn s) = Tn_linkOf tn (2 * p + 1)
          · rw [if_pos c2]; exact add (Or.inr c2.symm)
          · rw [if_neg c2]; exact skip (fun h => h.elim (fun h => c1 h.symm) (fun h => c2 h.symm))
  unfold f_X0_seenBy
  exact key FU 0 0 (by rw [FU_e]; omega) (by omega) (fun z _ => by
    rw [bit_0, List.take_zero]
    exact ⟨fun h => (by cases h), fun ⟨s, h, _⟩ => by cases h⟩)
noncomputable def seeV (tn : TnS) (t : Int64) (p : Nat) : Int32 := (f_X13_seesIn tn t (nI p)).getD 0
theorem sees_eq (hT : TW tn) (hR : TR ri tn) (hD : DW tn pt t) (hB : BO ri tn pt lf kc t plus bo) {p : Nat} (hp : p < nP tn) : f_X13_seesIn tn t (nI p) = some (seeV tn t p) ∧ f_X0_seenBy bo ri (nI p) = some (seeV tn t p) := by
  obtain ⟨v, e1, h1⟩ := rsees_e hT hD.1 hp
  obtain ⟨w, e2, h2⟩ := csees_e hT hR hD hB hp
  have e3 : seeV tn t p = v := by unfold seeV; rw [e1]; rfl
  have e4 : w = v := i32_ext (fun z hz => by
    have := (h2 z hz).trans (h1 z hz).symm
    cases a : bitB w z <;> cases b : bitB v z <;> simp [a, b] at this ⊢)
  rw [e3, e1, e2, e4]
  exact ⟨rfl, rfl⟩
/-- the crossings that a move names -/
def tbv (m : Nat) : Int32 := if m < 100 then (1 : Int32) <<< (nI m &&& 31) else if m < 1000 then ((1 : Int32) <<< (nI (m / 10 % 10) &&& 31)) ||| ((1 : Int32) <<< (nI (m % 10) &&& 31)) else ((1 : Int32) <<< (nI (m / 100 % 10) &&& 31)) ||| ((1 : Int32) <<< (nI (m / 10 % 10) &&& 31)) ||| ((1 : Int32) <<< (nI (m % 10) &&& 31))
theorem tb_e {X m : Nat} (hm : isMv X m = true) : f_X13_crossingsOf (nI m) = some (tbv m) ∧ f_X0_touchedBy (nI m) = some (tbv m) := by
  have hlt := isMv_lt hm
  unfold f_X13_crossingsOf f_X0_touchedBy f_X0_touchedBy_L22 tbv
  rw [bd1_e (kind_e hlt), bd1_e (first_e hm), x10 (by omega), r10 (by omega), x100 (by omega)]
  simp only [lt1_e, bd1_e (second_e hlt), bd1_e (third_e hlt)]
  by_cases h1 : m < 100
  · simp only [h1, if_true]
    rw [if_pos (by decide), li_100, if_pos (nI_lt h1 (by omega)), li_1000, if_pos (nI_lt (by omega) (by omega))]
    exact ⟨rfl, rfl⟩
  · simp only [h1, if_false]
    rw [li_100, if_neg (nI_nlt (by omega) (by omega))]
    by_cases h2 : m < 1000
    · simp only [h2, if_true]
      rw [if_neg (by decide), if_pos (by decide), li_1000, if_pos (nI_lt h2 (by omega))]
      exact ⟨rfl, rfl⟩
    · simp only [h2, if_false]
      rw [if_neg (by decide), if_neg (by decide), li_1000, if_neg (nI_nlt (by omega) (by omega))]
      exact ⟨rfl, rfl⟩
noncomputable def okS (tn : TnS) (t : Int64) (p m : Nat) : Bool := decide (tbv m &&& (seeV tn t p ^^^ (-1 : Int32)) = 0)
noncomputable def ownv (tn : TnS) (pt : Option Nat) (lf : Int32) (t : Int64) (p : Nat) : Option (Nat × Nat) := amL (fun m => lft tn (bh tn t m)) ((MR (mayB tn pt lf t) 0).filter (okS tn t p))
theorem rown_e (hT : TW tn) (hR : TR ri tn) (hD : DW tn pt t) {md : MdS} (hp : Md_parted md = ptv pt) (hl : Md_lifted md = lf) {p : Nat} (hpp : p < nP tn) : Ok (f_X13_ownIn md tn t (nI p)) (fun q => q.1 = amI (ownv tn pt lf t p) ∧ Lk md q.2) := by
  obtain ⟨sv, es, _⟩ := rsees_e (p := p) hT hD.1 hpp
  have esv : seeV tn t p = sv := by unfold seeV; rw [es]; rfl
  have key : ∀ n a j o md1, 2000 - a < n → a ≤ 2000 → (∀ b l, o = some (b, l) → b < 2000 ∧ l ≤ 7) → fst1 (mayB tn pt lf t) a j → RL tn pt lf t md1 → Ok (f_X13_ownIn_L27 n t sv (amI o) (match o with | none => 0 | some (_, l) => nI l) (nI j) md1 tn) (fun q => q.1 = amI (((MR (mayB tn pt lf t) a).filter (okS tn t p)).foldl (amS (fun m => lft tn (bh tn t m))) o) ∧ q.2 = md1) := by
    intro n
    induction n with
    | zero => intro a j o md1 h; omega
    | succ n ih =>
      intro a j o md1 hn ha ho hf hL
      rw [f_X13_ownIn_L27, li_2000]
      rcases hf with ⟨h1, h2⟩ | ⟨h1, h2, h3, h4⟩
      · rw [if_pos (by rw [h2]; decide), Ok_some, h1]
        exact ⟨rfl, rfl⟩
      · obtain ⟨m1, m2⟩ := mayB_can h3
        have hb := lft7 hT (bh tn t j)
        obtain ⟨i, e1, hi⟩ := nextMay_e (v := nI j) hT hD.1 hL.1 (nI_1 j) (by omega)
        rw [hL.2.2] at hi
        rw [if_neg (nI_ge h1 (by omega)), bd1_e (tb_e m1).1, h4, List.filter_cons]
        unfold f_X13_ownIn_L81 f_X13_ownIn_L89
        by_cases c0 : tbv j &&& (sv ^^^ (-1 : Int32)) = 0
        · have hok : okS tn t p j = true := by unfold okS; rw [esv]; exact decide_eq_true c0
          rw [if_pos c0, bd1_e (behind_e hT hL.1 hD.1 m1 m2.lv), bd1_e (leftIn_e hT), if_pos hok, List.foldl_cons]
          cases o with
          | none =>
            rw [if_pos (show amI none = -2 from rfl), bd1_e e1]
            exact ih (j + 1) i (some (j, lft tn (bh tn t j))) md1 (by omega) (by omega) (fun b l e => by cases e; exact ⟨h1, hb⟩) hi hL
          | some bl =>
            obtain ⟨b, l⟩ := bl
            obtain ⟨hb2, hl2⟩ := ho b l rfl
            have hne : ¬ amI (some (b, l)) = -2 := by show ¬ nI b = -2; rw [nI_neg2 (by omega)]; exact fun h => h
            rw [if_neg hne]
            by_cases c : lft tn (bh tn t j) < l
            · have es2 : amS (fun m => lft tn (bh tn t m)) (some (b, l)) j = some (j, lft tn (bh tn t j)) := if_pos c
              rw [if_pos (nI_lt c (by omega)), bd1_e e1, es2]
              exact ih (j + 1) i (some (j, lft tn (bh tn t j))) md1 (by omega) (by omega) (fun b l e => by cases e; exact ⟨h1, hb⟩) hi hL
            · have es2 : amS (fun m => lft tn (bh tn t m)) (some (b, l)) j = some (b, l) := if_neg c
              rw [if_neg (nI_nlt (by omega) (by omega)), bd1_e e1, es2]
              exact ih (j + 1) i (some (b, l)) md1 (by omega) (by omega) ho hi hL
        · have hok : ¬ okS tn t p j = true := by unfold okS; rw [esv]; simpa using c0
          rw [if_neg c0, bd1_e e1, if_neg hok]
          exact ih (j + 1) i o md1 (by omega) (by omega) ho hi hL
  unfold f_X13_ownIn
  rw [bd1_e es, Ok_bd1]
  refine (rLooks hT hD.1 hD.pt hp).mono (fun md1 h => ?_)
  obtain ⟨h1, h2⟩ := h
  have hL : RL tn pt lf t md1 := ⟨h2, h1.parted.trans hp, h1.lifted.trans hl⟩
  obtain ⟨i, e1, hi⟩ := nextMay_e (v := -1) (a := 0) hT hD.1 h2 (by decide) (by omega)
  rw [hL.2.2] at hi
  rw [bd1_e e1]
  refine (key FU 0 i none md1 (by rw [FU_e]; omega) (by omega) (fun b l e => by cases e) hi hL).mono (fun q hq => ⟨hq.1, by rw [hq.2]; exact h1⟩)
theorem cown_e (hT : TW tn) (hR : TR ri tn) (hD : DW tn pt t) (hB : BO ri tn pt lf kc t plus bo) {p : Nat} (hpp : p < nP tn) : f_X10_bestOwn bo ri (nI p) = some (amI (ownv tn pt lf t p)) := by
  have hN := N238 (pt := pt) (lf := lf) (t := t) hT
  have hNI := hB.2.2.2.2.2.2.2
  have key : ∀ n i o, (MR (mayB tn pt lf t) 0).length - i < n → i ≤ (MR (mayB tn pt lf t) 0).length → (∀ b l, o = some (b, l) → b < 2000 ∧ l ≤ 7) → f_X10_bestOwn_L16 n (seeV tn t p) (amI o) (match o with | none => 8 | some (_, l) => nI l) (nI i) bo = some (amI ((((MR (mayB tn pt lf t) 0).drop i).filter (okS tn t p)).foldl (amS (fun m => lft tn (bh tn t m))) o)) := by
    intro n
    induction n with
    | zero => intro i o h; omega
    | succ n ih =>
      intro i o hn hi ho
      rw [f_X10_bestOwn_L16, hNI.1]
      by_cases e : i = (MR (mayB tn pt lf t) 0).length
      · rw [if_pos (by rw [e]; exact nI_le (Nat.le_refl _) (by omega)), e, List.drop_length]; rfl
      · have hi2 : i < (MR (mayB tn pt lf t) 0).length := by omega
        obtain ⟨m, hm⟩ : ∃ m, (MR (mayB tn pt lf t) 0)[i]? = some m := ⟨_, List.getElem?_eq_getElem hi2⟩
        have hmay := (MR_mem.mp (List.mem_of_getElem? hm)).2.2
        have hm2 := (MR_mem.mp (List.mem_of_getElem? hm)).2.1
        obtain ⟨m1, m2⟩ := mayB_can hmay
        have hb := lft7 hT (bh tn t m)
        have hcl := cleft_e hT hD.1 hB hmay
        rw [if_neg (nI_ge hi2 (by omega)), ckI (by omega) (by decide), lt1_e, nI_clamp (by omega), hNI.2 i m hm, bd1_e (tb_e m1).2, drop_cons hm, List.filter_cons]
        unfold f_X10_bestOwn_L51 f_X10_bestOwn_L80
        by_cases c0 : tbv m &&& (seeV tn t p ^^^ (-1 : Int32)) = 0
        · have hok : okS tn t p m = true := decide_eq_true c0
          rw [if_pos c0, if_neg (by decide), if_pos hok, List.foldl_cons, bd1_e hcl, bd1_e hcl]
          cases o with
          | none =>
            rw [if_neg (show ¬ (8 : Int32) ≤ nI _ from nI_ge (b := 8) (by omega) (by omega)), lt1_e, nI_1]
            exact ih (i + 1) (some (m, lft tn (bh tn t m))) (by omega) (by omega) (fun b l e => by cases e; exact ⟨hm2, hb⟩)
          | some bl =>
            obtain ⟨b, l⟩ := bl
            obtain ⟨hb2, hl2⟩ := ho b l rfl
            by_cases c : lft tn (bh tn t m) < l
            · have es : amS (fun m => lft tn (bh tn t m)) (some (b, l)) m = some (m, lft tn (bh tn t m)) := if_pos c
              rw [if_neg (nI_ge c (by omega)), lt1_e, nI_1, es]
              exact ih (i + 1) (some (m, lft tn (bh tn t m))) (by omega) (by omega) (fun b l e => by cases e; exact ⟨hm2, hb⟩)
            · have es : amS (fun m => lft tn (bh tn t m)) (some (b, l)) m = some (b, l) := if_neg c
              rw [if_pos (nI_le (by omega) (by omega)), lt1_e, nI_1, es]
              exact ih (i + 1) (some (b, l)) (by omega) (by omega) ho
        · have hok : ¬ okS tn t p m = true := by simpa [okS] using c0
          rw [if_neg c0, if_pos rfl, if_neg hok, lt1_e, nI_1]
          exact ih (i + 1) o (by omega) (by omega) ho
  unfold f_X10_bestOwn
  rw [bd1_e (sees_eq hT hR hD hB hpp).2]
  have := key FU 0 none (by rw [FU_e]; omega) (by omega) (fun b l e => by cases e)
  rw [List.drop_zero] at this
  exact this
end OWN
