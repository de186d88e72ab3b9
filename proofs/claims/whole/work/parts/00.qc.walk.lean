def KR (tn : TnS) (kc t : Int64) : Prop := ∀ s, s < 16 → nib kc s = if s < nS tn then (nib t s + 1) % 16 else 0
theorem KR.pass {tn : TnS} {kc t : Int64} (h : KR tn kc t) (h14 : nS tn ≤ 14) {s : Nat} (hs : s < nS tn) : f_X4_passAt kc (nI s) = some (if nib t s = 15 then -1 else nI (nib t s)) := by
  have hn := nib_lt t s
  rw [passAt_e kc s (by omega), h s (by omega), if_pos hs]
  by_cases e : nib t s = 15
  · rw [if_pos (by omega), if_pos e]
  · rw [if_neg (by omega), if_neg e, show (nib t s + 1) % 16 - 1 = nib t s by omega]
/-- two that follow each other in a list -/
def AP (l : List Nat) (a b : Nat) : Prop := ∃ l1 l2, l = l1 ++ a :: b :: l2
theorem AP_nil {a b : Nat} : ¬ AP [] a b := by
  rintro ⟨l1, l2, h⟩
  cases l1 <;> cases h
theorem AP_one {x a b : Nat} : ¬ AP [x] a b := by
  rintro ⟨l1, l2, h⟩
  cases l1 with
  | nil => cases h
  | cons y l => cases l <;> cases h
theorem AP_snoc {l : List Nat} {x y a b : Nat} : AP (l ++ [x] ++ [y]) a b ↔ AP (l ++ [x]) a b ∨ (a = x ∧ b = y) := by
  constructor
  · rintro ⟨l1, l2, h⟩
    rcases List.eq_nil_or_concat l2 with e | ⟨l3, z, e⟩
    · subst e
      have h' : l ++ [x] ++ [y] = (l1 ++ [a]) ++ [b] := by rw [h]; simp
      obtain ⟨h1, h2⟩ := List.append_inj' h' rfl
      obtain ⟨_, h3⟩ := List.append_inj' h1 rfl
      cases h2; cases h3
      exact Or.inr ⟨rfl, rfl⟩
    · rw [e] at h
      have h' : l ++ [x] ++ [y] = (l1 ++ a :: b :: l3) ++ [z] := by rw [h]; simp
      obtain ⟨h1, _⟩ := List.append_inj' h' rfl
      exact Or.inl ⟨l1, l3, h1⟩
  · rintro (⟨l1, l2, h⟩ | ⟨rfl, rfl⟩)
    · exact ⟨l1, l2 ++ [y], by rw [h]; simp⟩
    · exact ⟨l, [], by simp⟩
def apP (t : Int64) (P : Nat → Nat → Prop) (l : List Nat) : Nat → Nat → Prop := fun p q => P p q ∨ ∃ a b, AP l a b ∧ ((p = nib t a ∧ q = nib t b) ∨ (p = nib t b ∧ q = nib t a))
theorem BB.congr {bo : BoS} {X : Nat} {P Q : Nat → Nat → Prop} (h : BB bo X P) (k : ∀ p q, P p q ↔ Q p q) : BB bo X Q := fun x y hx hy => ⟨(h x y hx hy).1.trans (k _ _), (h x y hx hy).2.1.trans (k _ _), (h x y hx hy).2.2.trans (k _ _)⟩
theorem apP_add {t : Int64} {P : Nat → Nat → Prop} {l : List Nat} {x y : Nat} (p q : Nat) : addP (apP t P (l ++ [x])) (nib t x) (nib t y) p q ↔ apP t P (l ++ [x] ++ [y]) p q := by
  unfold addP apP
  constructor
  · rintro ((h | ⟨a, b, h, e⟩) | h)
    · exact Or.inl h
    · exact Or.inr ⟨a, b, AP_snoc.mpr (Or.inl h), e⟩
    · exact Or.inr ⟨x, y, AP_snoc.mpr (Or.inr ⟨rfl, rfl⟩), h⟩
  · rintro (h | ⟨a, b, h, e⟩)
    · exact Or.inl (Or.inl h)
    · rcases AP_snoc.mp h with h | ⟨rfl, rfl⟩
      · exact Or.inl (Or.inr ⟨a, b, h, e⟩)
      · exact Or.inr e
theorem apP_nil {t : Int64} {P : Nat → Nat → Prop} (p q : Nat) : apP t P [] p q ↔ P p q := ⟨fun h => h.elim id (fun ⟨_, _, h, _⟩ => absurd h AP_nil), Or.inl⟩
theorem apP_one {t : Int64} {P : Nat → Nat → Prop} {x : Nat} (p q : Nat) : apP t P [x] p q ↔ P p q := ⟨fun h => h.elim id (fun ⟨_, _, h, _⟩ => absurd h AP_one), Or.inl⟩
/-- a board while it is walked over -/
def WI (X : Nat) (t : Int64) (bo : BoS) (W : List Nat) (P : Nat → Nat → Prop) : Prop :=
  (∀ j v, W[j]? = some v → Bo_walk bo j = nI (nib t v)) ∧
  (∀ p, p < 2 * X → (∃ s, s ∈ W ∧ nib t s = p ∧ Bo_standing bo p = nI s) ∨ (Bo_standing bo p = -1 ∧ ∀ s, s ∈ W → nib t s ≠ p)) ∧ BB bo X P
def wcore (bo : BoS) : Int64 × Int32 × Int32 × Int32 × (Nat → Int32) × (Nat → Int32) × Int32 := (Bo_key bo, Bo_plus bo, Bo_parted bo, Bo_left bo, Bo_walkStart bo, Bo_numbers bo, Bo_count bo)
theorem WI.step {X : Nat} {t : Int64} {bo : BoS} {W : List Nat} {P : Nat → Nat → Prop} (h : WI X t bo W P) {x : Nat} : WI X t (Bo_walk' (Bo_standing' bo (upd (Bo_standing bo) (nib t x) (nI x))) (upd (Bo_walk bo) W.length (nI (nib t x)))) (W ++ [x]) P := by
  refine ⟨fun j v hj => ?_, fun p hp => ?_, h.2.2⟩
  · show upd (Bo_walk bo) W.length (nI (nib t x)) j = _
    by_cases e : j = W.length
    · subst e
      rw [List.getElem?_append_right (Nat.le_refl _), Nat.sub_self] at hj
      cases hj
      rw [upd_at]
    · rw [upd_ne e]
      by_cases h2 : j < W.length
      · rw [List.getElem?_append_left h2] at hj
        exact h.1 j v hj
      · rw [List.getElem?_append_right (by omega)] at hj
        rw [List.getElem?_eq_none (by simp; omega)] at hj
        cases hj
  · show (∃ s, s ∈ W ++ [x] ∧ nib t s = p ∧ upd (Bo_standing bo) (nib t x) (nI x) p = nI s) ∨ (upd (Bo_standing bo) (nib t x) (nI x) p = -1 ∧ ∀ s, s ∈ W ++ [x] → nib t s ≠ p)
    by_cases e : p = nib t x
    · exact Or.inl ⟨x, by simp, e.symm, by rw [e, upd_at]⟩
    · rw [upd_ne e]
      rcases h.2.1 p hp with ⟨s, h1, h2, h3⟩ | ⟨h1, h2⟩
      · exact Or.inl ⟨s, by simp [h1], h2, h3⟩
      · refine Or.inr ⟨h1, fun s hs => ?_⟩
        rcases List.mem_append.mp hs with h3 | h3
        · exact h2 s h3
        · rw [List.mem_singleton.mp h3]; exact fun e2 => e e2.symm
def Chain (to fr : Nat) : Nat → List Nat → Prop
  | _, [] => True
  | s, x :: xs => x = (if s < to then s else fr) ∧ Chain to fr (x + 1) xs
/-- the last and the first -/
def CPr (l : List Nat) (a b : Nat) : Prop := ∃ l', l = b :: l' ++ [a]
def clP (t : Int64) (P : Nat → Nat → Prop) (l : List Nat) (op : Int32) : Nat → Nat → Prop := fun p q => apP t P l p q ∨ (op = 0 ∧ ∃ a b, CPr l a b ∧ ((p = nib t a ∧ q = nib t b) ∨ (p = nib t b ∧ q = nib t a)))
section WALK
variable {tn : TnS} {t kc : Int64} {P0 : Nat → Nat → Prop} {pre : List Nat} {fr to : Nat} {op : Int32}
theorem walk_L (hT : TW tn) (hC : CW tn t) (hto : to ≤ nS tn) (hK : KR tn kc t) :
    ∀ (rest wl : List Nat) (s n i : Nat) (bo : BoS), rest.length < n → i + rest.length = to → Chain to fr s rest → s ≤ 16 → (∀ x, x ∈ rest → x < to) → pre.length + wl.length + rest.length ≤ 14 → Bo_key bo = kc → (∀ v, v ∈ pre ++ wl → v < nS tn ∧ nib t v ≠ 15) →
    WI (nX tn) t bo (pre ++ wl) (apP t P0 wl) →
    Ok (f_X0_walkRound_L59 n (nI pre.length) (nI fr) (nI to) op (nI s) (nI (pre.length + wl.length)) (nI i) bo) (fun r => r.1 = nI (pre ++ (wl ++ rest.filter (lvB t))).length ∧ WI (nX tn) t r.2 (pre ++ (wl ++ rest.filter (lvB t))) (clP t P0 (wl ++ rest.filter (lvB t)) op) ∧ wcore r.2 = wcore bo) := by
  have h14 := hT.s14
  have h7 := hT.x7
  intro rest
  induction rest with
  | nil =>
    intro wl s n i bo hn hi hch hs hx hb hk hv hW
    cases n with
    | zero => omega
    | succ n =>
      simp only [List.length_nil, List.filter_nil, List.append_nil, Nat.add_zero] at *
      subst hi
      rw [f_X0_walkRound_L59, if_pos (nI_le (Nat.le_refl _) (by omega))]
      by_cases ho : op = 0
      · rw [if_pos ho, li_1, nI_sub (by omega), show pre.length + wl.length - pre.length = wl.length by omega]
        by_cases hl : wl.length ≤ 1
        · rw [if_pos (nI_le hl (by omega)), Ok_some]
          refine ⟨by rw [List.length_append], ⟨hW.1, hW.2.1, hW.2.2.congr (fun p q => ?_)⟩, rfl⟩
          unfold clP
          constructor
          · exact Or.inl
          · rintro (h | ⟨_, a, b, ⟨l', e⟩, _⟩)
            · exact h
            · rw [e] at hl
              simp at hl
        · rw [if_neg (nI_ge (show 1 < wl.length by omega) (by omega))]
          obtain ⟨b, l1, e1⟩ : ∃ b l1, wl = b :: l1 := by
            cases wl with
            | nil => simp at hl
            | cons b l1 => exact ⟨b, l1, rfl⟩
          obtain ⟨l2, a, e2⟩ : ∃ l2 a, l1 = l2 ++ [a] := by
            rcases List.eq_nil_or_concat l1 with e | ⟨l2, a, e⟩
            · rw [e1, e] at hl; simp at hl
            · exact ⟨l2, a, e.trans List.concat_eq_append⟩
          have ew : wl = b :: l2 ++ [a] := by rw [e1, e2]; rfl
          have ha := hv a (by rw [ew]; simp)
          have hb2 := hv b (by rw [ew]; simp)
          have g1 : Bo_walk bo (pre.length + wl.length - 1) = nI (nib t a) := hW.1 _ a (by
            rw [ew, List.getElem?_append_right (by simp)]
            have : pre.length + (b :: l2 ++ [a]).length - 1 - pre.length = (b :: l2).length := by simp
            rw [this, List.getElem?_append_right (Nat.le_refl _), Nat.sub_self]
            rfl)
          have g2 : Bo_walk bo pre.length = nI (nib t b) := hW.1 _ b (by
            rw [ew, List.getElem?_append_right (Nat.le_refl _), Nat.sub_self]
            rfl)
          have na := hC.1 a ha.1 ha.2
          have nb := hC.1 b hb2.1 hb2.2
          rw [nI_sub (by omega), ckI (by omega) (by omega), ckI (by omega) (by omega), nI_clamp (by omega), nI_clamp (by omega), g1, g2, Ok_bd1]
          refine (join_e h7 hW.2.2 na nb).mono (fun bo' h => ?_)
          rw [Ok_some]
          have hw1 : Bo_walk bo' = Bo_walk bo := (congrArg Bo_walk h.2 : Bo_walk (bcore bo') = Bo_walk (bcore bo))
          have hw2 : Bo_standing bo' = Bo_standing bo := (congrArg Bo_standing h.2 : Bo_standing (bcore bo') = Bo_standing (bcore bo))
          refine ⟨by rw [List.length_append], ⟨by rw [hw1]; exact hW.1, by rw [hw2]; exact hW.2.1, h.1.congr (fun p q => ?_)⟩, (congrArg wcore h.2 : wcore (bcore bo') = wcore (bcore bo))⟩
          unfold addP clP
          refine or_congr Iff.rfl ?_
          constructor
          · intro h; exact ⟨ho, a, b, ⟨l2, ew⟩, h⟩
          · rintro ⟨_, a', b', ⟨l', e⟩, h⟩
            rw [ew] at e
            have e' : [b] ++ l2 ++ [a] = [b'] ++ l' ++ [a'] := e
            obtain ⟨q1, q2⟩ := List.append_inj' e' rfl
            obtain ⟨q3, _⟩ := List.append_inj q1 rfl
            cases q2; cases q3
            exact h
      · rw [if_neg ho, Ok_some]
        refine ⟨by rw [List.length_append], ⟨hW.1, hW.2.1, hW.2.2.congr (fun p q => ?_)⟩, rfl⟩
        exact ⟨Or.inl, fun h => h.elim id (fun h => absurd h.1 ho)⟩
  | cons x rest ih =>
    intro wl s n i bo hn hi hch hs hx hb hk hv hW
    cases n with
    | zero => omega
    | succ n =>
      simp only [List.length_cons] at *
      have hxt := hx x (List.mem_cons_self)
      obtain ⟨ex, hch⟩ := hch
      rw [f_X0_walkRound_L59, if_neg (nI_ge (show i < to by omega) (by omega))]
      have e : ∀ (a b : Option (Int32 × BoS)), (if nI s < nI to then a else b) = if s < to then a else b := fun a b => by
        by_cases h : s < to
        · rw [if_pos (nI_lt h (by omega)), if_pos h]
        · rw [if_neg (nI_nlt (by omega) (by omega)), if_neg h]
      have e2 : (if nI s < nI to then f_X0_walkRound_L76 (nI pre.length) (nI fr) (nI to) op (nI s) (nI (pre.length + wl.length)) (nI i) bo (fun y0 y1 y2 y3 y4 y5 y6 y7 => f_X0_walkRound_L59 n y0 y1 y2 y3 y4 y5 y6 y7) else f_X0_walkRound_L76 (nI pre.length) (nI fr) (nI to) op (nI fr) (nI (pre.length + wl.length)) (nI i) bo (fun y0 y1 y2 y3 y4 y5 y6 y7 => f_X0_walkRound_L59 n y0 y1 y2 y3 y4 y5 y6 y7)) = f_X0_walkRound_L76 (nI pre.length) (nI fr) (nI to) op (nI x) (nI (pre.length + wl.length)) (nI i) bo (fun y0 y1 y2 y3 y4 y5 y6 y7 => f_X0_walkRound_L59 n y0 y1 y2 y3 y4 y5 y6 y7) := by
        rw [e, ex]
        by_cases h : s < to
        · rw [if_pos h, if_pos h]
        · rw [if_neg h, if_neg h]
      rw [e2]
      unfold f_X0_walkRound_L76
      rw [hk, bd1_e (hK.pass h14 (show x < nS tn by omega))]
      by_cases l : nib t x = 15
      · have hf : lvB t x = false := by unfold lvB; simp [l]
        rw [if_pos (by rw [if_pos l])]
        unfold f_X0_walkRound_L135
        rw [lt1_e, lt1_e, nI_1, nI_1]
        have q := ih wl (x + 1) n (i + 1) bo (by omega) (by omega) hch (by omega) (fun y hy => hx y (List.mem_cons_of_mem _ hy)) (by omega) hk hv hW
        rw [List.filter_cons, hf, if_neg (by decide)]
        exact q
      · have hf : lvB t x = true := lvB_t.mpr l
        have hnx := hC.1 x (by omega) l
        have hn1 : ¬ nI (nib t x) = -1 := by rw [nI_neg1 (by omega)]; exact fun h => h
        rw [if_neg l, if_neg hn1, ckI (by omega) (by omega), lt1_e, ckI (by omega) (by omega), lt1_e, nI_clamp (by omega), nI_clamp (by omega)]
        rw [List.filter_cons, hf, if_pos rfl]
        have hlen : (pre ++ wl).length = pre.length + wl.length := List.length_append
        have hst := hW.step (x := x)
        rw [hlen] at hst
        have fin : ∀ bo' : BoS, Bo_key bo' = kc → WI (nX tn) t bo' (pre ++ (wl ++ [x])) (apP t P0 (wl ++ [x])) → wcore bo' = wcore bo →
            Ok (f_X0_walkRound_L132 (nI pre.length) (nI fr) (nI to) op (nI x) (nI (pre.length + wl.length)) (nI i) bo' (fun y0 y1 y2 y3 y4 y5 y6 y7 => f_X0_walkRound_L59 n y0 y1 y2 y3 y4 y5 y6 y7)) (fun r => r.1 = nI (pre ++ (wl ++ x :: rest.filter (lvB t))).length ∧ WI (nX tn) t r.2 (pre ++ (wl ++ x :: rest.filter (lvB t))) (clP t P0 (wl ++ x :: rest.filter (lvB t)) op) ∧ wcore r.2 = wcore bo) := by
          intro bo' hk' hW' hwc
          unfold f_X0_walkRound_L132 f_X0_walkRound_L135
          rw [lt1_e, lt1_e, lt1_e, nI_1, nI_1, nI_1]
          have q := ih (wl ++ [x]) (x + 1) n (i + 1) bo' (by omega) (by omega) hch (by omega) (fun y hy => hx y (List.mem_cons_of_mem _ hy)) (by simp; omega) hk' (fun v hv' => by
            rw [← List.append_assoc] at hv'
            rcases List.mem_append.mp hv' with h | h
            · exact hv v h
            · rw [List.mem_singleton.mp h]; exact ⟨by omega, l⟩) hW'
          rw [List.length_append, List.length_singleton, ← Nat.add_assoc] at q
          have ea : wl ++ [x] ++ rest.filter (lvB t) = wl ++ x :: rest.filter (lvB t) := by simp
          rw [ea, hwc] at q
          exact q
        by_cases hw0 : wl = []
        · subst hw0
          rw [if_pos (nI_le (by simp) (by simp; omega))]
          refine fin _ hk ?_ rfl
          have : pre ++ ([] ++ [x]) = pre ++ [] ++ [x] := by simp
          rw [this]
          exact ⟨hst.1, hst.2.1, hst.2.2.congr (fun p q => by rw [apP_nil]; exact (apP_one (x := x) p q).symm)⟩
        · obtain ⟨wl', a, ea⟩ : ∃ l a, wl = l ++ [a] := by
            rcases List.eq_nil_or_concat wl with e | ⟨l2, a, e⟩
            · exact absurd e hw0
            · exact ⟨l2, a, e.trans List.concat_eq_append⟩
          have hpos : 0 < wl.length := List.length_pos_iff.mpr hw0
          have ha := hv a (by rw [ea]; simp)
          have na := hC.1 a ha.1 ha.2
          rw [if_neg (nI_ge (show pre.length < pre.length + wl.length by omega) (by omega)), li_1, nI_sub (by omega), ckI (by omega) (by omega), nI_clamp (by omega)]
          have g1 : upd (Bo_walk bo) (pre.length + wl.length) (nI (nib t x)) (pre.length + wl.length - 1) = nI (nib t a) := by
            rw [upd_ne (by omega)]
            refine hW.1 _ a ?_
            rw [ea, ← List.append_assoc]
            have : pre.length + (wl' ++ [a]).length - 1 = (pre ++ wl').length := by simp <;> omega
            rw [this, List.getElem?_append_right (Nat.le_refl _), Nat.sub_self]
            rfl
          have g2 : Bo_walk (Bo_walk' (Bo_standing' bo (upd (Bo_standing bo) (nib t x) (nI x))) (upd (Bo_walk (Bo_standing' bo (upd (Bo_standing bo) (nib t x) (nI x)))) (pre.length + wl.length) (nI (nib t x)))) (pre.length + wl.length - 1) = nI (nib t a) := g1
          rw [g2, Ok_bd1]
          refine (join_e h7 hst.2.2 na hnx).mono (fun bo' h => ?_)
          have hw1 : Bo_walk bo' = upd (Bo_walk bo) (pre.length + wl.length) (nI (nib t x)) := (congrArg Bo_walk h.2)
          have hw2 : Bo_standing bo' = upd (Bo_standing bo) (nib t x) (nI x) := (congrArg Bo_standing h.2)
          have hw3 : Bo_key bo' = kc := (congrArg Bo_key h.2 : Bo_key (bcore bo') = Bo_key (bcore _)).trans hk
          refine fin bo' hw3 ?_ (congrArg wcore h.2 : wcore (bcore bo') = wcore (bcore _))
          rw [← List.append_assoc]
          refine ⟨fun j v hj => by rw [hw1]; exact hst.1 j v hj, fun p hp => by rw [hw2]; exact hst.2.1 p hp, h.1.congr (fun p q => ?_)⟩
          rw [ea]
          exact apP_add p q
end WALK
