/-! the class cuts the tape -/
def spvL : List Int64 := [spv0, spv1, spv2, spv3, spv4, spv5, spv6, spv7, spv8, spv9, spv10]
def wixF : Nat → Nat → Int64 → Nat
  | 0, j, _ => j
  | f + 1, j, w => if spvL.getD j 0 = w then j else wixF f (j + 1) w
def wix (w : Int64) : Nat := wixF 11 0 w
theorem wixF_s : ∀ f j w, (wixF f j w < j + f → spvL.getD (wixF f j w) 0 = w) ∧ (∀ i, j ≤ i → i < wixF f j w → spvL.getD i 0 ≠ w) ∧ j ≤ wixF f j w ∧ wixF f j w ≤ j + f := by
  intro f
  induction f with
  | zero => intro j w; exact ⟨fun h => by rw [wixF] at h; omega, fun i h1 h2 => by rw [wixF] at h2; omega, by rw [wixF]; omega, by rw [wixF]; omega⟩
  | succ f ih =>
    intro j w
    rw [wixF]
    by_cases c : spvL.getD j 0 = w
    · rw [if_pos c]
      exact ⟨fun _ => c, fun i h1 h2 => by omega, by omega, by omega⟩
    · rw [if_neg c]
      obtain ⟨h1, h2, h3, h4⟩ := ih (j + 1) w
      refine ⟨fun h => h1 (by omega), fun i h5 h6 => ?_, by omega, by omega⟩
      by_cases e : i = j
      · rw [e]; exact c
      · exact h2 i (by omega) h6
theorem spv_inj : ∀ i, i < 11 → ∀ j, j < 11 → spvL.getD i 0 = spvL.getD j 0 → i = j := by decide +kernel
theorem wix_le (w : Int64) : wix w ≤ 11 := by have := (wixF_s 11 0 w).2.2.2; unfold wix; omega
theorem wix_iff {w : Int64} {q : Nat} (hq : q < 11) : wix w = q ↔ spvL.getD q 0 = w := by
  obtain ⟨h1, h2, h3, h4⟩ := wixF_s 11 0 w
  constructor
  · intro e
    unfold wix at e
    have := h1 (by omega)
    rw [e] at this
    exact this
  · intro e
    have hle : wixF 11 0 w ≤ q := Nat.le_of_not_lt (fun h => h2 q (by omega) h e)
    have := h1 (by omega)
    show wixF 11 0 w = q
    exact spv_inj _ (by omega) q hq (this.trans e.symm)
def CTK (b : Nat → Nat) (n : Nat) (ta : TaS) (ps : List Nat) : Prop :=
  Ta_count ta = nI ps.length ∧ ∀ i p, ps[i]? = some p → Ta_starts ta i = nI p ∧ Ta_kinds ta i = nI (tkK b n p) ∧
    (tkK b n p = 1 → Ta_spellings ta i = lN (tkW b p (tkE b n p - p)) ∧ Ta_values ta i = nI (wix (lN (tkW b p (tkE b n p - p))))) ∧ (tkK b n p = 2 → Ta_values ta i = nI (tkN b p (tkE b n p - p)))
def Chp (b : Nat → Nat) (n : Nat) (ps : List Nat) (s : Nat) : Prop :=
  (ps = [] → s = 0) ∧ (∀ p, ps[0]? = some p → p = tkS b n 0) ∧ (∀ i p, ps[i]? = some p → (1 ≤ tkK b n p ∧ tkK b n p ≤ 3) ∧ p ≤ n ∧ (∀ q, ps[i + 1]? = some q → q = tkS b n (tkE b n p)) ∧ (i + 1 = ps.length → s = tkE b n p))
/-- the tokens of a text, by where they begin -/
def TKS (b : Nat → Nat) (n : Nat) (ps : List Nat) : Prop :=
  ps[0]? = some (tkS b n 0) ∧ ∀ i p, ps[i]? = some p → p ≤ n ∧ (1 ≤ tkK b n p → tkK b n p ≤ 3 → tkE b n p ≤ n ∧ ps[i + 1]? = some (tkS b n (tkE b n p)))
section CUT
variable {b : Nat → Nat} {n : Nat} {ta : TaS} {ps : List Nat}
theorem tkK_le (b : Nat → Nat) (n p : Nat) : tkK b n p ≤ 4 := by
  unfold tkK
  repeat' split
  all_goals omega
theorem tkK_n {p : Nat} (h : 1 ≤ tkK b n p) : p < n := by
  refine Nat.lt_of_not_le (fun c => ?_)
  unfold tkK at h
  rw [if_pos c] at h
  omega
theorem tkE_in {p : Nat} (h : p < n) : p + 1 ≤ tkE b n p ∧ tkE b n p ≤ n := by
  unfold tkE
  by_cases c : isL b p = true
  · rw [if_pos c, rn_t h c]; exact ⟨rn_ge (by omega), rn_le (by omega)⟩
  · rw [if_neg c]
    by_cases d : isD b p = true
    · rw [if_pos d, rn_t h d]; exact ⟨rn_ge (by omega), rn_le (by omega)⟩
    · rw [if_neg d]; omega
theorem Chp.snoc {s : Nat} (h : Chp b n ps s) {p : Nat} (hp : p = tkS b n s) (hn : p ≤ n) (hk : 1 ≤ tkK b n p ∧ tkK b n p ≤ 3) : Chp b n (ps ++ [p]) (tkE b n p) := by
  obtain ⟨h1, h2, h3⟩ := h
  refine ⟨fun e => absurd e (by simp), fun q hq => ?_, fun i q hq => ?_⟩
  · cases ps with
    | nil => simp at hq; rw [← hq, hp, h1 rfl]
    | cons a l => simp at hq; exact h2 q (by simp [hq])
  · by_cases c : i < ps.length
    · rw [List.getElem?_append_left c] at hq
      obtain ⟨a1, a2, a3, a4⟩ := h3 i q hq
      refine ⟨a1, a2, fun r hr => ?_, fun e => ?_⟩
      · by_cases d : i + 1 < ps.length
        · rw [List.getElem?_append_left d] at hr; exact a3 r hr
        · have e1 : i + 1 = ps.length := by omega
          rw [e1, List.getElem?_append_right (by omega), Nat.sub_self] at hr
          simp at hr
          rw [← hr, hp, a4 e1]
      · rw [List.length_append, List.length_singleton] at e; omega
    · have hl : i = ps.length := by
        have := (List.getElem?_eq_some_iff.mp hq).1
        rw [List.length_append, List.length_singleton] at this
        omega
      rw [hl, List.getElem?_append_right (by omega), Nat.sub_self] at hq
      simp at hq
      subst hq
      refine ⟨hk, hn, fun r hr => ?_, fun _ => rfl⟩
      rw [hl, List.getElem?_eq_none (by simp)] at hr
      cases hr
theorem Chp.fin {s : Nat} (h : Chp b n ps s) {p : Nat} (hp : p = tkS b n s) (hn : p ≤ n) (hk : tkK b n p = 0 ∨ tkK b n p = 4) : TKS b n (ps ++ [p]) := by
  obtain ⟨h1, h2, h3⟩ := h
  refine ⟨?_, fun i q hq => ?_⟩
  · cases ps with
    | nil => simp; rw [hp, h1 rfl]
    | cons a l => simp; exact h2 a (by simp)
  · by_cases c : i < ps.length
    · rw [List.getElem?_append_left c] at hq
      obtain ⟨a1, a2, a3, a4⟩ := h3 i q hq
      have hE := tkE_in (b := b) (tkK_n a1.1)
      refine ⟨a2, fun _ _ => ⟨hE.2, ?_⟩⟩
      by_cases d : i + 1 < ps.length
      · rw [List.getElem?_append_left d]
        rw [List.getElem?_eq_getElem d]
        rw [a3 ps[i + 1] (List.getElem?_eq_getElem d)]
      · have e1 : i + 1 = ps.length := by omega
        rw [e1, List.getElem?_append_right (by omega), Nat.sub_self]
        simp
        rw [hp, a4 e1]
    · have hl : i = ps.length := by
        have := (List.getElem?_eq_some_iff.mp hq).1
        rw [List.length_append, List.length_singleton] at this
        omega
      rw [hl, List.getElem?_append_right (by omega), Nat.sub_self] at hq
      simp at hq
      subst hq
      exact ⟨hn, fun g1 g2 => by omega⟩
/-- what cutting leaves of the tape -/
def TaK (ta ta' : TaS) : Prop := Ta_bytes ta' = Ta_bytes ta ∧ Ta_words ta' = Ta_words ta
theorem TaK.refl (ta : TaS) : TaK ta ta := ⟨rfl, rfl⟩
theorem TaK.trans {a b c : TaS} (h : TaK a b) (k : TaK b c) : TaK a c := ⟨k.1.trans h.1, k.2.trans h.2⟩
theorem addTok_e (hC : CTK b n ta ps) (hl : ps.length ≤ 900) {p : Nat} {v : Int32} {w : Int64} (h1 : tkK b n p = 1 → w = lN (tkW b p (tkE b n p - p)) ∧ v = nI (wix (lN (tkW b p (tkE b n p - p))))) (h2 : tkK b n p = 2 → v = nI (tkN b p (tkE b n p - p))) :
    Ok (f_X8_addToken ta (nI (tkK b n p)) (nI p) v w) (fun ta' => CTK b n ta' (ps ++ [p]) ∧ TaK ta ta') := by
  obtain ⟨c1, c2⟩ := hC
  have q : ¬ (nI 900 < nI ps.length) := nI_nlt hl (by omega)
  unfold f_X8_addToken
  rw [c1, if_neg (show ¬ ((900 : Int32) < nI ps.length) from q), ckI (by omega) (by decide), nI_clamp (by omega), lt1_e]
  rw [show Ta_count (Ta_kinds' ta (upd (Ta_kinds ta) ps.length (nI (tkK b n p)))) = nI ps.length from c1, ckI (by omega) (by decide), nI_clamp (by omega), lt1_e]
  rw [show Ta_count (Ta_starts' (Ta_kinds' ta (upd (Ta_kinds ta) ps.length (nI (tkK b n p)))) (upd (Ta_starts (Ta_kinds' ta (upd (Ta_kinds ta) ps.length (nI (tkK b n p))))) ps.length (nI p))) = nI ps.length from c1, ckI (by omega) (by decide), nI_clamp (by omega), lt1_e]
  rw [show Ta_count (Ta_values' (Ta_starts' (Ta_kinds' ta (upd (Ta_kinds ta) ps.length (nI (tkK b n p)))) (upd (Ta_starts (Ta_kinds' ta (upd (Ta_kinds ta) ps.length (nI (tkK b n p))))) ps.length (nI p))) (upd (Ta_values (Ta_starts' (Ta_kinds' ta (upd (Ta_kinds ta) ps.length (nI (tkK b n p)))) (upd (Ta_starts (Ta_kinds' ta (upd (Ta_kinds ta) ps.length (nI (tkK b n p))))) ps.length (nI p)))) ps.length v)) = nI ps.length from c1, ckI (by omega) (by decide), nI_clamp (by omega), lt1_e, lt1_e, Ok_some]
  refine ⟨⟨?_, fun i r hr => ?_⟩, rfl, rfl⟩
  · rw [List.length_append, List.length_singleton, ← nI_1]
    show Ta_count ta + 1 = _
    rw [c1]
  · by_cases c : i < ps.length
    · rw [List.getElem?_append_left c] at hr
      obtain ⟨d1, d2, d3, d4⟩ := c2 i r hr
      have hi : i ≠ ps.length := by omega
      refine ⟨?_, ?_, fun e => ⟨?_, ?_⟩, fun e => ?_⟩
      · exact (upd_ne hi).trans d1
      · exact (upd_ne hi).trans d2
      · exact (show vp_updL (Ta_spellings ta) ps.length w i = _ from by rw [updL_if, if_neg hi]).trans (d3 e).1
      · exact (upd_ne hi).trans (d3 e).2
      · exact (upd_ne hi).trans (d4 e)
    · have hl2 : i = ps.length := by
        have := (List.getElem?_eq_some_iff.mp hr).1
        rw [List.length_append, List.length_singleton] at this
        omega
      rw [hl2, List.getElem?_append_right (by omega), Nat.sub_self] at hr
      simp at hr
      subst hr
      subst hl2
      refine ⟨upd_at, upd_at, fun e => ⟨?_, ?_⟩, fun e => ?_⟩
      · exact (show vp_updL (Ta_spellings ta) ps.length w ps.length = _ from by rw [updL_if, if_pos rfl]).trans (h1 e).1
      · exact (upd_at (f := Ta_values ta)).trans (h1 e).2
      · exact (upd_at (f := Ta_values ta)).trans (h2 e)
theorem shl5 (w c : Nat) (hw : w < 2 ^ 40) (hc : c < 32) : (lN w <<< (Int32.toInt64 (5 : Int32) &&& 63)) ||| lN c = lN (32 * w + c) := by
  have e5 : (Int32.toInt64 (5 : Int32) &&& 63) = lN 5 := by decide
  have sm : (BitVec.ofNat 64 5).smod 64 = BitVec.ofNat 64 5 := by decide
  have tb : ∀ k, (lN k).toBitVec = BitVec.ofNat 64 k := fun _ => rfl
  rw [e5]
  refine Int64.toBitVec_inj.mp ?_
  rw [Int64.toBitVec_or, Int64.toBitVec_shiftLeft, tb, tb, tb, tb, sm]
  refine BitVec.eq_of_toNat_eq ?_
  rw [BitVec.shiftLeft_eq', BitVec.toNat_or, BitVec.toNat_shiftLeft, BitVec.toNat_ofNat, BitVec.toNat_ofNat, BitVec.toNat_ofNat, BitVec.toNat_ofNat, Nat.mod_eq_of_lt (show (5 : Nat) < 2 ^ 64 by decide), Nat.mod_eq_of_lt (show w < 2 ^ 64 by omega), Nat.mod_eq_of_lt (show c < 2 ^ 64 by omega)]
  rw [Nat.mod_eq_of_lt (show w <<< 5 < 2 ^ 64 by rw [Nat.shiftLeft_eq]; omega), ← Nat.shiftLeft_add_eq_or_of_lt (show c < 2 ^ 5 by omega), Nat.shiftLeft_eq, Nat.mod_eq_of_lt (by omega)]
  omega
def BY (b : Nat → Nat) (ta : TaS) : Prop := (∀ i, i < 900 → Ta_bytes ta i = nI (b i)) ∧ (∀ i, b i < 256) ∧ ∀ i, i < 11 → Ta_words ta i = spvL.getD i 0
theorem BY.k {ta' : TaS} (h : BY b ta) (k : TaK ta ta') : BY b ta' := ⟨by rw [k.1]; exact h.1, h.2.1, by rw [k.2]; exact h.2.2⟩
theorem addW32 (hB : BY b ta) {x1 : Int32} {w : Int64} : ∀ f j, 11 - j < f → j ≤ 11 → f_X8_addWord_L32 f x1 w (nI j) ta = f_X8_addWord_L57 x1 w (nI (wixF (11 - j) j w)) ta := by
  intro f
  induction f with
  | zero => intro j h; omega
  | succ f ih =>
    intro j hf hj
    rw [f_X8_addWord_L32]
    by_cases c : j = 11
    · subst c
      rw [if_pos (by decide)]
      rfl
    · have q : ¬ (nI 11 ≤ nI j) := nI_ge (by omega) (by omega)
      rw [if_neg (show ¬ ((11 : Int32) ≤ nI j) from q), ckI (by omega) (by decide), nI_clamp (by omega), hB.2.2 j (by omega), show 11 - j = (11 - (j + 1)) + 1 by omega, wixF]
      by_cases d : spvL.getD j 0 = w
      · rw [if_pos (lg0.mpr d), if_pos d]
      · rw [if_neg (fun e => d (lg0.mp e)), if_neg d, lt1_e, nI_1]
        exact ih (j + 1) (by omega) (by omega)
theorem addW5 (hB : BY b ta) {p e : Nat} (he9 : e ≤ 900) (hL : ∀ i, p ≤ i → i < e → isL b i = true) (h8 : e - p ≤ 8) (hpe : p ≤ e) : ∀ f k, e - p - k < f → p + k ≤ e → f_X8_addWord_L5 f (nI p) (nI e) (lN (tkW b p k)) (nI (p + k)) ta = f_X8_addWord_L32 FU (nI p) (lN (tkW b p (e - p))) (0 : Int32) ta := by
  intro f
  induction f with
  | zero => intro k h; omega
  | succ f ih =>
    intro k hf hk
    rw [f_X8_addWord_L5]
    by_cases c : p + k = e
    · rw [if_pos (nI_le (by omega) (by omega)), show e - p = k by omega]
    · have hl := isL_b (hL (p + k) (by omega) (by omega))
      have hlt := tkW_lt (b := b) hB.2.1 (p := p) k (fun j hj => hL (p + j) (by omega) (by omega))
      have h40 : tkW b p k < 2 ^ 40 := by
        have h32 : 32 ^ k ≤ 32 ^ 8 := Nat.pow_le_pow_right (by decide) (by omega)
        have e8 : (32 : Nat) ^ 8 = 2 ^ 40 := by decide
        omega
      have ec : (nI (b (p + k)) - 97) + 1 = nI (b (p + k) - 96) := by
        rw [li_97, nI_sub hl.1, nI_1]
        congr 1
        omega
      have ew : f_X8_withLetter (lN (tkW b p k)) (nI (b (p + k))) = some (lN (tkW b p (k + 1))) := by
        unfold f_X8_withLetter
        rw [ec, nI_l (by omega), shl5 _ _ h40 (by omega)]
        rfl
      rw [if_neg (nI_ge (show p + k < e by omega) (by omega)), ckI (show p + k < 900 by omega) (by decide), nI_clamp (by omega), hB.1 _ (by omega), bd1_e ew, lt1_e, nI_1]
      exact ih (k + 1) (by omega) (by omega)
theorem addN5 (hB : BY b ta) {p e : Nat} (he9 : e ≤ 900) (hD : ∀ i, p ≤ i → i < e → isD b i = true) (hpe : p ≤ e) : ∀ f k, e - p - k < f → p + k ≤ e → f_X8_addWhole_L5 f (nI p) (nI e) (nI (tkN b p k)) (nI (p + k)) ta = bd1 (f_X8_addToken ta (2 : Int32) (nI p) (nI (tkN b p (e - p))) (0 : Int64)) fun ta_1 => some ta_1 := by
  intro f
  induction f with
  | zero => intro k h; omega
  | succ f ih =>
    intro k hf hk
    rw [f_X8_addWhole_L5]
    by_cases c : p + k = e
    · rw [if_pos (nI_le (by omega) (by omega)), show e - p = k by omega]
    · have hl := isD_b (hD (p + k) (by omega) (by omega))
      rw [if_neg (nI_ge (show p + k < e by omega) (by omega)), ckI (show p + k < 900 by omega) (by decide), nI_clamp (by omega), hB.1 _ (by omega), lt1_e, lt1_e, nI_1, num_step _ _ hl.1]
      exact ih (k + 1) (by omega) (by omega)
end CUT
