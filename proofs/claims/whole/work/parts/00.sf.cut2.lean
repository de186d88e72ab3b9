section CUT2
variable {b : Nat → Nat} {n : Nat} {ta : TaS} {ps : List Nat}
theorem cLet_e {c : Nat} (h : c < 256) : f_X8_isLetter (nI c) = some (bI (decide (97 ≤ c) && decide (c ≤ 122))) := isLet_e h
theorem cDig_e {c : Nat} (h : c < 256) : f_X8_isFigure (nI c) = some (bI (decide (48 ≤ c) && decide (c ≤ 57))) := isDig_e h
theorem cut19 (hB : BY b ta) (hn : n ≤ 900) {x1 : Int32} {e : Nat} : ∀ f k, n - k < f → k ≤ n → rn (isL b) n k = e → f_X8_cutOne_L19 f x1 (nI n) (nI k) ta = f_X8_cutOne_L44 x1 (nI n) (nI e) ta := by
  intro f
  induction f with
  | zero => intro k h; omega
  | succ f ih =>
    intro k hf hk he
    rw [f_X8_cutOne_L19]
    by_cases c : k < n
    · rw [if_neg (nI_ge c (by omega)), ckI (show k < 900 by omega) (by decide), nI_clamp (by omega), hB.1 k (by omega), bd1_e (cLet_e (hB.2.1 k)), ← isL_v]
      cases hl : isL b k with
      | true =>
        rw [if_neg (show ¬ (bI true = 0) by decide), lt1_e, nI_1]
        exact ih (k + 1) (by omega) (by omega) (by rw [← rn_t c hl]; exact he)
      | false =>
        rw [if_pos (show bI false = 0 from rfl)]
        rw [rn_f (fun _ => hl)] at he
        rw [he]
    · rw [if_pos (nI_le (by omega) (by omega))]
      rw [rn_f (fun h => absurd h c)] at he
      rw [he]
theorem cut70 (hB : BY b ta) (hn : n ≤ 900) {x1 : Int32} {e : Nat} : ∀ f k, n - k < f → k ≤ n → rn (isD b) n k = e → f_X8_cutOne_L70 f x1 (nI n) (nI k) ta = f_X8_cutOne_L95 x1 (nI n) (nI e) ta := by
  intro f
  induction f with
  | zero => intro k h; omega
  | succ f ih =>
    intro k hf hk he
    rw [f_X8_cutOne_L70]
    by_cases c : k < n
    · rw [if_neg (nI_ge c (by omega)), ckI (show k < 900 by omega) (by decide), nI_clamp (by omega), hB.1 k (by omega), bd1_e (cDig_e (hB.2.1 k)), show (decide (48 ≤ b k) && decide (b k ≤ 57)) = isD b k from rfl]
      cases hl : isD b k with
      | true =>
        rw [if_neg (show ¬ (bI true = 0) by decide), lt1_e, nI_1]
        exact ih (k + 1) (by omega) (by omega) (by rw [← rn_t c hl]; exact he)
      | false =>
        rw [if_pos (show bI false = 0 from rfl)]
        rw [rn_f (fun _ => hl)] at he
        rw [he]
    · rw [if_pos (nI_le (by omega) (by omega))]
      rw [rn_f (fun h => absurd h c)] at he
      rw [he]
/-- one token more, and where to go on -/
def ONE (b : Nat → Nat) (n : Nat) (ta : TaS) (ps : List Nat) (p : Nat) (q : Int32 × TaS) : Prop :=
  CTK b n q.2 (ps ++ [p]) ∧ TaK ta q.2 ∧ q.1 = nI (if 1 ≤ tkK b n p ∧ tkK b n p ≤ 3 then tkE b n p else n + 1)
theorem cut130 (hC : CTK b n ta ps) (hl : ps.length ≤ 900) {p : Nat} (hk : tkK b n p = 4) : Ok (f_X8_cutOne_L130 (nI p) (nI n) ta) (ONE b n ta ps p) := by
  unfold f_X8_cutOne_L130
  have h := addTok_e hC hl (p := p) (v := 0) (w := 0) (fun e => by omega) (fun e => by omega)
  rw [hk] at h
  rw [Ok_bd1]
  refine h.mono (fun t ht => ?_)
  rw [Ok_some, nI_1]
  exact ⟨ht.1, ht.2, by rw [hk, if_neg (by omega)]⟩
theorem cutOne_e (hB : BY b ta) (hn : n ≤ 900) (hC : CTK b n ta ps) (hl : ps.length ≤ 900) {p : Nat} (hp : p < n) : Ok (f_X8_cutOne ta (nI p) (nI n)) (ONE b n ta ps p) := by
  have hE := tkE_in (b := b) hp
  unfold f_X8_cutOne
  rw [ckI (show p < 900 by omega) (by decide), nI_clamp (by omega), lt1_e, lt1_e, hB.1 p (by omega), nI_1, bd1_e (cLet_e (hB.2.1 p)), ← isL_v]
  cases c1 : isL b p with
  | true =>
    have eE : rn (isL b) n (p + 1) = tkE b n p := by unfold tkE; rw [if_pos c1, rn_t hp c1]
    have eK : tkK b n p = if tkE b n p - p ≤ 8 then 1 else 4 := by unfold tkK; rw [if_neg (by omega), if_pos c1]
    rw [if_neg (show ¬ (bI true = 0) by decide), cut19 hB hn FU (p + 1) (by rw [FU_e]; omega) (by omega) eE]
    unfold f_X8_cutOne_L44
    rw [nI_sub (by omega)]
    by_cases g : tkE b n p - p ≤ 8
    · have q : ¬ (nI 8 < nI (tkE b n p - p)) := nI_nlt g (by omega)
      rw [if_pos g] at eK
      rw [if_neg (show ¬ ((8 : Int32) < nI (tkE b n p - p)) from q)]
      unfold f_X8_addWord
      have hL : ∀ i, p ≤ i → i < tkE b n p → isL b i = true := by
        intro i h1 h2
        by_cases e : i = p
        · rw [e]; exact c1
        · exact rn_in (P := isL b) (n := n) (s := p + 1) (by omega) (by omega) (by rw [eE]; exact h2)
      have h5 := addW5 hB (p := p) (e := tkE b n p) (by omega) hL g (by omega) FU 0 (by rw [FU_e]; omega) (by omega)
      rw [show f_X8_addWord_L5 FU (nI p) (nI (tkE b n p)) (0 : Int64) (nI p) ta = _ from h5, show f_X8_addWord_L32 FU (nI p) (lN (tkW b p (tkE b n p - p))) (0 : Int32) ta = _ from addW32 hB FU 0 (by rw [FU_e]; omega) (by omega)]
      unfold f_X8_addWord_L57
      have h := addTok_e hC hl (p := p) (v := nI (wix (lN (tkW b p (tkE b n p - p))))) (w := lN (tkW b p (tkE b n p - p))) (fun _ => ⟨rfl, rfl⟩) (fun e => by omega)
      rw [eK] at h
      rw [Ok_bd1, Ok_bd1]
      refine h.mono (fun t ht => ?_)
      rw [Ok_some, Ok_some]
      exact ⟨ht.1, ht.2, by rw [eK, if_pos (by omega)]⟩
    · have q : nI 8 < nI (tkE b n p - p) := nI_lt (by omega) (by omega)
      rw [if_neg g] at eK
      rw [if_pos (show (8 : Int32) < nI (tkE b n p - p) from q)]
      exact cut130 hC hl eK
  | false =>
    rw [if_pos (show bI false = 0 from rfl), bd1_e (cDig_e (hB.2.1 p)), show (decide (48 ≤ b p) && decide (b p ≤ 57)) = isD b p from rfl]
    cases c2 : isD b p with
    | true =>
      have eE : rn (isD b) n (p + 1) = tkE b n p := by unfold tkE; rw [if_neg (by rw [c1]; decide), if_pos c2, rn_t hp c2]
      have eK : tkK b n p = if tkE b n p - p ≤ 3 then 2 else 4 := by unfold tkK; rw [if_neg (by omega), if_neg (by rw [c1]; decide), if_pos c2]
      rw [if_neg (show ¬ (bI true = 0) by decide), cut70 hB hn FU (p + 1) (by rw [FU_e]; omega) (by omega) eE]
      unfold f_X8_cutOne_L95
      rw [nI_sub (by omega)]
      by_cases g : tkE b n p - p ≤ 3
      · have q : ¬ (nI 3 < nI (tkE b n p - p)) := nI_nlt g (by omega)
        rw [if_pos g] at eK
        rw [if_neg (show ¬ ((3 : Int32) < nI (tkE b n p - p)) from q)]
        unfold f_X8_addWhole
        have hL : ∀ i, p ≤ i → i < tkE b n p → isD b i = true := by
          intro i h1 h2
          by_cases e : i = p
          · rw [e]; exact c2
          · exact rn_in (P := isD b) (n := n) (s := p + 1) (by omega) (by omega) (by rw [eE]; exact h2)
        have h5 := addN5 hB (p := p) (e := tkE b n p) (by omega) hL (by omega) FU 0 (by rw [FU_e]; omega) (by omega)
        rw [show f_X8_addWhole_L5 FU (nI p) (nI (tkE b n p)) (0 : Int32) (nI p) ta = _ from h5]
        have h := addTok_e hC hl (p := p) (v := nI (tkN b p (tkE b n p - p))) (w := 0) (fun e => by omega) (fun _ => rfl)
        rw [eK] at h
        rw [Ok_bd1, Ok_bd1]
        refine h.mono (fun t ht => ?_)
        rw [Ok_some, Ok_some]
        exact ⟨ht.1, ht.2, by rw [eK, if_pos (by omega)]⟩
      · have q : nI 3 < nI (tkE b n p - p) := nI_lt (by omega) (by omega)
        rw [if_neg g] at eK
        rw [if_pos (show (3 : Int32) < nI (tkE b n p - p) from q)]
        exact cut130 hC hl eK
    | false =>
      have eE : tkE b n p = p + 1 := by unfold tkE; rw [if_neg (by rw [c1]; decide), if_neg (by rw [c2]; decide)]
      rw [if_pos (show bI false = 0 from rfl)]
      have hbp := hB.2.1 p
      by_cases g : b p = 59
      · have eK : tkK b n p = 3 := by unfold tkK; rw [if_neg (by omega), if_neg (by rw [c1]; decide), if_neg (by rw [c2]; decide), if_pos g]
        have h := addTok_e hC hl (p := p) (v := 0) (w := 0) (fun e => by omega) (fun e => by omega)
        rw [eK] at h
        rw [g, if_pos (by decide), Ok_bd1]
        refine h.mono (fun t ht => ?_)
        rw [Ok_some]
        exact ⟨ht.1, ht.2, by rw [eK, if_pos (by omega), eE]⟩
      · have eK : tkK b n p = 4 := by unfold tkK; rw [if_neg (by omega), if_neg (by rw [c1]; decide), if_neg (by rw [c2]; decide), if_neg g]
        rw [if_neg (show ¬ (nI (b p) = 59) from fun e => g (nI_inj (b := 59) e (by omega) (by omega)))]
        exact cut130 hC hl eK
theorem cut29 (hB : BY b ta) (hn : n ≤ 900) {x4 : Int32} {K : Int32 → Int32 → Int32 → TaS → Option TaS} : ∀ f s, n - s < f → s ≤ n → f_X8_cut_L29 f (nI n) (nI s) x4 ta K = f_X8_cut_L51 (nI n) (nI (tkS b n s)) x4 ta K := by
  intro f
  induction f with
  | zero => intro s h; omega
  | succ f ih =>
    intro s hf hs
    rw [f_X8_cut_L29]
    have hbs := hB.2.1 s
    by_cases c : s < n
    · rw [if_neg (nI_ge c (by omega)), ckI (show s < 900 by omega) (by decide), nI_clamp (by omega), hB.1 s (by omega)]
      by_cases d : b s = 32
      · have hb2 : isB b s = true := by unfold isB; simp [d]
        rw [d, if_pos (by decide), lt1_e, nI_1, ih (s + 1) (by omega) (by omega)]
        unfold tkS
        rw [rn_t c hb2]
      · have hb2 : isB b s = false := by unfold isB; simp [d]
        rw [if_neg (show ¬ (nI (b s) = 32) from fun e => d (nI_inj (b := 32) e (by omega) (by omega)))]
        unfold tkS
        rw [rn_f (fun _ => hb2)]
    · rw [if_pos (nI_le (by omega) (by omega))]
      unfold tkS
      rw [rn_f (fun h => absurd h c)]
theorem cut_L (hn : n ≤ 900) : ∀ f s ps ta, n + 1 - s < f → s ≤ n → ps.length ≤ s → BY b ta → CTK b n ta ps → Chp b n ps s → Ok (f_X8_cut_L18 f (nI n) (nI s) (nI ps.length) ta) (fun ta' => TaK ta ta' ∧ Ta_filled ta' = 0 ∧ ∃ ps', CTK b n ta' ps' ∧ TKS b n ps' ∧ ps'.length ≤ 901) := by
  intro f
  induction f with
  | zero => intro s ps ta h; omega
  | succ f ih =>
    intro s ps ta hf hs hl hB hC hP
    have hpn : tkS b n s ≤ n := rn_le hs
    have hps : s ≤ tkS b n s := rn_ge hs
    have last : ∀ ta2, CTK b n ta2 (ps ++ [tkS b n s]) → TaK ta ta2 → (tkK b n (tkS b n s) = 0 ∨ tkK b n (tkS b n s) = 4) → Ok (f_X8_cut_L18 f (nI n) (nI (n + 1)) (nI (ps.length + 1)) ta2) (fun ta' => TaK ta ta' ∧ Ta_filled ta' = 0 ∧ ∃ ps', CTK b n ta' ps' ∧ TKS b n ps' ∧ ps'.length ≤ 901) := by
      intro ta2 h1 h2 h3
      cases f with
      | zero => omega
      | succ f =>
        rw [f_X8_cut_L18, if_pos (nI_lt (show n < n + 1 by omega) (by omega)), ite_self]
        unfold f_X8_cut_L77
        rw [lt1_e, Ok_some]
        exact ⟨h2, rfl, ps ++ [tkS b n s], h1, hP.fin rfl hpn h3, by rw [List.length_append, List.length_singleton]; omega⟩
    rw [f_X8_cut_L18, if_neg (nI_nlt (show ps.length ≤ n by omega) (by omega)), if_neg (nI_nlt hs (by omega)), cut29 hB hn FU s (by rw [FU_e]; omega) hs]
    unfold f_X8_cut_L51 f_X8_cut_L70
    by_cases c : tkS b n s < n
    · rw [if_neg (nI_ge c (by omega)), Ok_bd2]
      refine (cutOne_e hB hn hC (by omega) c).mono (fun q hq => ?_)
      obtain ⟨q1, q2, q3⟩ := hq
      rw [lt1_e, nI_1, q3]
      by_cases d : 1 ≤ tkK b n (tkS b n s) ∧ tkK b n (tkS b n s) ≤ 3
      · have hE := tkE_in (b := b) c
        rw [if_pos d]
        have := ih (tkE b n (tkS b n s)) (ps ++ [tkS b n s]) q.2 (by omega) hE.2 (by rw [List.length_append, List.length_singleton]; omega) (hB.k q2) q1 (hP.snoc rfl hpn d)
        rw [List.length_append, List.length_singleton] at this
        exact this.mono (fun t ht => ⟨q2.trans ht.1, ht.2⟩)
      · rw [if_neg d]
        have := tkK_le b n (tkS b n s)
        exact last q.2 q1 q2 (by omega)
    · have eK : tkK b n (tkS b n s) = 0 := by unfold tkK; rw [if_pos (by omega)]
      have ep : tkS b n s = n := by omega
      rw [if_pos (nI_le (by omega) (by omega))]
      unfold f_X8_ends
      have h := addTok_e hC (show ps.length ≤ 900 by omega) (p := tkS b n s) (v := 0) (w := 0) (fun e => by omega) (fun e => by omega)
      rw [eK, show nI (tkS b n s) = nI n from by rw [ep]] at h
      rw [Ok_bd2, Ok_bd1]
      refine h.mono (fun t ht => ?_)
      rw [Ok_some, lt1_e, nI_1, nI_1]
      exact last t ht.1 ht.2 (Or.inl eK)
theorem cut_e (hB : BY b ta) (hn : n ≤ 900) : Ok (f_X8_cut ta (nI n)) (fun ta' => TaK ta ta' ∧ Ta_filled ta' = 0 ∧ ∃ ps', CTK b n ta' ps' ∧ TKS b n ps' ∧ ps'.length ≤ 901) := by
  have q : ¬ (nI 900 < nI n) := nI_nlt hn (by omega)
  unfold f_X8_cut
  rw [if_neg (show ¬ ((900 : Int32) < nI n) from q), lt1_e, lt1_e]
  exact (cut_L hn FU 0 [] (Ta_count' ta 0) (by rw [FU_e]; omega) (by omega) (by simp) hB ⟨rfl, fun i p h => by simp at h⟩ ⟨fun _ => rfl, fun p h => by simp at h, fun i p h => by simp at h⟩).mono (fun t ht => ⟨⟨ht.1.1, ht.1.2⟩, ht.2⟩)
end CUT2
