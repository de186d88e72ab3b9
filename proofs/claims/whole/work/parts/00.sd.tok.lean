/-! tokens: where one begins and ends, what it is worth -/
def run (P : Nat → Bool) (n : Nat) : Nat → Nat → Nat
  | 0, s => s
  | f + 1, s => if s < n then (if P s = true then run P n f (s + 1) else s) else s
def rn (P : Nat → Bool) (n s : Nat) : Nat := run P n (n - s) s
section RUN
variable {P : Nat → Bool} {n s : Nat}
theorem rn_t (h : s < n) (p : P s = true) : rn P n s = rn P n (s + 1) := by
  unfold rn
  rw [show n - s = (n - (s + 1)) + 1 by omega, run, if_pos h, if_pos p]
theorem rn_f (h : s < n → P s = false) : rn P n s = s := by
  unfold rn
  by_cases c : s < n
  · rw [show n - s = (n - (s + 1)) + 1 by omega, run, if_pos c, if_neg (by rw [h c]; decide)]
  · rw [show n - s = 0 by omega, run]
theorem rn_b : ∀ k s, n - s = k → s ≤ n → s ≤ rn P n s ∧ rn P n s ≤ n ∧ (∀ i, s ≤ i → i < rn P n s → P i = true) ∧ (rn P n s < n → P (rn P n s) = false) := by
  intro k
  induction k with
  | zero =>
    intro s hk hs
    rw [rn_f (fun h => by omega)]
    exact ⟨by omega, hs, fun i h1 h2 => by omega, fun h => by omega⟩
  | succ k ih =>
    intro s hk hs
    by_cases c : P s = true
    · rw [rn_t (by omega) c]
      obtain ⟨h1, h2, h3, h4⟩ := ih (s + 1) (by omega) (by omega)
      refine ⟨by omega, h2, fun i h5 h6 => ?_, h4⟩
      by_cases e : i = s
      · rw [e]; exact c
      · exact h3 i (by omega) h6
    · have c' : P s = false := by cases h : P s <;> simp_all
      rw [rn_f (fun _ => c')]
      exact ⟨by omega, hs, fun i h1 h2 => by omega, fun _ => c'⟩
theorem rn_ge (h : s ≤ n) : s ≤ rn P n s := (rn_b _ s rfl h).1
theorem rn_le (h : s ≤ n) : rn P n s ≤ n := (rn_b _ s rfl h).2.1
theorem rn_in (h : s ≤ n) {i : Nat} (h1 : s ≤ i) (h2 : i < rn P n s) : P i = true := (rn_b _ s rfl h).2.2.1 i h1 h2
theorem rn_out (h : s ≤ n) (h1 : rn P n s < n) : P (rn P n s) = false := (rn_b _ s rfl h).2.2.2 h1
end RUN
def isL (b : Nat → Nat) (i : Nat) : Bool := decide (97 ≤ b i) && decide (b i ≤ 122)
def isD (b : Nat → Nat) (i : Nat) : Bool := decide (48 ≤ b i) && decide (b i ≤ 57)
def isB (b : Nat → Nat) (i : Nat) : Bool := decide (b i = 32)
def tkS (b : Nat → Nat) (n s : Nat) : Nat := rn (isB b) n s
def tkE (b : Nat → Nat) (n p : Nat) : Nat := if isL b p = true then rn (isL b) n p else if isD b p = true then rn (isD b) n p else p + 1
/-- 0 the end, 1 a word, 2 a whole, 3 a semicolon, 4 none -/
def tkK (b : Nat → Nat) (n p : Nat) : Nat :=
  if n ≤ p then 0 else if isL b p = true then (if tkE b n p - p ≤ 8 then 1 else 4) else if isD b p = true then (if tkE b n p - p ≤ 3 then 2 else 4) else if b p = 59 then 3 else 4
def tkW (b : Nat → Nat) (p : Nat) : Nat → Nat
  | 0 => 0
  | k + 1 => 32 * tkW b p k + (b (p + k) - 96)
def tkN (b : Nat → Nat) (p : Nat) : Nat → Nat
  | 0 => 0
  | k + 1 => 10 * tkN b p k + (b (p + k) - 48)
def srt (k : Nat) : Nat := if k = 0 then 1 else if k = 1 then 2 else if k = 2 then 3 else if k = 3 then 4 else 0
/-- the reference looks at the token that begins at p -/
def AT (b : Nat → Nat) (n p : Nat) (md : MdS) : Prop :=
  Md_place md = nI p ∧ Md_sort md = nI (srt (tkK b n p)) ∧ (tkK b n p = 1 → Md_word md = lN (tkW b p (tkE b n p - p))) ∧ (tkK b n p = 2 → Md_number md = nI (tkN b p (tkE b n p - p))) ∧ (1 ≤ tkK b n p → tkK b n p ≤ 3 → Md_spot md = nI (tkE b n p))
/-- the text that the reference reads -/
def RT0 (b : Nat → Nat) (n : Nat) (md : MdS) : Prop := n ≤ 900 ∧ Md_size md = nI n ∧ (∀ i, i < 900 → Md_tape md i &&& 255 = nI (b i)) ∧ ∀ i, b i < 256
def Pm (md md' : MdS) : Prop := Sc md md' ∧ Md_size md' = Md_size md ∧ Md_wrongAt md' = Md_wrongAt md
theorem Pm.refl (md : MdS) : Pm md md := ⟨Sc.refl _, rfl, rfl⟩
theorem Pm.trans {a b c : MdS} (h : Pm a b) (k : Pm b c) : Pm a c := ⟨h.1.trans k.1, k.2.1.trans h.2.1, k.2.2.trans h.2.2⟩
theorem Pm.spot (md : MdS) (v : Int32) : Pm md (Md_spot' md v) := ⟨Sc.u_spot _ _, rfl, rfl⟩
theorem Pm.sort (md : MdS) (v : Int32) : Pm md (Md_sort' md v) := ⟨Sc.u_sort _ _, rfl, rfl⟩
theorem Pm.place (md : MdS) (v : Int32) : Pm md (Md_place' md v) := ⟨Sc.u_place _ _, rfl, rfl⟩
theorem Pm.number (md : MdS) (v : Int32) : Pm md (Md_number' md v) := ⟨Sc.u_number _ _, rfl, rfl⟩
theorem Pm.word (md : MdS) (v : Int64) : Pm md (Md_word' md v) := ⟨Sc.u_word _ _, rfl, rfl⟩
theorem RT0.pm {b : Nat → Nat} {n : Nat} {md md' : MdS} (h : RT0 b n md) (k : Pm md md') : RT0 b n md' := ⟨h.1, k.2.1.trans h.2.1, by rw [k.1.tape]; exact h.2.2⟩
section GOES
variable {b : Nat → Nat} {n : Nat} {md : MdS}
theorem byteAt_e (h : RT0 b n md) {s : Nat} (hs : s ≤ n) : f_X13_byteAt md (nI s) = some (if s < n then nI (b s) else -1) := by
  unfold f_X13_byteAt
  have h9 := h.1
  rw [h.2.1]
  by_cases c : s < n
  · rw [if_neg (nI_ge c (by omega)), ckI (by omega) (by decide), nI_clamp (by omega), h.2.2.1 s (by omega), if_pos c]
  · rw [if_pos (nI_le (by omega) (by omega)), if_neg c]
theorem isLet_e {c : Nat} (h : c < 256) : f_X13_isLetter (nI c) = some (bI (decide (97 ≤ c) && decide (c ≤ 122))) := by
  unfold f_X13_isLetter
  by_cases c1 : 97 ≤ c
  · have q : ¬ (nI c < nI 97) := nI_nlt c1 (by omega)
    rw [if_neg (show ¬ (nI c < 97) from q)]
    by_cases c2 : c ≤ 122
    · have q2 : ¬ (nI 122 < nI c) := nI_nlt c2 (by omega)
      rw [if_neg (show ¬ ((122 : Int32) < nI c) from q2)]
      simp [c1, c2, bI]
    · have q2 : nI 122 < nI c := nI_lt (by omega) (by omega)
      rw [if_pos (show (122 : Int32) < nI c from q2)]
      simp [c2, bI]
  · have q : nI c < nI 97 := nI_lt (by omega) (by omega)
    rw [if_pos (show nI c < 97 from q)]
    simp [c1, bI]
theorem isDig_e {c : Nat} (h : c < 256) : f_X13_isDigit (nI c) = some (bI (decide (48 ≤ c) && decide (c ≤ 57))) := by
  unfold f_X13_isDigit
  by_cases c1 : 48 ≤ c
  · have q : ¬ (nI c < nI 48) := nI_nlt c1 (by omega)
    rw [if_neg (show ¬ (nI c < 48) from q)]
    by_cases c2 : c ≤ 57
    · have q2 : ¬ (nI 57 < nI c) := nI_nlt c2 (by omega)
      rw [if_neg (show ¬ ((57 : Int32) < nI c) from q2)]
      simp [c1, c2, bI]
    · have q2 : nI 57 < nI c := nI_lt (by omega) (by omega)
      rw [if_pos (show (57 : Int32) < nI c from q2)]
      simp [c2, bI]
  · have q : nI c < nI 48 := nI_lt (by omega) (by omega)
    rw [if_pos (show nI c < 48 from q)]
    simp [c1, bI]
theorem isL_v {i : Nat} : isL b i = (decide (97 ≤ b i) && decide (b i ≤ 122)) := rfl
theorem isL_b {i : Nat} (h : isL b i = true) : 97 ≤ b i ∧ b i ≤ 122 := by
  unfold isL at h
  simpa using h
theorem isD_b {i : Nat} (h : isD b i = true) : 48 ≤ b i ∧ b i ≤ 57 := by
  unfold isD at h
  simpa using h
theorem tkW_lt (h : ∀ i, b i < 256) {p : Nat} : ∀ k, (∀ j, j < k → isL b (p + j) = true) → tkW b p k < 32 ^ k := by
  intro k
  induction k with
  | zero => intro _; exact Nat.one_pos
  | succ k ih =>
    intro hk
    have h1 := ih (fun j hj => hk j (by omega))
    have h2 := isL_b (hk k (by omega))
    rw [tkW, Nat.pow_succ]
    omega
theorem word_step (w c : Nat) (h1 : 97 ≤ c) (h2 : c ≤ 122) : (32 : Int64) * lN w + Int32.toInt64 ((nI c - 97) + 1) = lN (32 * w + (c - 96)) := by
  have e : (nI c - 97) + 1 = nI (c - 96) := by
    rw [li_97, nI_sub h1, nI_1]
    congr 1
    omega
  rw [e, nI_l (by omega), show (32 : Int64) = lN 32 from rfl, lN_mul, lN_add]
theorem num_step (w c : Nat) (h1 : 48 ≤ c) : (10 : Int32) * nI w + nI c - 48 = nI (10 * w + (c - 48)) := by
  rw [li_10, li_48, nI_mul, nI_add, nI_sub (by omega)]
  congr 1
  omega
theorem goL (hb : ∀ i, b i < 256) {p e : Nat} (hp : p ≤ n) (he : rn (isL b) n p = e) :
    ∀ f k md, e - p - k < f → p + k ≤ e → RT0 b n md → Md_spot md = nI (p + k) → Md_word md = lN (tkW b p (min k 8)) →
    Ok (f_X13_goesOn_L84 f (nI k) md) (fun md' => Pm md md' ∧ Md_spot md' = nI e ∧ Md_place md' = Md_place md ∧ Md_sort md' = (if e - p ≤ 8 then 2 else Md_sort md) ∧ (e - p ≤ 8 → Md_word md' = lN (tkW b p (e - p)))) := by
  have hen : e ≤ n := he ▸ rn_le hp
  intro f
  induction f with
  | zero => intro k md h; omega
  | succ f ih =>
    intro k md hf hk hR hs hw
    have h9 := hR.1
    rw [f_X13_goesOn_L84, hs, bd1_e (byteAt_e hR (show p + k ≤ n by omega))]
    by_cases c : p + k = e
    · have c0 : (bd1 (f_X13_isLetter (if p + k < n then nI (b (p + k)) else -1)) fun r_19 => if r_19 = 0 then if (8 : Int32) < nI k then some md else lt1 (Md_sort' md 2) fun md_20 => some md_20 else if (8 : Int32) ≤ nI k then f_X13_goesOn_L131 (nI k) md (fun y0 y1 => f_X13_goesOn_L84 f y0 y1) else bd1 (f_X13_byteAt md (nI (p + k))) fun r_21 => lt1 (Md_word' md (32 * Md_word md + ((r_21 - 97) + 1).toInt64)) fun md_22 => f_X13_goesOn_L131 (nI k) md_22 (fun y0 y1 => f_X13_goesOn_L84 f y0 y1)) = (if (8 : Int32) < nI k then some md else some (Md_sort' md 2)) := by
        by_cases d : p + k < n
        · have hl : isL b (p + k) = false := by rw [c, ← he]; exact rn_out hp (by rw [he]; omega)
          rw [if_pos d, bd1_e (isLet_e (hb _)), ← isL_v, hl, if_pos (show bI false = 0 from rfl), lt1_e]
        · rw [if_neg d, bd1_e (show f_X13_isLetter (-1) = some 0 from by decide), if_pos rfl, lt1_e]
      rw [c0]
      have ek : e - p = k := by omega
      by_cases d : k ≤ 8
      · have q : ¬ (nI 8 < nI k) := nI_nlt d (by omega)
        rw [if_neg (show ¬ ((8 : Int32) < nI k) from q), Ok_some, ek, if_pos d]
        rw [Nat.min_eq_left d] at hw
        exact ⟨Pm.sort _ _, by rw [← c]; exact hs, rfl, rfl, fun _ => hw⟩
      · have q : nI 8 < nI k := nI_lt (by omega) (by omega)
        rw [if_pos (show (8 : Int32) < nI k from q), Ok_some, ek, if_neg d]
        exact ⟨Pm.refl _, by rw [← c]; exact hs, rfl, rfl, fun h => absurd h d⟩
    · have hl : isL b (p + k) = true := rn_in hp (by omega) (by rw [he]; omega)
      have hlb := isL_b hl
      rw [if_pos (show p + k < n by omega), bd1_e (isLet_e (hb _)), ← isL_v, hl, if_neg (show ¬ (bI true = 0) by decide)]
      unfold f_X13_goesOn_L131
      by_cases d : 8 ≤ k
      · have q : nI 8 ≤ nI k := nI_le d (by omega)
        rw [if_pos (show (8 : Int32) ≤ nI k from q), lt1_e, lt1_e, hs, nI_1, nI_1]
        refine (ih (k + 1) _ (by omega) (by omega) (hR.pm (Pm.spot _ _)) (by rw [Nat.add_assoc]; rfl) (by rw [Nat.min_eq_right (by omega)]; rw [Nat.min_eq_right d] at hw; exact hw)).mono (fun md' h => ?_)
        exact ⟨(Pm.spot _ _).trans h.1, h.2.1, h.2.2.1, h.2.2.2.1, h.2.2.2.2⟩
      · have q : ¬ (nI 8 ≤ nI k) := nI_ge (by omega) (by omega)
        have hw2 : Md_word md = lN (tkW b p k) := by rw [Nat.min_eq_left (by omega)] at hw; exact hw
        rw [if_neg (show ¬ ((8 : Int32) ≤ nI k) from q), bd1_e (byteAt_e hR (show p + k ≤ n by omega)), if_pos (show p + k < n by omega), lt1_e, lt1_e, lt1_e, hw2, word_step _ _ hlb.1 hlb.2, show Md_spot (Md_word' md (lN (32 * tkW b p k + (b (p + k) - 96)))) = nI (p + k) from hs, nI_1, nI_1]
        refine (ih (k + 1) _ (by omega) (by omega) (hR.pm ((Pm.word _ _).trans (Pm.spot _ _))) (by rw [Nat.add_assoc]; rfl) (by rw [Nat.min_eq_left (by omega)]; rfl)).mono (fun md' h => ?_)
        exact ⟨((Pm.word _ _).trans (Pm.spot _ _)).trans h.1, h.2.1, h.2.2.1, h.2.2.2.1, h.2.2.2.2⟩
theorem goD (hb : ∀ i, b i < 256) {p e : Nat} (hp : p ≤ n) (he : rn (isD b) n p = e) :
    ∀ f k md, e - p - k < f → p + k ≤ e → RT0 b n md → Md_spot md = nI (p + k) → Md_number md = nI (tkN b p (min k 3)) →
    Ok (f_X13_goesOn_L173 f (nI k) md) (fun md' => Pm md md' ∧ Md_spot md' = nI e ∧ Md_place md' = Md_place md ∧ Md_sort md' = (if e - p ≤ 3 then 3 else Md_sort md) ∧ (e - p ≤ 3 → Md_number md' = nI (tkN b p (e - p)))) := by
  have hen : e ≤ n := he ▸ rn_le hp
  intro f
  induction f with
  | zero => intro k md h; omega
  | succ f ih =>
    intro k md hf hk hR hs hw
    have h9 := hR.1
    rw [f_X13_goesOn_L173, hs, bd1_e (byteAt_e hR (show p + k ≤ n by omega))]
    by_cases c : p + k = e
    · have c0 : (bd1 (f_X13_isDigit (if p + k < n then nI (b (p + k)) else -1)) fun r_14 => if r_14 = 0 then if (3 : Int32) < nI k then some md else lt1 (Md_sort' md 3) fun md_15 => some md_15 else if (3 : Int32) ≤ nI k then f_X13_goesOn_L215 (nI k) md (fun y0 y1 => f_X13_goesOn_L173 f y0 y1) else bd1 (f_X13_byteAt md (nI (p + k))) fun r_16 => lt1 (Md_number' md (10 * Md_number md + r_16 - 48)) fun md_17 => f_X13_goesOn_L215 (nI k) md_17 (fun y0 y1 => f_X13_goesOn_L173 f y0 y1)) = (if (3 : Int32) < nI k then some md else some (Md_sort' md 3)) := by
        by_cases d : p + k < n
        · have hl : isD b (p + k) = false := by rw [c, ← he]; exact rn_out hp (by rw [he]; omega)
          rw [if_pos d, bd1_e (isDig_e (hb _)), show (decide (48 ≤ b (p + k)) && decide (b (p + k) ≤ 57)) = isD b (p + k) from rfl, hl, if_pos (show bI false = 0 from rfl), lt1_e]
        · rw [if_neg d, bd1_e (show f_X13_isDigit (-1) = some 0 from by decide), if_pos rfl, lt1_e]
      rw [c0]
      have ek : e - p = k := by omega
      by_cases d : k ≤ 3
      · have q : ¬ (nI 3 < nI k) := nI_nlt d (by omega)
        rw [if_neg (show ¬ ((3 : Int32) < nI k) from q), Ok_some, ek, if_pos d]
        rw [Nat.min_eq_left d] at hw
        exact ⟨Pm.sort _ _, by rw [← c]; exact hs, rfl, rfl, fun _ => hw⟩
      · have q : nI 3 < nI k := nI_lt (by omega) (by omega)
        rw [if_pos (show (3 : Int32) < nI k from q), Ok_some, ek, if_neg d]
        exact ⟨Pm.refl _, by rw [← c]; exact hs, rfl, rfl, fun h => absurd h d⟩
    · have hl : isD b (p + k) = true := rn_in hp (by omega) (by rw [he]; omega)
      have hlb := isD_b hl
      rw [if_pos (show p + k < n by omega), bd1_e (isDig_e (hb _)), show (decide (48 ≤ b (p + k)) && decide (b (p + k) ≤ 57)) = isD b (p + k) from rfl, hl, if_neg (show ¬ (bI true = 0) by decide)]
      unfold f_X13_goesOn_L215
      by_cases d : 3 ≤ k
      · have q : nI 3 ≤ nI k := nI_le d (by omega)
        rw [if_pos (show (3 : Int32) ≤ nI k from q), lt1_e, lt1_e, hs, nI_1, nI_1]
        refine (ih (k + 1) _ (by omega) (by omega) (hR.pm (Pm.spot _ _)) (by rw [Nat.add_assoc]; rfl) (by rw [Nat.min_eq_right (by omega)]; rw [Nat.min_eq_right d] at hw; exact hw)).mono (fun md' h => ?_)
        exact ⟨(Pm.spot _ _).trans h.1, h.2.1, h.2.2.1, h.2.2.2.1, h.2.2.2.2⟩
      · have q : ¬ (nI 3 ≤ nI k) := nI_ge (by omega) (by omega)
        have hw2 : Md_number md = nI (tkN b p k) := by rw [Nat.min_eq_left (by omega)] at hw; exact hw
        rw [if_neg (show ¬ ((3 : Int32) ≤ nI k) from q), bd1_e (byteAt_e hR (show p + k ≤ n by omega)), if_pos (show p + k < n by omega), lt1_e, lt1_e, lt1_e, hw2, num_step _ _ hlb.1, show Md_spot (Md_number' md (nI (10 * tkN b p k + (b (p + k) - 48)))) = nI (p + k) from hs, nI_1, nI_1]
        refine (ih (k + 1) _ (by omega) (by omega) (hR.pm ((Pm.number _ _).trans (Pm.spot _ _))) (by rw [Nat.add_assoc]; rfl) (by rw [Nat.min_eq_left (by omega)]; rfl)).mono (fun md' h => ?_)
        exact ⟨((Pm.number _ _).trans (Pm.spot _ _)).trans h.1, h.2.1, h.2.2.1, h.2.2.2.1, h.2.2.2.2⟩
theorem go9 (hb : ∀ i, b i < 256) : ∀ f s md, tkS b n s - s < f → s ≤ n → RT0 b n md → Md_spot md = nI s → Ok (f_X13_goesOn_L9 f md) (fun md' => Pm md md' ∧ AT b n (tkS b n s) md') := by
  intro f
  induction f with
  | zero => intro s md h; omega
  | succ f ih =>
    intro s md hf hs hR hsp
    have h9 := hR.1
    rw [f_X13_goesOn_L9, hsp, bd1_e (byteAt_e hR hs)]
    by_cases c : s < n ∧ isB b s = true
    · have e32 : b s = 32 := by have := c.2; unfold isB at this; simpa using this
      have et : tkS b n s = tkS b n (s + 1) := rn_t c.1 c.2
      have hge : s + 1 ≤ tkS b n (s + 1) := rn_ge (by omega)
      rw [if_pos c.1, e32, if_pos (by decide), lt1_e, nI_1, et]
      refine (ih (s + 1) _ (by omega) (by omega) (hR.pm (Pm.spot _ _)) rfl).mono (fun md' h => ⟨(Pm.spot _ _).trans h.1, h.2⟩)
    · have ep : tkS b n s = s := rn_f (fun h => by cases hh : isB b s with | false => rfl | true => exact absurd ⟨h, hh⟩ c)
      have n32 : ¬ ((if s < n then nI (b s) else -1) = (32 : Int32)) := by
        by_cases d : s < n
        · rw [if_pos d]
          intro e
          have := nI_inj (b := 32) e (by have := hb s; omega) (by omega)
          exact c ⟨d, by unfold isB; simp [this]⟩
        · rw [if_neg d]; decide
      have hR3 : RT0 b n (Md_sort' (Md_place' md (nI s)) 0) := hR.pm ((Pm.place _ _).trans (Pm.sort _ _))
      have hs3 : Md_spot (Md_sort' (Md_place' md (nI s)) 0) = nI s := hsp
      have pm3 : Pm md (Md_sort' (Md_place' md (nI s)) 0) := (Pm.place _ _).trans (Pm.sort _ _)
      rw [if_neg n32, lt1_e, lt1_e, hs3, bd1_e (byteAt_e hR3 hs), ep]
      by_cases d : s < n
      · have hbs := hb s
        rw [if_pos d, if_neg (by rw [nI_neg1 (by omega)]; exact id), bd1_e (isLet_e hbs), ← isL_v]
        cases hl : isL b s with
        | true =>
          have hlb := isL_b hl
          rw [if_neg (show ¬ (bI true = 0) by decide), lt1_e]
          have eE : tkE b n s = rn (isL b) n s := by unfold tkE; rw [if_pos hl]
          have eK : tkK b n s = if tkE b n s - s ≤ 8 then 1 else 4 := by unfold tkK; rw [if_neg (by omega), if_pos hl]
          have hle : rn (isL b) n s ≤ n := rn_le hs
          refine (goL hb hs eE.symm FU 0 _ (by rw [FU_e]; omega) (by rw [eE]; exact rn_ge hs) (hR3.pm (Pm.word _ _)) hsp rfl).mono (fun md' h => ?_)
          refine ⟨(pm3.trans (Pm.word _ _)).trans h.1, h.2.2.1, ?_, ?_, ?_, fun _ _ => h.2.1⟩
          · rw [h.2.2.2.1, eK]
            by_cases g : tkE b n s - s ≤ 8
            · rw [if_pos g, if_pos g]; rfl
            · rw [if_neg g, if_neg g]; rfl
          · intro h1
            refine h.2.2.2.2 ?_
            rw [eK] at h1
            by_cases g : tkE b n s - s ≤ 8
            · exact g
            · rw [if_neg g] at h1; omega
          · intro h1
            rw [eK] at h1
            split at h1 <;> omega
        | false =>
          rw [if_pos (show bI false = 0 from rfl), bd1_e (isDig_e hbs), show (decide (48 ≤ b s) && decide (b s ≤ 57)) = isD b s from rfl]
          cases hd : isD b s with
          | true =>
            rw [if_neg (show ¬ (bI true = 0) by decide), lt1_e]
            have eE : tkE b n s = rn (isD b) n s := by unfold tkE; rw [if_neg (by rw [hl]; decide), if_pos hd]
            have eK : tkK b n s = if tkE b n s - s ≤ 3 then 2 else 4 := by unfold tkK; rw [if_neg (by omega), if_neg (by rw [hl]; decide), if_pos hd]
            have hle : rn (isD b) n s ≤ n := rn_le hs
            refine (goD hb hs eE.symm FU 0 _ (by rw [FU_e]; omega) (by rw [eE]; exact rn_ge hs) (hR3.pm (Pm.number _ _)) hsp rfl).mono (fun md' h => ?_)
            refine ⟨(pm3.trans (Pm.number _ _)).trans h.1, h.2.2.1, ?_, ?_, ?_, fun _ _ => h.2.1⟩
            · rw [h.2.2.2.1, eK]
              by_cases g : tkE b n s - s ≤ 3
              · rw [if_pos g, if_pos g]; rfl
              · rw [if_neg g, if_neg g]; rfl
            · intro h1
              rw [eK] at h1
              split at h1 <;> omega
            · intro h1
              refine h.2.2.2.2 ?_
              rw [eK] at h1
              by_cases g : tkE b n s - s ≤ 3
              · exact g
              · rw [if_neg g] at h1; omega
          | false =>
            have eE : tkE b n s = s + 1 := by unfold tkE; rw [if_neg (by rw [hl]; decide), if_neg (by rw [hd]; decide)]
            rw [if_pos (show bI false = 0 from rfl)]
            by_cases g : b s = 59
            · have eK : tkK b n s = 3 := by unfold tkK; rw [if_neg (by omega), if_neg (by rw [hl]; decide), if_neg (by rw [hd]; decide), if_pos g]
              rw [g, if_pos (by decide), lt1_e, lt1_e, Ok_some, show Md_spot (Md_sort' (Md_sort' (Md_place' md (nI s)) 0) 4) = nI s from hsp, nI_1]
              refine ⟨(pm3.trans (Pm.sort _ _)).trans (Pm.spot _ _), rfl, by rw [eK]; rfl, fun h => by rw [eK] at h; omega, fun h => by rw [eK] at h; omega, fun _ _ => by rw [eE]; rfl⟩
            · have eK : tkK b n s = 4 := by unfold tkK; rw [if_neg (by omega), if_neg (by rw [hl]; decide), if_neg (by rw [hd]; decide), if_neg g]
              rw [if_neg (show ¬ (nI (b s) = 59) from fun e => g (nI_inj (b := 59) e (by omega) (by omega))), Ok_some]
              exact ⟨pm3, rfl, by rw [eK]; rfl, fun h => by rw [eK] at h; omega, fun h => by rw [eK] at h; omega, fun _ h => by rw [eK] at h; omega⟩
      · have eK : tkK b n s = 0 := by unfold tkK; rw [if_pos (by omega)]
        rw [if_neg d, if_pos rfl, lt1_e, Ok_some]
        exact ⟨pm3.trans (Pm.sort _ _), rfl, by rw [eK]; rfl, fun h => by rw [eK] at h; omega, fun h => by rw [eK] at h; omega, fun h => by rw [eK] at h; omega⟩
theorem go_e (hb : ∀ i, b i < 256) {s : Nat} (h5 : ¬ Md_sort md = 5) (hs : s ≤ n) (hR : RT0 b n md) (hsp : Md_spot md = nI s) : Ok (f_X13_goesOn md) (fun md' => Pm md md' ∧ AT b n (tkS b n s) md') := by
  have h9 := hR.1
  have : tkS b n s ≤ n := rn_le hs
  unfold f_X13_goesOn
  rw [if_neg h5]
  exact go9 hb FU s md (by rw [FU_e]; omega) hs hR hsp
end GOES
