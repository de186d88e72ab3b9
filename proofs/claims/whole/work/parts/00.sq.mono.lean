/-! the class alone: tokens go on, and a fault is told only where it is one -/
def Al {α : Type} (o : Option α) (P : α → Prop) : Prop := ∀ r, o = some r → P r
section ALS
variable {α β γ δ : Type} {P : β → Prop}
theorem Al.s {r : β} (h : P r) : Al (some r) P := fun _ e => by cases e; exact h
theorem Al.b1 {x : Option α} {K : α → Option β} {Q : α → Prop} (hx : Al x Q) (hK : ∀ a, Q a → Al (K a) P) : Al (bd1 x K) P := by
  cases x with
  | none => intro r e; cases e
  | some a => exact hK a (hx a rfl)
theorem Al.b1' {x : Option α} {K : α → Option β} (hK : ∀ a, Al (K a) P) : Al (bd1 x K) P := Al.b1 (Q := fun _ => True) (fun _ _ => trivial) (fun a _ => hK a)
theorem Al.b2 {x : Option (α × γ)} {K : α → γ → Option β} {Q : α × γ → Prop} (hx : Al x Q) (hK : ∀ a c, Q (a, c) → Al (K a c) P) : Al (bd2 x K) P := by
  cases x with
  | none => intro r e; cases e
  | some a => exact hK a.1 a.2 (hx a rfl)
theorem Al.b3 {x : Option (α × γ × δ)} {K : α → γ → δ → Option β} {Q : α × γ × δ → Prop} (hx : Al x Q) (hK : ∀ a c d, Q (a, c, d) → Al (K a c d) P) : Al (bd3 x K) P := by
  cases x with
  | none => intro r e; cases e
  | some a => exact hK a.1 a.2.1 a.2.2 (hx a rfl)
theorem Al.it {c : Prop} [Decidable c] {x y : Option β} (hx : c → Al x P) (hy : ¬ c → Al y P) : Al (if c then x else y) P := by
  by_cases h : c
  · rw [if_pos h]; exact hx h
  · rw [if_neg h]; exact hy h
theorem Al.k {i : Int32} {n : Nat} {K : Option β} (h : Al K P) : Al (ck i n K) P := by
  unfold ck
  split
  · intro r e; cases e
  · exact h
theorem Al.z {i : Int32} {K : Option β} (h : Al K P) : Al (zb i K) P := by
  unfold zb
  split
  · exact h
  · intro r e; cases e
theorem Al.l {v : α} {K : α → Option β} (h : Al (K v) P) : Al (lt1 v K) P := h
end ALS
def tI (re : ReS) : Int := (Re_token re).toInt
/-- from one state of the reader to a later one, all being well -/
def Fw (re re' : ReS) : Prop := tI re ≤ tI re' ∧ Re_fault re' = Re_fault re
theorem Fw.refl (re : ReS) : Fw re re := ⟨Int.le_refl _, rfl⟩
theorem Fw.trans {a b c : ReS} (h : Fw a b) (k : Fw b c) : Fw a c := ⟨Int.le_trans h.1 k.1, k.2.trans h.2⟩
section MONO
variable {ta : TaS} {re : ReS} {to : ToS}
theorem m_adv : Al (f_X5_advance re ta) (fun r => Fw re r) := by
  unfold f_X5_advance
  refine Al.it (fun _ => Al.s (Fw.refl _)) (fun h => Al.l (Al.s ⟨?_, rfl⟩))
  show (Re_token re).toInt ≤ (Re_token re + 1).toInt
  rw [Int32.le_iff_toInt_le] at h
  have h1 := Int32.toInt_lt (Ta_count ta)
  have h0 := Int32.le_toInt (Ta_count ta)
  have h2 := Int32.toInt_lt (Re_token re)
  have h3 := Int32.le_toInt (Re_token re)
  have h4 := Int32.toInt_lt (Ta_count ta - 1)
  rw [Int32.toInt_add]
  have e1 : (1 : Int32).toInt = 1 := rfl
  rw [e1, Int.bmod_eq_of_le (by omega) (by omega)]
  omega
theorem m_flt {k : Int32} : Al (f_X5_isFaulty re ta k) (fun r => r.1 = 0) := by
  unfold f_X5_isFaulty
  exact Al.l (Al.k (Al.l (Al.s rfl)))
def G1 (re : ReS) (r : Int32 × ReS) : Prop := r.1 ≠ 0 → Fw re r.2
def G2 (re : ReS) (r : Int32 × ReS × ToS) : Prop := r.1 ≠ 0 → Fw re r.2.1
theorem G1_0 {r : ReS} : G1 re ((0 : Int32), r) := fun h => absurd rfl h
theorem m_f1 {k : Int32} {re1 : ReS} : Al (bd2 (f_X5_isFaulty re1 ta k) fun r_3 re_4 => if r_3 = 0 then some ((0 : Int32), re_4) else some ((1 : Int32), re_4)) (G1 re) :=
  Al.b2 m_flt (fun a c h => Al.it (fun _ => Al.s G1_0) (fun h2 => absurd h h2))
theorem m_f2 {k : Int32} {re1 : ReS} : Al (bd2 (f_X5_isFaulty re1 ta k) fun r_4 re_5 => zb r_4 (some (r_4, re_5))) (G1 re) :=
  Al.b2 m_flt (fun a c h => Al.z (Al.s (fun h2 => absurd h h2)))
theorem m_f3 {k : Int32} {re1 : ReS} {to1 : ToS} : Al (bd2 (f_X5_isFaulty re1 ta k) fun r_4 re_5 => zb r_4 (some (r_4, re_5, to1))) (G2 re) :=
  Al.b2 m_flt (fun a c h => Al.z (Al.s (fun h2 => absurd h h2)))
theorem m_word {w : Int32} : Al (f_X5_takesWord re ta w) (G1 re) := by
  unfold f_X5_takesWord
  exact Al.b1 m_adv (fun re1 h1 => Al.b1' (fun a => Al.it (fun _ => m_f1) (fun _ => Al.s (fun _ => h1))))
theorem m_whole {lo hi : Int32} : Al (f_X5_takesWhole re ta lo hi) (G1 re) := by
  unfold f_X5_takesWhole f_X5_takesWhole_L50
  exact Al.b1 m_adv (fun re1 h1 => Al.b1' (fun a => Al.it (fun _ => Al.k (Al.l (Al.it (fun _ => m_f1) (fun _ => Al.it (fun _ => Al.s (fun _ => h1)) (fun _ => m_f1))))) (fun _ => m_f2)))
theorem m_name : Al (f_X5_takesName re ta) (G1 re) := by
  unfold f_X5_takesName f_X5_takesName_L44
  exact Al.b1 m_adv (fun re1 h1 => Al.k (Al.l (Al.b1' (fun a => Al.it (fun _ => Al.k (Al.it (fun _ => Al.s (fun _ => h1)) (fun _ => m_f1))) (fun _ => m_f1)))))
theorem m_link : Al (f_X5_takesLink re ta to) (G1 re) := by
  unfold f_X5_takesLink
  exact Al.b2 m_name (fun a c h => Al.it (fun _ => Al.s G1_0) (fun h2 => Al.b1' (fun r => Al.l (Al.it (fun _ => m_f1) (fun _ => Al.s (fun _ => h h2))))))
theorem m_persn : Al (f_X5_takesPerson re ta to) (G1 re) := by
  unfold f_X5_takesPerson
  exact Al.b2 m_name (fun a c h => Al.it (fun _ => Al.s G1_0) (fun h2 => Al.b1' (fun r => Al.l (Al.it (fun _ => m_f1) (fun _ => Al.s (fun _ => h h2))))))
theorem m_new : Al (f_X5_takesNewName re ta to) (G1 re) := by
  unfold f_X5_takesNewName f_X5_takesNewName_L39 f_X5_takesNewName_L44
  exact Al.b2 m_name (fun a c h => Al.it (fun _ => Al.s G1_0) (fun h2 => Al.b1' (fun r => Al.it (fun _ => Al.b1' (fun r2 => Al.it (fun _ => Al.it (fun _ => Al.s (fun _ => h h2)) (fun _ => m_f1)) (fun _ => Al.it (fun _ => Al.s (fun _ => h h2)) (fun _ => m_f1)))) (fun _ => Al.it (fun _ => Al.s (fun _ => h h2)) (fun _ => m_f1)))))
theorem m_hand46 {x y : Int32} {re1 : ReS} (h : Fw re re1) : Al (f_X5_takesHand_L46 x y re1 ta to) (G1 re) := by
  unfold f_X5_takesHand_L46
  exact Al.l (Al.b1' (fun a => Al.it (fun _ => Al.s (fun _ => h)) (fun _ => m_f1)))
theorem m_hand {q : Int32} : Al (f_X5_takesHand re ta to q) (G1 re) := by
  unfold f_X5_takesHand f_X5_takesHand_L28
  exact Al.b1 m_adv (fun re1 h1 => Al.b1' (fun a => Al.it (fun _ => Al.b1' (fun r => Al.it (fun _ => m_f2) (fun _ => Al.b1' (fun r => Al.it (fun _ => m_hand46 h1) (fun _ => m_hand46 h1))))) (fun _ => Al.b1' (fun r => Al.it (fun _ => m_hand46 h1) (fun _ => m_hand46 h1)))))
theorem G1.tr {a : ReS} {r : Int32 × ReS} (h : Fw re a) (k : G1 a r) : G1 re r := fun e => h.trans (k e)
theorem G2_0 {r : ReS} {t : ToS} : G2 re ((0 : Int32), r, t) := fun h => absurd rfl h
theorem m_pass {ov : Int32} : Al (f_X5_takesPass re ta to ov) (G2 re) := by
  unfold f_X5_takesPass
  exact Al.b2 m_link (fun a c h => Al.it (fun _ => Al.s G2_0) (fun h2 => Al.l (Al.b2 m_whole (fun a' c' h' => Al.it (fun _ => Al.s G2_0) (fun h3 => Al.b1' (fun r => Al.it (fun _ => Al.b1' (fun t => Al.s (fun _ => (h h2).trans (h' h3)))) (fun _ => m_f3)))))))
theorem m_tangle : Al (f_X5_readsTangle re ta to) (G2 re) := by
  unfold f_X5_readsTangle
  exact Al.it (fun _ => Al.b2 m_word (fun a c h => Al.it (fun _ => Al.s G2_0) (fun h2 => Al.b2 m_whole (fun a' c' h' => Al.it (fun _ => Al.s G2_0) (fun h3 => Al.l (Al.l (Al.b1 m_adv (fun re7 h7 => Al.b1' (fun r => Al.it (fun _ => Al.s (fun _ => ((h h2).trans (h' h3)).trans h7)) (fun _ => Al.l (Al.b1 m_adv (fun re10 h10 => Al.s (fun _ => (((h h2).trans (h' h3)).trans h7).trans h10)))))))))))) ) (fun _ => m_f3)
theorem m_person : Al (f_X5_readsPerson re ta to) (G2 re) := by
  unfold f_X5_readsPerson
  exact Al.it (fun _ => Al.b2 m_new (fun a c h => Al.it (fun _ => Al.s G2_0) (fun h2 => Al.l (Al.b2 m_word (fun a' c' h' => Al.it (fun _ => Al.s G2_0) (fun h3 => Al.b2 m_whole (fun a4 c4 h4 => Al.it (fun _ => Al.s G2_0) (fun h5 => Al.b1' (fun t => Al.s (fun _ => ((h h2).trans (h' h3)).trans (h4 h5))))))))))) (fun _ => m_f3)
theorem m_cross : Al (f_X5_readsCross re ta to) (G2 re) := by
  unfold f_X5_readsCross f_X5_readsCross_L73
  exact Al.it (fun _ => Al.b3 m_pass (fun a c d h => Al.it (fun _ => Al.s G2_0) (fun h2 => Al.b2 m_word (fun a' c' h' => Al.it (fun _ => Al.s G2_0) (fun h3 => Al.b3 m_pass (fun a4 c4 d4 h4 => Al.it (fun _ => Al.s G2_0) (fun h5 => Al.b1 m_adv (fun re9 h9 => Al.b1' (fun r => Al.it (fun _ => Al.b1' (fun r2 => Al.it (fun _ => m_f3) (fun _ => Al.b1' (fun r3 => Al.b1' (fun t => Al.s (fun _ => (((h h2).trans (h' h3)).trans (h4 h5)).trans h9)))))) (fun _ => Al.b1' (fun r3 => Al.b1' (fun t => Al.s (fun _ => (((h h2).trans (h' h3)).trans (h4 h5)).trans h9)))))))))))) ) (fun _ => m_f3)
theorem m_hold112 {w : Int64} {x y : Int32} {re1 : ReS} (h : Fw re re1) : Al (f_X5_readsHold_L112 w x y re1 to ta) (G2 re) := by
  unfold f_X5_readsHold_L112
  exact Al.b2 m_hand (fun a c h' => Al.it (fun _ => Al.s G2_0) (fun h2 => Al.b1' (fun t => Al.s (fun _ => h.trans (h' h2)))))
theorem m_hold : Al (f_X5_readsHold re ta to) (G2 re) := by
  unfold f_X5_readsHold f_X5_readsHold_L106
  exact Al.it (fun _ => Al.b2 m_new (fun a c h => Al.it (fun _ => Al.s G2_0) (fun h2 => Al.l (Al.b2 m_persn (fun a' c' h' => Al.it (fun _ => Al.s G2_0) (fun h3 => Al.l (Al.b2 m_hand (fun a4 c4 h4 => Al.it (fun _ => Al.s G2_0) (fun h5 => Al.l (Al.b2 m_persn (fun a6 c6 h6 => Al.it (fun _ => Al.s G2_0) (fun h7 => Al.l (Al.it (fun _ => m_f3) (fun _ => Al.it (fun _ => m_hold112 ((((h h2).trans (h' h3)).trans (h4 h5)).trans (h6 h7))) (fun _ => Al.b1' (fun r => Al.it (fun _ => m_hold112 ((((h h2).trans (h' h3)).trans (h4 h5)).trans (h6 h7))) (fun _ => m_f3))))))))))))))))) (fun _ => m_f3)
theorem m_94 {re1 : ReS} (t : Int32) (h : t ≠ 0 → Fw re re1) : Al (f_X5_readsLine_L94 t re1 to ta) (G2 re) := by
  unfold f_X5_readsLine_L94
  exact Al.it (fun e => Al.z (Al.s (fun h2 => absurd e h2))) (fun e => Al.b1 m_adv (fun re2 h2 => Al.z (Al.s (fun _ => (h e).trans h2))))
/-- behind the first word of a line -/
theorem m_51 {x y : Int32} : Al (f_X5_readsLine_L51 x y re to ta) (G2 re) := by
  unfold f_X5_readsLine_L51
  exact Al.it (fun _ => m_f3) (fun _ => Al.it (fun _ => Al.it (fun _ => Al.b3 m_cross (fun a c d h => m_94 a (fun e => h e))) (fun _ => Al.b3 m_hold (fun a c d h => m_94 a (fun e => h e)))) (fun _ => Al.b3 m_person (fun a c d h => m_94 a (fun e => h e))))
theorem m_line {re1 : ReS} (h : f_X5_advance re ta = some re1) : Al (f_X5_readsLine re ta to) (G2 re1) := by
  unfold f_X5_readsLine
  rw [bd1_e h]
  exact Al.b1' (fun a => Al.it (fun _ => Al.b1' (fun r3 => Al.b1' (fun r4 => Al.it (fun _ => Al.it (fun _ => Al.b1' (fun r5 => Al.it (fun _ => m_f3) (fun _ => m_51))) (fun _ => m_51)) (fun _ => m_51)))) (fun _ => Al.b3 m_tangle (fun a c d h => Al.z (Al.s h))))
end MONO
