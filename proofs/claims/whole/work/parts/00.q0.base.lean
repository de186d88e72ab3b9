/-! the pure side: words for what a pure function answers -/
def Ok {α : Type} (o : Option α) (P : α → Prop) : Prop := ∃ r, o = some r ∧ P r
theorem Ok_some {α : Type} {r : α} {P : α → Prop} : Ok (some r) P ↔ P r := ⟨fun ⟨_, h, k⟩ => by cases h; exact k, fun h => ⟨r, rfl, h⟩⟩
theorem Ok_none {α : Type} {P : α → Prop} : Ok (none : Option α) P ↔ False := ⟨fun ⟨_, h, _⟩ => (by cases h), fun h => h.elim⟩
theorem Ok_lt1 {α β : Type} {v : α} {K : α → Option β} {P : β → Prop} : Ok (lt1 v K) P ↔ Ok (K v) P := Iff.rfl
theorem Ok_bd0 {β : Type} {x : Option Unit} {K : Option β} {P : β → Prop} : Ok (bd0 x K) P ↔ Ok x (fun _ => Ok K P) := by
  cases x with
  | none => exact ⟨fun ⟨_, h, _⟩ => (by cases h), fun ⟨_, h, _⟩ => by cases h⟩
  | some a => exact ⟨fun h => ⟨a, rfl, h⟩, fun ⟨_, h, k⟩ => k⟩
theorem Ok_bd1 {α β : Type} {x : Option α} {K : α → Option β} {P : β → Prop} : Ok (bd1 x K) P ↔ Ok x (fun a => Ok (K a) P) := by
  cases x with
  | none => exact ⟨fun ⟨_, h, _⟩ => (by cases h), fun ⟨_, h, _⟩ => by cases h⟩
  | some a => exact ⟨fun h => ⟨a, rfl, h⟩, fun ⟨_, h, k⟩ => by cases h; exact k⟩
theorem Ok_bd2 {α γ β : Type} {x : Option (α × γ)} {K : α → γ → Option β} {P : β → Prop} : Ok (bd2 x K) P ↔ Ok x (fun a => Ok (K a.1 a.2) P) := by
  cases x with
  | none => exact ⟨fun ⟨_, h, _⟩ => (by cases h), fun ⟨_, h, _⟩ => by cases h⟩
  | some a => exact ⟨fun h => ⟨a, rfl, h⟩, fun ⟨_, h, k⟩ => by cases h; exact k⟩
theorem Ok_bd3 {α γ δ β : Type} {x : Option (α × γ × δ)} {K : α → γ → δ → Option β} {P : β → Prop} : Ok (bd3 x K) P ↔ Ok x (fun a => Ok (K a.1 a.2.1 a.2.2) P) := by
  cases x with
  | none => exact ⟨fun ⟨_, h, _⟩ => (by cases h), fun ⟨_, h, _⟩ => by cases h⟩
  | some a => exact ⟨fun h => ⟨a, rfl, h⟩, fun ⟨_, h, k⟩ => by cases h; exact k⟩
theorem Ok_bd4 {α γ δ ε β : Type} {x : Option (α × γ × δ × ε)} {K : α → γ → δ → ε → Option β} {P : β → Prop} : Ok (bd4 x K) P ↔ Ok x (fun a => Ok (K a.1 a.2.1 a.2.2.1 a.2.2.2) P) := by
  cases x with
  | none => exact ⟨fun ⟨_, h, _⟩ => (by cases h), fun ⟨_, h, _⟩ => by cases h⟩
  | some a => exact ⟨fun h => ⟨a, rfl, h⟩, fun ⟨_, h, k⟩ => by cases h; exact k⟩
theorem Ok_ck {α : Type} {i : Int32} {n : Nat} {K : Option α} {P : α → Prop} : Ok (ck i n K) P ↔ vp_in i n ∧ Ok K P := by
  unfold ck vp_in
  by_cases h : i < 0 ∨ n ≤ i.toNatClampNeg
  · rw [if_pos h]; exact ⟨fun ⟨_, h, _⟩ => (by cases h), fun h1 => absurd h h1.1⟩
  · rw [if_neg h]; exact ⟨fun k => ⟨h, k⟩, fun k => k.2⟩
theorem Ok_ckn {α : Type} {j n : Nat} {K : Option α} {P : α → Prop} : Ok (ckn j n K) P ↔ j < n ∧ Ok K P := by
  unfold ckn
  by_cases h : j < n
  · rw [if_pos h]; exact ⟨fun k => ⟨h, k⟩, fun k => k.2⟩
  · rw [if_neg h]; exact ⟨fun ⟨_, h, _⟩ => (by cases h), fun h1 => absurd h1.1 h⟩
theorem Ok_nz {α : Type} {i : Int32} {K : Option α} {P : α → Prop} : Ok (nz i K) P ↔ i ≠ 0 ∧ Ok K P := by
  unfold nz
  by_cases h : i = 0
  · rw [if_pos h]; exact ⟨fun ⟨_, h, _⟩ => (by cases h), fun h1 => absurd h h1.1⟩
  · rw [if_neg h]; exact ⟨fun k => ⟨h, k⟩, fun k => k.2⟩
theorem Ok_nzl {α : Type} {i : Int64} {K : Option α} {P : α → Prop} : Ok (nzl i K) P ↔ i ≠ 0 ∧ Ok K P := by
  unfold nzl
  by_cases h : i = 0
  · rw [if_pos h]; exact ⟨fun ⟨_, h, _⟩ => (by cases h), fun h1 => absurd h h1.1⟩
  · rw [if_neg h]; exact ⟨fun k => ⟨h, k⟩, fun k => k.2⟩
theorem Ok_zb {α : Type} {i : Int32} {K : Option α} {P : α → Prop} : Ok (zb i K) P ↔ (i = 0 ∨ i = 1) ∧ Ok K P := by
  unfold zb
  by_cases h : i = 0 ∨ i = 1
  · rw [if_pos h]; exact ⟨fun k => ⟨h, k⟩, fun k => k.2⟩
  · rw [if_neg h]; exact ⟨fun ⟨_, h, _⟩ => (by cases h), fun h1 => absurd h1.1 h⟩
theorem Ok_ite {α : Type} {c : Prop} [Decidable c] {a b : Option α} {P : α → Prop} : Ok (if c then a else b) P ↔ (c → Ok a P) ∧ (¬ c → Ok b P) := by
  by_cases h : c
  · rw [if_pos h]; exact ⟨fun k => ⟨fun _ => k, fun n => absurd h n⟩, fun k => k.1 h⟩
  · rw [if_neg h]; exact ⟨fun k => ⟨fun n => absurd n h, fun _ => k⟩, fun k => k.2 h⟩
theorem Ok.mono {α : Type} {o : Option α} {P Q : α → Prop} (h : Ok o P) (k : ∀ r, P r → Q r) : Ok o Q := by
  obtain ⟨r, e, p⟩ := h
  exact ⟨r, e, k r p⟩
theorem Ok_eq {α : Type} {o : Option α} {r : α} {P : α → Prop} (h : o = some r) : Ok o P ↔ P r := by rw [h]; exact Ok_some
theorem Ok.eq {α : Type} {o : Option α} {r : α} (h : Ok o (fun x => x = r)) : o = some r := by
  obtain ⟨x, e, rfl⟩ := h
  exact e
theorem ck_i {α : Type} {i : Int32} {n : Nat} {K : Option α} (h : vp_in i n) : ck i n K = K := if_neg h
theorem ckn_i {α : Type} {j n : Nat} {K : Option α} (h : j < n) : ckn j n K = K := if_pos h
theorem nz_i {α : Type} {i : Int32} {K : Option α} (h : ¬ i = 0) : nz i K = K := if_neg h
theorem nzl_i {α : Type} {i : Int64} {K : Option α} (h : ¬ i = 0) : nzl i K = K := if_neg h
theorem zb_i {α : Type} {i : Int32} {K : Option α} (h : i = 0 ∨ i = 1) : zb i K = K := if_pos h
theorem lt1_e {α β : Type} {v : α} {K : α → β} : lt1 v K = K v := rfl
theorem bd0_e {β : Type} {x : Option Unit} {K : Option β} {a : Unit} (h : x = some a) : bd0 x K = K := by rw [h]; rfl
theorem bd1_e {α β : Type} {x : Option α} {K : α → Option β} {a : α} (h : x = some a) : bd1 x K = K a := by rw [h]; rfl
theorem bd2_e {α γ β : Type} {x : Option (α × γ)} {K : α → γ → Option β} {a : α} {b : γ} (h : x = some (a, b)) : bd2 x K = K a b := by rw [h]; rfl
theorem bd3_e {α γ δ β : Type} {x : Option (α × γ × δ)} {K : α → γ → δ → Option β} {a : α} {b : γ} {c : δ} (h : x = some (a, b, c)) : bd3 x K = K a b c := by rw [h]; rfl
theorem bd4_e {α γ δ ε β : Type} {x : Option (α × γ × δ × ε)} {K : α → γ → δ → ε → Option β} {a : α} {b : γ} {c : δ} {d : ε} (h : x = some (a, b, c, d)) : bd4 x K = K a b c d := by rw [h]; rfl
theorem ckI {α : Type} {a n : Nat} {K : Option α} (h : a < n) (hn : n < 2 ^ 31) : ck (nI a) n K = K := if_neg (nI_in h hn)
/-! numbers -/
theorem nI_mul (a b : Nat) : nI a * nI b = nI (a * b) := (Int32.ofNat_mul a b).symm
theorem nI_sub {a b : Nat} (h : b ≤ a) : nI a - nI b = nI (a - b) := (Int32.ofNat_sub a b h).symm
theorem nI_div {a b : Nat} (ha : a < 2 ^ 31) (hb : b < 2 ^ 31) : nI a / nI b = nI (a / b) := by
  refine Int32.toInt_inj.mp ?_
  have h : a / b < 2 ^ 31 := Nat.lt_of_le_of_lt (Nat.div_le_self a b) ha
  rw [Int32.toInt_div_of_ne_right, nI_toInt ha, nI_toInt hb, nI_toInt h]
  · exact (Int.ofNat_tdiv a b).symm
  intro e
  have := congrArg Int32.toInt e
  rw [nI_toInt hb] at this
  have e2 : (-1 : Int32).toInt = -1 := by decide
  rw [e2] at this
  omega
theorem nI_rem {a b : Nat} (ha : a < 2 ^ 31) (hb : b < 2 ^ 31) : nI a - nI a / nI b * nI b = nI (a % b) := by
  rw [nI_div ha hb, nI_mul, nI_sub (Nat.div_mul_le_self a b)]
  congr 1
  have := Nat.div_add_mod' a b
  omega
theorem vp_in_I {a N : Nat} (h : a < 2 ^ 31) : vp_in (nI a) N ↔ a < N := by
  rw [vp_in_iff, nI_toInt h]
  omega
theorem nI_neg1 {a : Nat} (h : a < 2 ^ 31) : (nI a = -1) = False := by
  refine eq_false (fun e => ?_)
  have := congrArg Int32.toInt e
  rw [nI_toInt h] at this
  have e2 : (-1 : Int32).toInt = -1 := by decide
  omega
theorem nI_neg2 {a : Nat} (h : a < 2 ^ 31) : (nI a = -2) = False := by
  refine eq_false (fun e => ?_)
  have := congrArg Int32.toInt e
  rw [nI_toInt h] at this
  have e2 : (-2 : Int32).toInt = -2 := by decide
  omega
theorem nI_inj {a b : Nat} (e : nI a = nI b) (ha : a < 2 ^ 31) (hb : b < 2 ^ 31) : a = b := (nI_eq ha hb).mp e
theorem upd_at {f : Nat → Int32} {k : Nat} {x : Int32} : upd f k x k = x := if_pos rfl
theorem upd_ne {f : Nat → Int32} {k j : Nat} {x : Int32} (h : j ≠ k) : upd f k x j = f j := if_neg h
theorem upd_if {f : Nat → Int32} {k j : Nat} {x : Int32} : upd f k x j = if j = k then x else f j := rfl
theorem updL_if {f : Nat → Int64} {k j : Nat} {x : Int64} : vp_updL f k x j = if j = k then x else f j := rfl
theorem FU_e : FU = 100000 := rfl
theorem li_0 : (0 : Int32) = nI 0 := rfl
theorem li_1 : (1 : Int32) = nI 1 := rfl
theorem li_2 : (2 : Int32) = nI 2 := rfl
theorem li_3 : (3 : Int32) = nI 3 := rfl
theorem li_4 : (4 : Int32) = nI 4 := rfl
theorem li_5 : (5 : Int32) = nI 5 := rfl
theorem li_6 : (6 : Int32) = nI 6 := rfl
theorem li_7 : (7 : Int32) = nI 7 := rfl
theorem li_8 : (8 : Int32) = nI 8 := rfl
theorem li_9 : (9 : Int32) = nI 9 := rfl
theorem li_10 : (10 : Int32) = nI 10 := rfl
theorem li_11 : (11 : Int32) = nI 11 := rfl
theorem li_12 : (12 : Int32) = nI 12 := rfl
theorem li_13 : (13 : Int32) = nI 13 := rfl
theorem li_14 : (14 : Int32) = nI 14 := rfl
theorem li_15 : (15 : Int32) = nI 15 := rfl
theorem li_16 : (16 : Int32) = nI 16 := rfl
theorem li_20 : (20 : Int32) = nI 20 := rfl
theorem li_24 : (24 : Int32) = nI 24 := rfl
theorem li_31 : (31 : Int32) = nI 31 := rfl
theorem li_32 : (32 : Int32) = nI 32 := rfl
theorem li_47 : (47 : Int32) = nI 47 := rfl
theorem li_48 : (48 : Int32) = nI 48 := rfl
theorem li_57 : (57 : Int32) = nI 57 := rfl
theorem li_58 : (58 : Int32) = nI 58 := rfl
theorem li_59 : (59 : Int32) = nI 59 := rfl
theorem li_63 : (63 : Int32) = nI 63 := rfl
theorem li_64 : (64 : Int32) = nI 64 := rfl
theorem li_74 : (74 : Int32) = nI 74 := rfl
theorem li_75 : (75 : Int32) = nI 75 := rfl
theorem li_96 : (96 : Int32) = nI 96 := rfl
theorem li_97 : (97 : Int32) = nI 97 := rfl
theorem li_99 : (99 : Int32) = nI 99 := rfl
theorem li_100 : (100 : Int32) = nI 100 := rfl
theorem li_122 : (122 : Int32) = nI 122 := rfl
theorem li_196 : (196 : Int32) = nI 196 := rfl
theorem li_200 : (200 : Int32) = nI 200 := rfl
theorem li_255 : (255 : Int32) = nI 255 := rfl
theorem li_256 : (256 : Int32) = nI 256 := rfl
theorem li_900 : (900 : Int32) = nI 900 := rfl
theorem li_901 : (901 : Int32) = nI 901 := rfl
theorem li_1000 : (1000 : Int32) = nI 1000 := rfl
theorem li_1999 : (1999 : Int32) = nI 1999 := rfl
theorem li_2000 : (2000 : Int32) = nI 2000 := rfl
theorem li_4000 : (4000 : Int32) = nI 4000 := rfl
theorem li_4001 : (4001 : Int32) = nI 4001 := rfl
theorem li_8191 : (8191 : Int32) = nI 8191 := rfl
theorem li_8192 : (8192 : Int32) = nI 8192 := rfl
theorem li_16383 : (16383 : Int32) = nI 16383 := rfl
theorem li_16384 : (16384 : Int32) = nI 16384 := rfl
theorem li_65536 : (65536 : Int32) = nI 65536 := rfl
theorem li_65537 : (65537 : Int32) = nI 65537 := rfl
/-! four bits of a long -/
def nib (t : Int64) (s : Nat) : Nat := (t.toBitVec >>> (4 * s)).toNat % 16
theorem nib_lt (t : Int64) (s : Nat) : nib t s < 16 := Nat.mod_lt _ (by decide)
theorem nib_bit (t : Int64) (s i : Nat) (h : i < 4) : (nib t s).testBit i = t.toBitVec.getLsbD (4 * s + i) := by
  unfold nib
  have e : (16 : Nat) = 2 ^ 4 := rfl
  rw [e, Nat.testBit_mod_two_pow, BitVec.testBit_toNat, BitVec.getLsbD_ushiftRight]
  simp [h]
theorem nat16_ext {a b : Nat} (ha : a < 16) (hb : b < 16) (h : ∀ i, i < 4 → a.testBit i = b.testBit i) : a = b := by
  refine Nat.eq_of_testBit_eq (fun i => ?_)
  by_cases hi : i < 4
  · exact h i hi
  · have e : (16 : Nat) = 2 ^ 4 := rfl
    have h2 : (2 : Nat) ^ 4 ≤ 2 ^ i := Nat.pow_le_pow_right (by decide) (by omega)
    rw [Nat.testBit_lt_two_pow (by omega), Nat.testBit_lt_two_pow (by omega)]
theorem i64_ext {t u : Int64} (h : ∀ s, s < 16 → nib t s = nib u s) : t = u := by
  refine Int64.toBitVec_inj.mp (BitVec.eq_of_getLsbD_eq (fun j hj => ?_))
  have h1 := congrArg (fun z => Nat.testBit z (j % 4)) (h (j / 4) (by omega))
  simp only [nib_bit _ _ _ (Nat.mod_lt j (by decide : 0 < 4))] at h1
  rw [Nat.div_add_mod] at h1
  exact h1
