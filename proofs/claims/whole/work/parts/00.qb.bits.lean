/-! bits of an int -/
def bitB (v : Int32) (y : Nat) : Bool := v.toBitVec.getLsbD y
theorem i_amt : ∀ y : Nat, y < 32 → (nI y &&& 31).toBitVec.smod 32 = BitVec.ofNat 32 y := by decide +kernel
theorem ishl_bv (v : Int32) (y : Nat) (h : y < 32) : (v <<< (nI y &&& 31)).toBitVec = v.toBitVec <<< y := by
  have e := Int32.toBitVec_shiftLeft v (nI y &&& 31)
  rw [e, i_amt y h, BitVec.shiftLeft_eq', BitVec.toNat_ofNat, Nat.mod_eq_of_lt (by omega)]
theorem ishr_bv (v : Int32) (y : Nat) (h : y < 32) : (v >>> (nI y &&& 31)).toBitVec = v.toBitVec.sshiftRight y := by
  have e := Int32.toBitVec_shiftRight v (nI y &&& 31)
  rw [e, i_amt y h, BitVec.sshiftRight_eq', BitVec.toNat_ofNat, Nat.mod_eq_of_lt (by omega)]
theorem one_bit (j : Nat) : (1 : Int32).toBitVec.getLsbD j = decide (j = 0) := by
  have e : (1 : Int32).toBitVec = 1#32 := rfl
  rw [e, BitVec.getLsbD_one]
  simp
theorem bit_one (y z : Nat) (hy : y < 32) (hz : z < 32) : bitB ((1 : Int32) <<< (nI y &&& 31)) z = decide (z = y) := by
  unfold bitB
  rw [ishl_bv _ _ hy, BitVec.getLsbD_shiftLeft, one_bit]
  by_cases h : z = y
  · subst h; simp [hz]
  · by_cases h2 : z < y
    · simp [h2, h]
    · simp [h2, h, hz]; omega
theorem bit_or (a b : Int32) (z : Nat) : bitB (a ||| b) z = (bitB a z || bitB b z) := by unfold bitB; rw [Int32.toBitVec_or, BitVec.getLsbD_or]
theorem bit_and (a b : Int32) (z : Nat) : bitB (a &&& b) z = (bitB a z && bitB b z) := by unfold bitB; rw [Int32.toBitVec_and, BitVec.getLsbD_and]
theorem bit_xor (a b : Int32) (z : Nat) : bitB (a ^^^ b) z = (bitB a z ^^ bitB b z) := by unfold bitB; rw [Int32.toBitVec_xor, BitVec.getLsbD_xor]
theorem bit_m1 (z : Nat) (h : z < 32) : bitB (-1) z = true := by
  unfold bitB
  have e : (-1 : Int32).toBitVec = BitVec.allOnes 32 := by decide
  rw [e, BitVec.getLsbD_allOnes]
  simp [h]
theorem bit_0 (z : Nat) : bitB 0 z = false := by
  unfold bitB
  have e : (0 : Int32).toBitVec = 0#32 := rfl
  rw [e]; simp
theorem i32_0 {v : Int32} (h : ∀ z, z < 32 → bitB v z = false) : v = 0 := by
  refine Int32.toBitVec_inj.mp (BitVec.eq_of_getLsbD_eq (fun j hj => ?_))
  have := h j hj
  unfold bitB at this
  rw [this]
  have e : (0 : Int32).toBitVec = 0#32 := rfl
  rw [e]; simp
theorem i32_ext {v w : Int32} (h : ∀ z, z < 32 → bitB v z = bitB w z) : v = w := Int32.toBitVec_inj.mp (BitVec.eq_of_getLsbD_eq (fun j hj => h j hj))
theorem shr_1 (v : Int32) (y : Nat) (h : y < 32) : (v >>> (nI y &&& 31)) &&& 1 = bI (bitB v y) := by
  refine i32_ext (fun z hz => ?_)
  rw [bit_and]
  have e1 : bitB (1 : Int32) z = decide (z = 0) := one_bit z
  have e2 : bitB (bI (bitB v y)) z = (bitB v y && decide (z = 0)) := by
    cases bitB v y
    · show bitB 0 z = _
      rw [bit_0]; rfl
    · show bitB 1 z = _
      rw [e1]; rfl
  rw [e1, e2]
  by_cases h0 : z = 0
  · subst h0
    unfold bitB
    rw [ishr_bv _ _ h, BitVec.getLsbD_sshiftRight]
    simp [h]
  · simp [h0]
theorem has_e (v : Int32) (y : Nat) (h : y < 32) : f_X0_has v (nI y) = some (bI (bitB v y)) := by
  unfold f_X0_has
  rw [shr_1 v y h]
  cases bitB v y
  · rw [if_pos (by rfl)]; rfl
  · rw [if_neg (by decide)]; rfl
theorem n_and1 : ∀ p : Nat, p < 32 → nI p &&& 1 = nI (p % 2) := by decide +kernel
/-! which passes are beside each other, as bits -/
def BB (bo : BoS) (X : Nat) (P : Nat → Nat → Prop) : Prop := ∀ x y, x < X → y < X → (bitB (Bo_overByOver bo x) y = true ↔ P (2 * x + 1) (2 * y + 1)) ∧ (bitB (Bo_overByUnder bo x) y = true ↔ P (2 * x) (2 * y + 1)) ∧ (bitB (Bo_underByUnder bo x) y = true ↔ P (2 * x) (2 * y))
def addP (P : Nat → Nat → Prop) (p q : Nat) : Nat → Nat → Prop := fun a b => P a b ∨ (a = p ∧ b = q) ∨ (a = q ∧ b = p)
def bcore (bo : BoS) : BoS := (Bo_key bo, Bo_plus bo, Bo_parted bo, Bo_left bo, Bo_standing bo, Bo_walk bo, Bo_walkStart bo, (fun _ => (0 : Int32)), (fun _ => (0 : Int32)), (fun _ => (0 : Int32)), Bo_numbers bo, Bo_count bo)
theorem upd_or (f : Nat → Int32) (k x y z : Nat) (hx : x < 32) (hz : z < 32) : bitB (upd f k (f k ||| ((1 : Int32) <<< (nI x &&& 31))) y) z = true ↔ bitB (f y) z = true ∨ (y = k ∧ z = x) := by
  by_cases h : y = k
  · subst h
    rw [upd_at, bit_or, bit_one _ _ hx hz]
    simp
  · rw [upd_ne h]
    simp [h]
theorem join_e {bo : BoS} {X p q : Nat} {P : Nat → Nat → Prop} (hX : X ≤ 7) (hB : BB bo X P) (hp : p < 2 * X) (hq : q < 2 * X) : Ok (f_X0_join bo (nI p) (nI q)) (fun bo' => BB bo' X (addP P p q) ∧ bcore bo' = bcore bo) := by
  unfold f_X0_join f_X0_join_L20 f_X0_join_L33 f_X0_join_L74 f_X0_join_L113
  rw [lt1_e, lt1_e, li_2, nI_div (by omega) (by omega), nI_div (by omega) (by omega), li_1, show nI p &&& nI 1 = nI (p % 2) from n_and1 p (by omega), show nI q &&& nI 1 = nI (q % 2) from n_and1 q (by omega), ← li_1]
  have cx : p / 2 < 10 := by omega
  have cy : q / 2 < 10 := by omega
  simp only [ckI cx (show 10 < 2 ^ 31 by decide), ckI cy (show 10 < 2 ^ 31 by decide), nI_clamp (show p / 2 < 2 ^ 31 by omega), nI_clamp (show q / 2 < 2 ^ 31 by omega), lt1_e]
  have ep : p % 2 = 0 ∨ p % 2 = 1 := by omega
  have eq : q % 2 = 0 ∨ q % 2 = 1 := by omega
  rcases ep with ep | ep <;> rcases eq with eq | eq
  · rw [ep, eq, if_pos (by decide), if_pos (by decide), if_pos (by decide), if_pos (by decide), if_pos (by decide), Ok_some]
    refine ⟨fun x y hx hy => ⟨?_, ?_, ?_⟩, rfl⟩
    · show bitB (Bo_overByOver bo x) y = true ↔ _
      rw [(hB x y hx hy).1]; exact ⟨Or.inl, fun h => h.elim id (fun h => by omega)⟩
    · show bitB (Bo_overByUnder bo x) y = true ↔ _
      rw [(hB x y hx hy).2.1]; exact ⟨Or.inl, fun h => h.elim id (fun h => by omega)⟩
    · show bitB (upd (upd (Bo_underByUnder bo) (p / 2) (Bo_underByUnder bo (p / 2) ||| ((1 : Int32) <<< (nI (q / 2) &&& 31)))) (q / 2) ((upd (Bo_underByUnder bo) (p / 2) (Bo_underByUnder bo (p / 2) ||| ((1 : Int32) <<< (nI (q / 2) &&& 31)))) (q / 2) ||| ((1 : Int32) <<< (nI (p / 2) &&& 31))) x) y = true ↔ _
      rw [upd_or _ _ _ _ _ (by omega) (by omega), upd_or _ _ _ _ _ (by omega) (by omega), (hB x y hx hy).2.2]; rw [or_assoc]; exact or_congr Iff.rfl (by omega)
  · rw [ep, eq, if_pos (by decide), if_neg (by decide), if_pos (by decide), if_pos (by decide), if_neg (by decide), if_pos (by decide), Ok_some]
    refine ⟨fun x y hx hy => ⟨?_, ?_, ?_⟩, rfl⟩
    · show bitB (Bo_overByOver bo x) y = true ↔ _
      rw [(hB x y hx hy).1]; exact ⟨Or.inl, fun h => h.elim id (fun h => by omega)⟩
    · show bitB (upd (Bo_overByUnder bo) (p / 2) (Bo_overByUnder bo (p / 2) ||| ((1 : Int32) <<< (nI (q / 2) &&& 31))) x) y = true ↔ _
      rw [upd_or _ _ _ _ _ (by omega) (by omega), (hB x y hx hy).2.1]; exact or_congr Iff.rfl (by omega)
    · show bitB (Bo_underByUnder bo x) y = true ↔ _
      rw [(hB x y hx hy).2.2]; exact ⟨Or.inl, fun h => h.elim id (fun h => by omega)⟩
  · rw [ep, eq, if_neg (by decide), if_pos (by decide), if_neg (by decide), if_pos (by decide), if_neg (by decide), if_neg (by decide), Ok_some]
    refine ⟨fun x y hx hy => ⟨?_, ?_, ?_⟩, rfl⟩
    · show bitB (Bo_overByOver bo x) y = true ↔ _
      rw [(hB x y hx hy).1]; exact ⟨Or.inl, fun h => h.elim id (fun h => by omega)⟩
    · show bitB (upd (Bo_overByUnder bo) (q / 2) (Bo_overByUnder bo (q / 2) ||| ((1 : Int32) <<< (nI (p / 2) &&& 31))) x) y = true ↔ _
      rw [upd_or _ _ _ _ _ (by omega) (by omega), (hB x y hx hy).2.1]; exact or_congr Iff.rfl (by omega)
    · show bitB (Bo_underByUnder bo x) y = true ↔ _
      rw [(hB x y hx hy).2.2]; exact ⟨Or.inl, fun h => h.elim id (fun h => by omega)⟩
  · rw [ep, eq, if_neg (by decide), if_neg (by decide), if_neg (by decide), if_neg (by decide), Ok_some]
    refine ⟨fun x y hx hy => ⟨?_, ?_, ?_⟩, rfl⟩
    · show bitB (upd (upd (Bo_overByOver bo) (p / 2) (Bo_overByOver bo (p / 2) ||| ((1 : Int32) <<< (nI (q / 2) &&& 31)))) (q / 2) ((upd (Bo_overByOver bo) (p / 2) (Bo_overByOver bo (p / 2) ||| ((1 : Int32) <<< (nI (q / 2) &&& 31)))) (q / 2) ||| ((1 : Int32) <<< (nI (p / 2) &&& 31))) x) y = true ↔ _
      rw [upd_or _ _ _ _ _ (by omega) (by omega), upd_or _ _ _ _ _ (by omega) (by omega), (hB x y hx hy).1]; rw [or_assoc]; exact or_congr Iff.rfl (by omega)
    · show bitB (Bo_overByUnder bo x) y = true ↔ _
      rw [(hB x y hx hy).2.1]; exact ⟨Or.inl, fun h => h.elim id (fun h => by omega)⟩
    · show bitB (Bo_underByUnder bo x) y = true ↔ _
      rw [(hB x y hx hy).2.2]; exact ⟨Or.inl, fun h => h.elim id (fun h => by omega)⟩
