theorem sh_amt : ∀ s : Nat, s < 16 → ((Int32.toInt64 ((4 : Int32) * nI s)) &&& 63).toBitVec.smod 64 = BitVec.ofNat 64 (4 * s) := by decide +kernel
theorem sh_amtU : ∀ s : Nat, s < 16 → ((Int32.toInt64 ((4 : Int32) * nI s)).toUInt64 &&& Int64.toUInt64 63).toBitVec % 64 = BitVec.ofNat 64 (4 * s) := by decide +kernel
theorem shl_bv (v : Int64) (s : Nat) (h : s < 16) : (v <<< (Int32.toInt64 ((4 : Int32) * nI s) &&& 63)).toBitVec = v.toBitVec <<< (4 * s) := by
  have e := Int64.toBitVec_shiftLeft v (Int32.toInt64 ((4 : Int32) * nI s) &&& 63)
  rw [e, sh_amt s h, BitVec.shiftLeft_eq', BitVec.toNat_ofNat, Nat.mod_eq_of_lt (by omega)]
theorem shr_bv (v : Int64) (s : Nat) (h : s < 16) : (v >>> (Int32.toInt64 ((4 : Int32) * nI s) &&& 63)).toBitVec = v.toBitVec.sshiftRight (4 * s) := by
  have e := Int64.toBitVec_shiftRight v (Int32.toInt64 ((4 : Int32) * nI s) &&& 63)
  rw [e, sh_amt s h, BitVec.sshiftRight_eq', BitVec.toNat_ofNat, Nat.mod_eq_of_lt (by omega)]
theorem ushr_bv (v : Int64) (s : Nat) (h : s < 16) : ((Int64.toUInt64 v >>> ((Int32.toInt64 ((4 : Int32) * nI s)).toUInt64 &&& Int64.toUInt64 63)).toInt64).toBitVec = v.toBitVec >>> (4 * s) := by
  show (Int64.toUInt64 v >>> ((Int32.toInt64 ((4 : Int32) * nI s)).toUInt64 &&& Int64.toUInt64 63)).toBitVec = _
  rw [UInt64.toBitVec_shiftRight, sh_amtU s h, BitVec.ushiftRight_eq', BitVec.toNat_ofNat, Nat.mod_eq_of_lt (by omega)]
  rfl
theorem and15 (x : BitVec 64) : ((x &&& (15 : Int64).toBitVec).signExtend 32).toNat = x.toNat % 16 := by
  have e : (15 : Int64).toBitVec = BitVec.ofNat 64 15 := rfl
  rw [e, BitVec.signExtend_eq_setWidth_of_le _ (by decide), BitVec.toNat_setWidth, BitVec.toNat_and, BitVec.toNat_ofNat]
  have e2 : (15 : Nat) % 2 ^ 64 = 2 ^ 4 - 1 := by decide
  rw [e2, Nat.and_two_pow_sub_one_eq_mod]
  omega
theorem i32_of {x : Int64} {n : Nat} (h : (x.toBitVec.signExtend 32).toNat = n) : Int64.toInt32 x = nI n := by
  refine Int32.toBitVec_inj.mp ?_
  rw [Int64.toBitVec_toInt32]
  refine BitVec.eq_of_toNat_eq ?_
  rw [h]
  show n = (BitVec.ofNat 32 n).toNat
  rw [BitVec.toNat_ofNat, ← h, Nat.mod_eq_of_lt (BitVec.isLt _)]
theorem at_e (t : Int64) (s : Nat) (h : s < 16) : f_X13_at t (nI s) = some (nI (nib t s)) := by
  unfold f_X13_at
  refine congrArg some (i32_of ?_)
  rw [Int64.toBitVec_and, shr_bv t s h, and15]
  refine nat16_ext (Nat.mod_lt _ (by decide)) (nib_lt _ _) (fun i hi => ?_)
  rw [nib_bit _ _ _ hi]
  have e : (16 : Nat) = 2 ^ 4 := rfl
  rw [e, Nat.testBit_mod_two_pow, BitVec.testBit_toNat, BitVec.getLsbD_sshiftRight]
  simp [hi, show 4 * s + i < 64 by omega]
  intro _; omega
theorem passAt_e (t : Int64) (s : Nat) (h : s < 16) : f_X4_passAt t (nI s) = some (if nib t s = 0 then -1 else nI (nib t s - 1)) := by
  unfold f_X4_passAt
  refine congrArg some ?_
  have e : Int64.toInt32 (((Int64.toUInt64 t >>> ((Int32.toInt64 ((4 : Int32) * nI s)).toUInt64 &&& Int64.toUInt64 63)).toInt64) &&& (15 : Int64)) = nI (nib t s) := by
    refine i32_of ?_
    rw [Int64.toBitVec_and, ushr_bv t s h, and15]
    rfl
  rw [e]
  by_cases h0 : nib t s = 0
  · rw [if_pos h0, h0]; rfl
  · rw [if_neg h0, li_1, nI_sub (by omega)]
/-- nibble by nibble -/
theorem nib_of {t : Int64} {s v : Nat} (hv : v < 16) (h : ∀ i, i < 4 → t.toBitVec.getLsbD (4 * s + i) = v.testBit i) : nib t s = v :=
  nat16_ext (nib_lt _ _) hv (fun i hi => by rw [nib_bit _ _ _ hi, h i hi])
theorem nI_toInt64_bit (v : Nat) (h : v < 16) (j : Nat) : (Int32.toInt64 (nI v)).toBitVec.getLsbD j = v.testBit j := by
  have e : (Int32.toInt64 (nI v)).toBitVec = BitVec.ofNat 64 v := by
    rw [nI_l (by omega)]
    rfl
  rw [e, BitVec.getLsbD_ofNat]
  by_cases hj : j < 64
  · simp [hj]
  · have h2 : (2 : Nat) ^ 4 ≤ 2 ^ j := Nat.pow_le_pow_right (by decide) (by omega)
    simp [hj]
    rw [Nat.testBit_lt_two_pow (by omega)]
theorem m15_bit (j : Nat) : (15 : Int64).toBitVec.getLsbD j = decide (j < 4) := by
  have e : (15 : Int64).toBitVec = BitVec.ofNat 64 (2 ^ 4 - 1) := rfl
  rw [e, BitVec.getLsbD_ofNat, Nat.testBit_two_pow_sub_one]
  by_cases h : j < 4
  · simp [h]; omega
  · simp [h]
theorem neg1_bit (j : Nat) (h : j < 64) : (-1 : Int64).toBitVec.getLsbD j = true := by
  have e : (-1 : Int64).toBitVec = BitVec.allOnes 64 := by decide
  rw [e, BitVec.getLsbD_allOnes]
  simp [h]
theorem Int64.bit_and (a b : Int64) (j : Nat) : (a &&& b).toBitVec.getLsbD j = (a.toBitVec.getLsbD j && b.toBitVec.getLsbD j) := by rw [Int64.toBitVec_and, BitVec.getLsbD_and]
theorem Int64.bit_or (a b : Int64) (j : Nat) : (a ||| b).toBitVec.getLsbD j = (a.toBitVec.getLsbD j || b.toBitVec.getLsbD j) := by rw [Int64.toBitVec_or, BitVec.getLsbD_or]
theorem Int64.bit_xor (a b : Int64) (j : Nat) : (a ^^^ b).toBitVec.getLsbD j = (a.toBitVec.getLsbD j ^^ b.toBitVec.getLsbD j) := by rw [Int64.toBitVec_xor, BitVec.getLsbD_xor]
theorem shl_bit (v : Int64) (s j : Nat) (h : s < 16) (hj : j < 64) : (v <<< (Int32.toInt64 ((4 : Int32) * nI s) &&& 63)).toBitVec.getLsbD j = (decide (4 * s ≤ j) && v.toBitVec.getLsbD (j - 4 * s)) := by
  rw [shl_bv v s h, BitVec.getLsbD_shiftLeft]
  by_cases hc : j < 4 * s
  · simp [hc, hj]
    intro; omega
  · simp [hc, hj, show 4 * s ≤ j by omega]
/-- a long with another nibble -/
def wth (t : Int64) (s v : Nat) : Int64 := (t &&& (((15 : Int64) <<< (Int32.toInt64 ((4 : Int32) * nI s) &&& 63)) ^^^ (-1 : Int64))) ||| ((Int32.toInt64 (nI v)) <<< (Int32.toInt64 ((4 : Int32) * nI s) &&& 63))
theorem with_e (t : Int64) (s v : Nat) : f_X13_with t (nI s) (nI v) = some (wth t s v) := rfl
theorem nib_wth (t : Int64) (s v s' : Nat) (hs : s < 16) (hs' : s' < 16) (hv : v < 16) : nib (wth t s v) s' = if s' = s then v else nib t s' := by
  unfold wth
  by_cases e : s' = s
  · subst e
    rw [if_pos rfl]
    refine nib_of hv (fun i hi => ?_)
    rw [Int64.bit_or, Int64.bit_and, Int64.bit_xor, shl_bit _ _ _ hs (by omega), shl_bit _ _ _ hs (by omega), neg1_bit _ (by omega), m15_bit, nI_toInt64_bit v hv]
    simp [hi, show 4 * s' + i - 4 * s' = i by omega]
  · rw [if_neg e]
    refine nib_of (nib_lt _ _) (fun i hi => ?_)
    rw [Int64.bit_or, Int64.bit_and, Int64.bit_xor, shl_bit _ _ _ hs (by omega), shl_bit _ _ _ hs (by omega), neg1_bit _ (by omega), m15_bit, nI_toInt64_bit v hv, nib_bit _ _ _ hi]
    by_cases hc : 4 * s ≤ 4 * s' + i
    · have h4 : 4 ≤ 4 * s' + i - 4 * s := by omega
      have hb : v.testBit (4 * s' + i - 4 * s) = false := by
        have h2 : (2 : Nat) ^ 4 ≤ 2 ^ (4 * s' + i - 4 * s) := Nat.pow_le_pow_right (by decide) h4
        exact Nat.testBit_lt_two_pow (by omega)
      simp [hc, hb, show ¬ (4 * s' + i - 4 * s < 4) by omega]
    · simp [hc]
theorem nib_and (a b : Int64) (s : Nat) : nib (a &&& b) s = nib a s &&& nib b s := by
  refine nib_of (Nat.lt_of_le_of_lt Nat.and_le_left (nib_lt _ _)) (fun i hi => ?_)
  rw [Int64.bit_and, Nat.testBit_and, nib_bit _ _ _ hi, nib_bit _ _ _ hi]
theorem nib_or (a b : Int64) (s : Nat) : nib (a ||| b) s = nib a s ||| nib b s := by
  refine nib_of (Nat.or_lt_two_pow (n := 4) (nib_lt _ _) (nib_lt _ _)) (fun i hi => ?_)
  rw [Int64.bit_or, Nat.testBit_or, nib_bit _ _ _ hi, nib_bit _ _ _ hi]
theorem nib_xor (a b : Int64) (s : Nat) : nib (a ^^^ b) s = nib a s ^^^ nib b s := by
  refine nib_of (Nat.xor_lt_two_pow (n := 4) (nib_lt _ _) (nib_lt _ _)) (fun i hi => ?_)
  rw [Int64.bit_xor, Nat.testBit_xor, nib_bit _ _ _ hi, nib_bit _ _ _ hi]
theorem nib_neg1 : ∀ s : Nat, s < 16 → nib (-1) s = 15 := by decide +kernel
theorem nib_0 (s : Nat) : nib 0 s = 0 := by
  refine nib_of (by decide) (fun i hi => ?_)
  have e : (0 : Int64).toBitVec = 0#64 := rfl
  rw [e]
  simp
theorem nib_shl (v s s' : Nat) (hv : v < 16) (hs : s < 16) (hs' : s' < 16) : nib ((Int32.toInt64 (nI v)) <<< (Int32.toInt64 ((4 : Int32) * nI s) &&& 63)) s' = if s' = s then v else 0 := by
  have h := nib_wth 0 s v s' hs hs' hv
  unfold wth at h
  rw [Int64.zero_and, Int64.zero_or, nib_0] at h
  exact h
theorem nib_15 (s s' : Nat) (hs : s < 16) (hs' : s' < 16) : nib ((15 : Int64) <<< (Int32.toInt64 ((4 : Int32) * nI s) &&& 63)) s' = if s' = s then 15 else 0 := nib_shl 15 s s' (by decide) hs hs'
theorem i64_0 {t : Int64} : t = 0 ↔ ∀ s, s < 16 → nib t s = 0 := ⟨fun h s _ => by rw [h, nib_0], fun h => i64_ext (fun s hs => by rw [h s hs, nib_0])⟩
theorem n16_clr : ∀ a : Nat, a < 16 → a &&& (15 ^^^ 15) = 0 ∧ a &&& (0 ^^^ 15) = a := by decide +kernel
