/-! the tape -/
theorem u_amt : ∀ s : Nat, s < 32 → ((Int32.toUInt32 (nI s)) &&& Int32.toUInt32 31).toBitVec % 32 = BitVec.ofNat 32 s := by decide +kernel
theorem iushr_bv (v : Int32) (s : Nat) (h : s < 32) : ((Int32.toUInt32 v >>> (Int32.toUInt32 (nI s) &&& Int32.toUInt32 31)).toInt32).toBitVec = v.toBitVec >>> s := by
  show (Int32.toUInt32 v >>> (Int32.toUInt32 (nI s) &&& Int32.toUInt32 31)).toBitVec = _
  rw [UInt32.toBitVec_shiftRight, u_amt s h, BitVec.ushiftRight_eq', BitVec.toNat_ofNat, Nat.mod_eq_of_lt (by omega)]
  rfl
theorem bit_255 (z : Nat) : bitB (255 : Int32) z = decide (z < 8) := by
  have e : (255 : Int32).toBitVec = BitVec.ofNat 32 (2 ^ 8 - 1) := rfl
  unfold bitB
  rw [e, BitVec.getLsbD_ofNat, Nat.testBit_two_pow_sub_one]
  by_cases h : z < 8
  · simp [h]; omega
  · simp [h]
def byt (v : Int32) (k : Nat) : Int32 := ((Int32.toUInt32 v >>> (Int32.toUInt32 (nI (24 - 8 * k)) &&& Int32.toUInt32 31)).toInt32) &&& (255 : Int32)
def rby (v : Int32) (k : Nat) : Int32 := vp_nar .byte ((Int32.toInt8 (v >>> (nI (24 - 8 * k) &&& 31))).toInt32)
theorem byt_e (v : Int32) (k : Nat) : rby v k &&& 255 = byt v k := by
  unfold rby byt
  refine i32_ext (fun z hz => ?_)
  rw [bit_and, bit_and, bit_255, vp_nar_byte]
  by_cases h : z < 8
  · have h1 : bitB ((Int32.toInt8 ((Int32.toInt8 (v >>> (nI (24 - 8 * k) &&& 31))).toInt32)).toInt32) z = v.toBitVec.getLsbD (24 - 8 * k + z) := by
      unfold bitB
      rw [Int8.toBitVec_toInt32, Int32.toBitVec_toInt8, Int8.toBitVec_toInt32, Int32.toBitVec_toInt8, ishr_bv v _ (by omega)]
      simp only [BitVec.getLsbD_signExtend, BitVec.getLsbD_sshiftRight]
      have h3 : 24 - 8 * k + z < 32 := by omega
      simp [h, hz, h3]
    have h2 : bitB ((Int32.toUInt32 v >>> (Int32.toUInt32 (nI (24 - 8 * k)) &&& Int32.toUInt32 31)).toInt32) z = v.toBitVec.getLsbD (24 - 8 * k + z) := by
      unfold bitB
      rw [iushr_bv v _ (by omega), BitVec.getLsbD_ushiftRight]
    rw [h1, h2]
  · simp [h]
theorem and255 (x : Int32) : ∃ b, b < 256 ∧ x &&& 255 = nI b := by
  refine ⟨x.toBitVec.toNat % 256, Nat.mod_lt _ (by decide), Int32.toBitVec_inj.mp (BitVec.eq_of_toNat_eq ?_)⟩
  have e : (255 : Int32).toBitVec = BitVec.ofNat 32 255 := rfl
  rw [Int32.toBitVec_and, BitVec.toNat_and, e, BitVec.toNat_ofNat]
  have e2 : (255 : Nat) % 2 ^ 32 = 2 ^ 8 - 1 := by decide
  rw [e2, Nat.and_two_pow_sub_one_eq_mod]
  show _ = (BitVec.ofNat 32 (x.toBitVec.toNat % 256)).toNat
  rw [BitVec.toNat_ofNat, Nat.mod_eq_of_lt (show x.toBitVec.toNat % 256 < 2 ^ 32 by omega)]
def TP (ta : TaS) (md : MdS) : Prop := ∃ n, n ≤ 900 ∧ Ta_filled ta = nI n ∧ Md_taped md = nI n ∧ ∀ i, i < 900 → Md_tape md i &&& 255 = Ta_bytes ta i
section FEEDF
variable {ta : TaS} {md : MdS}
theorem take_step {f a : Nat} {v x2 : Int32} (hf : Ta_filled ta = nI a) (ha : a < 900) (hx : ¬ x2 < 0) : f_X8_take_L3 (f + 1) v x2 ta = f_X8_take_L3 f v (x2 + (-8 : Int32)) (Ta_filled' (Ta_bytes' ta (upd (Ta_bytes ta) a (((Int32.toUInt32 v >>> (Int32.toUInt32 x2 &&& Int32.toUInt32 31)).toInt32) &&& (255 : Int32)))) (nI (a + 1))) := by
  have q : ¬ (nI 900 ≤ nI a) := nI_ge ha (by omega)
  rw [f_X8_take_L3, if_neg hx, hf, if_neg (show ¬ ((900 : Int32) ≤ nI a) from q), ckI ha (by decide), nI_clamp (by omega), lt1_e, lt1_e, lt1_e]
  rw [show Ta_filled (Ta_bytes' ta (upd (Ta_bytes ta) a (((Int32.toUInt32 v >>> (Int32.toUInt32 x2 &&& Int32.toUInt32 31)).toInt32) &&& (255 : Int32)))) = nI a from hf, nI_1]
theorem take_e {a : Nat} (v : Int32) (hf : Ta_filled ta = nI a) (ha : a + 4 ≤ 900) : Ok (f_X8_take ta v) (fun ta' => Ta_filled ta' = nI (a + 4) ∧ (∀ i, Ta_bytes ta' i = if a ≤ i ∧ i < a + 4 then byt v (i - a) else Ta_bytes ta i) ∧ Ta_words ta' = Ta_words ta) := by
  have hF : FU = 99995 + 1 + 1 + 1 + 1 + 1 := rfl
  unfold f_X8_take
  rw [hF, take_step hf (by omega) (by decide), take_step (a := a + 1) rfl (by omega) (by decide), take_step (a := a + 2) rfl (by omega) (by decide), take_step (a := a + 3) rfl (by omega) (by decide), f_X8_take_L3, if_pos (by decide), Ok_some]
  refine ⟨rfl, fun i => ?_, rfl⟩
  show upd (upd (upd (upd (Ta_bytes ta) a (byt v 0)) (a + 1) (byt v 1)) (a + 2) (byt v 2)) (a + 3) (byt v 3) i = _
  simp only [upd_if]
  by_cases c : a ≤ i ∧ i < a + 4
  · rw [if_pos c]
    have hc : i = a ∨ i = a + 1 ∨ i = a + 2 ∨ i = a + 3 := by omega
    rcases hc with rfl | rfl | rfl | rfl
    · rw [if_neg (by omega), if_neg (by omega), if_neg (by omega), if_pos rfl, Nat.sub_self]
    · rw [if_neg (by omega), if_neg (by omega), if_pos rfl, show a + 1 - a = 1 by omega]
    · rw [if_neg (by omega), if_pos rfl, show a + 2 - a = 2 by omega]
    · rw [if_pos rfl, show a + 3 - a = 3 by omega]
  · rw [if_neg c, if_neg (by omega), if_neg (by omega), if_neg (by omega), if_neg (by omega)]
def wsel (a b c d e : Int32) (k : Nat) : Int32 := if k < 4 then a else if k < 8 then b else if k < 12 then c else if k < 16 then d else e
def tpf (a b c d e : Int32) (T k : Nat) (f : Nat → Int32) : Nat → Int32 := fun i => if T ≤ i ∧ i < T + k then rby (wsel a b c d e (i - T)) ((i - T) % 4) else f i
theorem rfeed_L {a b c d e : Int32} {T : Nat} (hT : T + 20 ≤ 900) {md0 : MdS} :
    ∀ rem n k, k + rem = 20 → rem < n → f_X13_feed_L23 n a b c d e (nI k) (Md_taped' (Md_tape' md0 (tpf a b c d e T k (Md_tape md0))) (nI (T + k))) = some (nI (T + 20), Md_taped' (Md_tape' md0 (tpf a b c d e T 20 (Md_tape md0))) (nI (T + 20))) := by
  intro rem
  induction rem with
  | zero =>
    intro n k hk hn
    cases n with
    | zero => omega
    | succ n =>
      have ek : k = 20 := by omega
      subst ek
      rw [f_X13_feed_L23, if_pos (by decide)]
      rfl
  | succ rem ih =>
    intro n k hk hn
    cases n with
    | zero => omega
    | succ n =>
      have q : ¬ (nI 20 ≤ nI k) := nI_ge (by omega) (by omega)
      have step : ∀ w, w = wsel a b c d e k → f_X13_feed_L76 a b c d e (nI k) w (Md_taped' (Md_tape' md0 (tpf a b c d e T k (Md_tape md0))) (nI (T + k))) (fun y0 y1 y2 y3 y4 y5 y6 => f_X13_feed_L23 n y0 y1 y2 y3 y4 y5 y6) = some (nI (T + 20), Md_taped' (Md_tape' md0 (tpf a b c d e T 20 (Md_tape md0))) (nI (T + 20))) := by
        intro w hw
        unfold f_X13_feed_L76
        have e1 : Md_taped (Md_taped' (Md_tape' md0 (tpf a b c d e T k (Md_tape md0))) (nI (T + k))) = nI (T + k) := rfl
        have e2 : Md_tape (Md_taped' (Md_tape' md0 (tpf a b c d e T k (Md_tape md0))) (nI (T + k))) = tpf a b c d e T k (Md_tape md0) := rfl
        have e3 : (24 : Int32) - (8 : Int32) * (nI k - nI k / (4 : Int32) * (4 : Int32)) = nI (24 - 8 * (k % 4)) := by
          rw [li_24, li_8, li_4, nI_rem (by omega) (by omega), nI_mul, nI_sub (by omega)]
        have e4 : upd (tpf a b c d e T k (Md_tape md0)) (T + k) (rby w (k % 4)) = tpf a b c d e T (k + 1) (Md_tape md0) := by
          funext i
          unfold tpf
          rw [upd_if]
          by_cases c1 : i = T + k
          · rw [if_pos c1, if_pos (by omega), c1, show T + k - T = k by omega, hw]
          · rw [if_neg c1]
            by_cases c2 : T ≤ i ∧ i < T + k
            · rw [if_pos c2, if_pos (by omega)]
            · rw [if_neg c2, if_neg (by omega)]
        rw [e1, e2, e3, ckI (by omega) (by decide), nI_clamp (by omega), lt1_e, lt1_e, lt1_e, nI_1]
        have e5 : Md_taped' (Md_tape' (Md_taped' (Md_tape' md0 (tpf a b c d e T k (Md_tape md0))) (nI (T + k))) (upd (tpf a b c d e T k (Md_tape md0)) (T + k) (vp_nar .byte ((Int32.toInt8 (w >>> (nI (24 - 8 * (k % 4)) &&& 31))).toInt32)))) (Md_taped (Md_tape' (Md_taped' (Md_tape' md0 (tpf a b c d e T k (Md_tape md0))) (nI (T + k))) (upd (tpf a b c d e T k (Md_tape md0)) (T + k) (vp_nar .byte ((Int32.toInt8 (w >>> (nI (24 - 8 * (k % 4)) &&& 31))).toInt32)))) + 1) = Md_taped' (Md_tape' md0 (tpf a b c d e T (k + 1) (Md_tape md0))) (nI (T + (k + 1))) := by
          rw [show Md_taped (Md_tape' (Md_taped' (Md_tape' md0 (tpf a b c d e T k (Md_tape md0))) (nI (T + k))) (upd (tpf a b c d e T k (Md_tape md0)) (T + k) (vp_nar .byte ((Int32.toInt8 (w >>> (nI (24 - 8 * (k % 4)) &&& 31))).toInt32)))) = nI (T + k) from rfl, nI_1, ← e4]
          rfl
        rw [e5]
        exact ih n (k + 1) (by omega) (by omega)
      rw [f_X13_feed_L23, if_neg (show ¬ ((20 : Int32) ≤ nI k) from q)]
      by_cases c1 : 4 ≤ k
      · have q1 : nI 4 ≤ nI k := nI_le c1 (by omega)
        rw [if_pos (show (4 : Int32) ≤ nI k from q1)]
        by_cases c2 : 8 ≤ k
        · have q2 : nI 8 ≤ nI k := nI_le c2 (by omega)
          rw [if_pos (show (8 : Int32) ≤ nI k from q2)]
          by_cases c3 : 12 ≤ k
          · have q3 : nI 12 ≤ nI k := nI_le c3 (by omega)
            rw [if_pos (show (12 : Int32) ≤ nI k from q3)]
            by_cases c4 : 16 ≤ k
            · have q4 : nI 16 ≤ nI k := nI_le c4 (by omega)
              rw [if_pos (show (16 : Int32) ≤ nI k from q4)]
              exact step e (by unfold wsel; rw [if_neg (by omega), if_neg (by omega), if_neg (by omega), if_neg (by omega)])
            · have q4 : ¬ (nI 16 ≤ nI k) := nI_ge (by omega) (by omega)
              rw [if_neg (show ¬ ((16 : Int32) ≤ nI k) from q4)]
              exact step d (by unfold wsel; rw [if_neg (by omega), if_neg (by omega), if_neg (by omega), if_pos (by omega)])
          · have q3 : ¬ (nI 12 ≤ nI k) := nI_ge (by omega) (by omega)
            rw [if_neg (show ¬ ((12 : Int32) ≤ nI k) from q3)]
            exact step c (by unfold wsel; rw [if_neg (by omega), if_neg (by omega), if_pos (by omega)])
        · have q2 : ¬ (nI 8 ≤ nI k) := nI_ge (by omega) (by omega)
          rw [if_neg (show ¬ ((8 : Int32) ≤ nI k) from q2)]
          exact step b (by unfold wsel; rw [if_neg (by omega), if_pos (by omega)])
      · have q1 : ¬ (nI 4 ≤ nI k) := nI_ge (by omega) (by omega)
        rw [if_neg (show ¬ ((4 : Int32) ≤ nI k) from q1)]
        exact step a (by unfold wsel; rw [if_pos (by omega)])
/-- what feed leaves as it was -/
def FD (md md' : MdS) : Prop := ∃ f k, md' = Md_taped' (Md_tape' (Md_thrown' md 0) f) k
theorem a_feed (h : TP ta md) (a b c d e : Int32) : Ok (f_X13_feed md a b c d e) (fun q => Ok (f_X11_feed ta a b c d e) (fun r => r.1 = q.1 ∧ TP r.2 q.2 ∧ Ta_words r.2 = Ta_words ta ∧ FD md q.2)) := by
  obtain ⟨n, hn, h1, h2, h3⟩ := h
  unfold f_X13_feed f_X11_feed f_X8_hasRoom
  have e2 : Md_taped (Md_thrown' md 0) = nI n := h2
  rw [lt1_e, h1, e2, li_20, nI_add]
  by_cases c0 : n + 20 ≤ 900
  · have q1 : nI (n + 20) ≤ nI 900 := nI_le c0 (by omega)
    have q2 : ¬ (nI 900 < nI (n + 20)) := nI_nlt c0 (by omega)
    have e0 : Md_taped' (Md_tape' (Md_thrown' md 0) (tpf a b c d e n 0 (Md_tape (Md_thrown' md 0)))) (nI (n + 0)) = Md_thrown' md 0 := by
      have t0 : tpf a b c d e n 0 (Md_tape (Md_thrown' md 0)) = Md_tape (Md_thrown' md 0) := by
        funext i; unfold tpf; rw [if_neg (by omega)]
      rw [t0, Nat.add_zero, ← e2]
      rfl
    have hr := rfeed_L (a := a) (b := b) (c := c) (d := d) (e := e) (T := n) c0 (md0 := Md_thrown' md 0) 20 FU 0 (by omega) (by rw [FU_e]; omega)
    rw [e0] at hr
    rw [if_pos (show nI (n + 20) ≤ (900 : Int32) from q1), show f_X13_feed_L23 FU a b c d e (0 : Int32) (Md_thrown' md 0) = _ from hr, Ok_some, if_neg (show ¬ ((900 : Int32) < nI (n + 20)) from q2), bd1_e rfl, if_neg (show ¬ ((1 : Int32) = 0) by decide), Ok_bd1]
    refine (take_e a h1 (by omega)).mono (fun t1 g1 => ?_)
    rw [Ok_bd1]
    refine (take_e b g1.1 (by omega)).mono (fun t2 g2 => ?_)
    rw [Ok_bd1]
    refine (take_e c g2.1 (by omega)).mono (fun t3 g3 => ?_)
    rw [Ok_bd1]
    refine (take_e d g3.1 (by omega)).mono (fun t4 g4 => ?_)
    rw [Ok_bd1]
    refine (take_e e g4.1 (by omega)).mono (fun t5 g5 => ?_)
    rw [Ok_some]
    have ef : Ta_filled t5 = nI (n + 20) := g5.1
    refine ⟨ef, ⟨n + 20, c0, ef, rfl, fun i hi => ?_⟩, ?_, ⟨_, _, rfl⟩⟩
    · show tpf a b c d e n 20 (Md_tape (Md_thrown' md 0)) i &&& 255 = Ta_bytes t5 i
      have h3' : Md_tape (Md_thrown' md 0) i &&& 255 = Ta_bytes ta i := h3 i hi
      rw [g5.2.1 i, g4.2.1 i, g3.2.1 i, g2.2.1 i, g1.2.1 i]
      unfold tpf
      by_cases c1 : n ≤ i ∧ i < n + 20
      · rw [if_pos c1, byt_e]
        unfold wsel
        by_cases d5 : n + 4 + 4 + 4 + 4 ≤ i
        · rw [if_pos (show n + 4 + 4 + 4 + 4 ≤ i ∧ i < n + 4 + 4 + 4 + 4 + 4 by omega), if_neg (by omega), if_neg (by omega), if_neg (by omega), if_neg (by omega)]
          congr 1; omega
        · rw [if_neg (show ¬ (n + 4 + 4 + 4 + 4 ≤ i ∧ i < n + 4 + 4 + 4 + 4 + 4) by omega)]
          by_cases d4 : n + 4 + 4 + 4 ≤ i
          · rw [if_pos (show n + 4 + 4 + 4 ≤ i ∧ i < n + 4 + 4 + 4 + 4 by omega), if_neg (by omega), if_neg (by omega), if_neg (by omega), if_pos (by omega)]
            congr 1; omega
          · rw [if_neg (show ¬ (n + 4 + 4 + 4 ≤ i ∧ i < n + 4 + 4 + 4 + 4) by omega)]
            by_cases d3 : n + 4 + 4 ≤ i
            · rw [if_pos (show n + 4 + 4 ≤ i ∧ i < n + 4 + 4 + 4 by omega), if_neg (by omega), if_neg (by omega), if_pos (by omega)]
              congr 1; omega
            · rw [if_neg (show ¬ (n + 4 + 4 ≤ i ∧ i < n + 4 + 4 + 4) by omega)]
              by_cases d2 : n + 4 ≤ i
              · rw [if_pos (show n + 4 ≤ i ∧ i < n + 4 + 4 by omega), if_neg (by omega), if_pos (by omega)]
                congr 1; omega
              · rw [if_neg (show ¬ (n + 4 ≤ i ∧ i < n + 4 + 4) by omega), if_pos (show n ≤ i ∧ i < n + 4 by omega), if_pos (by omega)]
                congr 1; omega
      · rw [if_neg c1, if_neg (by omega), if_neg (by omega), if_neg (by omega), if_neg (by omega), if_neg (by omega)]
        exact h3'
    · rw [g5.2.2, g4.2.2, g3.2.2, g2.2.2, g1.2.2]
  · have q1 : ¬ (nI (n + 20) ≤ nI 900) := nI_ge (by omega) (by omega)
    have q2 : nI 900 < nI (n + 20) := nI_lt (by omega) (by omega)
    rw [if_neg (show ¬ (nI (n + 20) ≤ (900 : Int32)) from q1), Ok_some, if_pos (show (900 : Int32) < nI (n + 20) from q2), bd1_e rfl, if_pos rfl, Ok_some]
    refine ⟨rfl, ⟨n, hn, h1, h2, h3⟩, rfl, ⟨Md_tape (Md_thrown' md 0), Md_taped (Md_thrown' md 0), rfl⟩⟩
end FEEDF
