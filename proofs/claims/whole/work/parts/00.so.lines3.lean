section LINES3
variable {b : Nat → Nat} {n : Nat} {ps : List Nat} {ta : TaS} {re : ReS} {md md' md0 : MdS} {p : Nat} {to : ToS} {rd : TnS} {P L X : Nat}
theorem heldL (hT : TB to rd P L X) {u v : Int32} : ∀ f g i, L - i < f → L - i < g → i ≤ L → ∃ w, f_X9_areHeld_L2 f u v (nI i) to = some w ∧ f_X13_isHeld_L2 g u v (nI i) rd = some w ∧ (w = 0 ∨ w = 1) := by
  obtain ⟨⟨hP8, hL8, hX7⟩, n1, n2, n3, n4, n5, n6, n7⟩ := hT.1
  have hl := hT.2.2.2.2.1.1
  intro f
  induction f with
  | zero => intro g i h; omega
  | succ f ih =>
    intro g i hf hg hi
    cases g with
    | zero => omega
    | succ g =>
      rw [f_X9_areHeld_L2, f_X13_isHeld_L2, n3, n4]
      by_cases c : i = L
      · have q : nI L ≤ nI i := nI_le (by omega) (by omega)
        exact ⟨0, by rw [if_pos q], by rw [if_pos q], Or.inl rfl⟩
      · have q : ¬ (nI L ≤ nI i) := nI_ge (by omega) (by omega)
        obtain ⟨x, y, ⟨g1, g2, g3⟩, ⟨g4, g5⟩, ⟨g6, g7, g8, g9⟩, _⟩ := hl i (by omega)
        obtain ⟨w, w1, w2, w3⟩ := ih g (i + 1) (by omega) (by omega) (by omega)
        rw [if_neg q, if_neg q, i2, nI_1, ckI (show 2 * i < 16 by omega) (by decide), lt1_e, ckI (show 2 * i + 1 < 16 by omega) (by decide), lt1_e, nI_clamp (show 2 * i < 2 ^ 31 by omega), nI_clamp (show 2 * i + 1 < 2 ^ 31 by omega), g4, g5, li_2, nI_div (by omega) (by omega), nI_div (by omega) (by omega), ckI (show i < 8 by omega) (by decide), ckI (show i < 8 by omega) (by decide), nI_clamp (show i < 2 ^ 31 by omega), g6, g8]
        unfold f_X9_areHeld_L48 f_X9_areHeld_L62 f_X13_isHeld_L39 f_X13_isHeld_L67
        rw [lt1_e, lt1_e, nI_1, ckI (show i < 8 by omega) (by decide), ckI (show i < 8 by omega) (by decide), nI_clamp (show i < 2 ^ 31 by omega), g6, g8]
        by_cases c1 : nI (x / 2) = u
        · rw [if_pos c1, if_pos c1]
          by_cases c2 : nI (y / 2) = v
          · exact ⟨1, by rw [if_pos c2], by rw [if_pos c2], Or.inr rfl⟩
          · rw [if_neg c2, if_neg c2]
            by_cases c3 : nI (x / 2) = v
            · rw [if_pos c3, if_pos c3]
              by_cases c4 : nI (y / 2) = u
              · exact ⟨1, by rw [if_pos c4], by rw [if_pos c4], Or.inr rfl⟩
              · rw [if_neg c4, if_neg c4]; exact ⟨w, w1, w2, w3⟩
            · rw [if_neg c3, if_neg c3]; exact ⟨w, w1, w2, w3⟩
        · rw [if_neg c1, if_neg c1]
          by_cases c3 : nI (x / 2) = v
          · rw [if_pos c3, if_pos c3]
            by_cases c4 : nI (y / 2) = u
            · exact ⟨1, by rw [if_pos c4], by rw [if_pos c4], Or.inr rfl⟩
            · rw [if_neg c4, if_neg c4]; exact ⟨w, w1, w2, w3⟩
          · rw [if_neg c3, if_neg c3]; exact ⟨w, w1, w2, w3⟩
theorem held_eq (hT : TB to rd P L X) (u v : Int32) : ∃ w, f_X9_areHeld to u v = some w ∧ f_X13_isHeld rd u v = some w ∧ (w = 0 ∨ w = 1) := by
  have := hT.1.1
  exact heldL hT FU FU 0 (by rw [FU_e]; omega) (by rw [FU_e]; omega) (by omega)
/-- the end of a hold: the other hand -/
theorem hold_end (hX : TX b n ps ta) (hT : TB to rd P L X) (hz : TBz rd) (hb : To_begun to = 1) (hL : L < 8) (h : PAt b n ps re md p) (hk : tkK b n p = 1) (hsc : Sc md0 md) {w : Int64} (hw : ∀ k, k < P + L → Tn_name rd k ≠ w) {x y d : Nat} (hx : x < P) (hy : y < P) (hd : d < 2) (hxy : x ≠ y) (fx : To_linkIn to (2 * x + d) = -1) :
    Ok (f_X13_readHold_L81 w (nI x) (nI d) (nI y) md rd) (fun r => Ok (f_X5_readsHold_L112 w (nI (2 * x + d)) (nI y) re to ta) (fun c => (c.1 = 1 ∧ LB b n ps md0 c.2.1 c.2.2 r.1 r.2) ∨ (c.1 = 0 ∧ BADQ md0 c.2.1 r.1))) := by
  obtain ⟨⟨hP8, hL8, hX7⟩, n1, n2, n3, n4, n5, n6, n7⟩ := hT.1
  unfold f_X13_readHold_L81 f_X5_readsHold_L112
  rw [Ok_bd1]
  refine (step_e hX h (by omega) (by omega)).mono (fun md1 h1 => ?_)
  obtain ⟨pm1, q1, hq1⟩ := h1
  rw [Ok_bd2]
  refine (hand_c hX hT hq1 (hsc.trans pm1.1) hy).mono (fun r hr => ?_)
  obtain ⟨c, c0, hc⟩ := hr
  rw [bd2_e (a := c.1) (b := c.2) c0]
  rcases hc with ⟨e1, ⟨e, he, e2, e3, e4⟩, ⟨q2, hq2⟩, pm2⟩ | ⟨e1, hbd⟩
  · rw [e1, if_neg (show ¬ ((1 : Int32) = 0) by decide), if_neg hq2.at.n5, lt1_e, n4, e2, e3, Ok_bd1]
    refine (names_e n7 (by omega) w 1 (nI L)).mono (fun rd6 h6 => ?_)
    obtain ⟨g1, g2, g3, g4, ⟨g5, g6⟩, ⟨g7, g8, g9, g10⟩, ⟨g11, g12, g13, g14, g15⟩, gx, gz⟩ := h6
    have q8 : ¬ (nI 8 ≤ nI L) := nI_ge (by omega) (by omega)
    have hnd : ∀ z, z < 16 → f_X9_isHand (nI z) = some 1 := by
      intro z hz
      have q0 : ¬ (nI z < nI 0) := nI_nlt (by omega) (by omega)
      have q1 : ¬ (nI 16 ≤ nI z) := nI_ge hz (by omega)
      unfold f_X9_isHand
      rw [if_neg (show ¬ (nI z < 0) from q0), if_neg (show ¬ ((16 : Int32) ≤ nI z) from q1)]
    simp only [lt1_e, GT_one, GT_oneHand, GT_two, GT_twoHand, GT_linkOf, g8, n4, i2, nI_add, nI_1, ckI (show L < 8 by omega) (show 8 < 2 ^ 31 by decide), ckI (show 2 * x + d < 16 by omega) (show 16 < 2 ^ 31 by decide), ckI (show 2 * y + e < 16 by omega) (show 16 < 2 ^ 31 by decide), nI_clamp (show L < 2 ^ 31 by omega), nI_clamp (show 2 * x + d < 2 ^ 31 by omega), nI_clamp (show 2 * y + e < 2 ^ 31 by omega)]
    rw [Ok_some]
    unfold f_X9_addLink
    rw [n3, if_neg (show ¬ ((8 : Int32) ≤ nI L) from q8), bd1_e (hnd (2 * x + d) (by omega)), if_neg (show ¬ ((1 : Int32) = 0) by decide), bd1_e (hnd (2 * y + e) (by omega)), if_neg (show ¬ ((1 : Int32) = 0) by decide)]
    simp only [lt1_e, GO_linkNames, GO_handAt, GO_linkIn, n3, i2, nI_1, ckI (show L < 8 by omega) (show 8 < 2 ^ 31 by decide), ckI (show 2 * L < 16 by omega) (show 16 < 2 ^ 31 by decide), ckI (show 2 * L + 1 < 16 by omega) (show 16 < 2 ^ 31 by decide), ckI (show 2 * x + d < 16 by omega) (show 16 < 2 ^ 31 by decide), ckI (show 2 * y + e < 16 by omega) (show 16 < 2 ^ 31 by decide), nI_clamp (show L < 2 ^ 31 by omega), nI_clamp (show 2 * L < 2 ^ 31 by omega), nI_clamp (show 2 * L + 1 < 2 ^ 31 by omega), nI_clamp (show 2 * x + d < 2 ^ 31 by omega), nI_clamp (show 2 * y + e < 2 ^ 31 by omega)]
    rw [bd1_e rfl, Ok_some]
    refine Or.inl ⟨rfl, P, L + 1, X, q2, ?_, ?_, ?_, hq2, (hsc.trans pm1.1).trans pm2.1⟩
    · have x1 : (2 * x + d) / 2 = x := by omega
      have x2 : (2 * x + d) % 2 = d := by omega
      have y1 : (2 * y + e) / 2 = y := by omega
      have y2 : (2 * y + e) % 2 = e := by omega
      refine hT.hold hL hb hw (x := 2 * x + d) (y := 2 * y + e) (by omega) (by omega) (by omega) fx e4 ⟨?_, ?_, ?_⟩ ⟨?_, ?_⟩ ⟨?_, ?_, ?_, ?_, ?_, ?_, ?_, ?_⟩ ⟨?_, ?_, ?_, ?_⟩ ⟨?_, ?_, ?_, ?_, ?_, ?_, ?_, ?_⟩ ⟨?_, ?_, ?_, ?_, ?_⟩ ⟨?_, ?_, ?_, ?_, ?_, ?_⟩
      all_goals simp only [GO_links, GO_linkIn, GO_handAt, GO_linkNames, GT_links, GT_linkOf, GT_one, GT_oneHand, GT_two, GT_twoHand, g1, g2, g3, g4, g5, g6, g7, g8, g9, g10, g11, g12, g13, g14, g15, gx, x1, x2, y1, y2]
    · unfold TBz
      simp only [GT_links, GT_linkOf, GT_one, GT_oneHand, GT_two, GT_twoHand, gz, hz.1, hz.2.1, hz.2.2, and_self]
    · simp only [GO_links, GO_linkIn, GO_handAt, GO_linkNames, hb]
  · rw [e1, if_pos rfl, if_pos hbd.s5, Ok_some, Ok_some]
    exact Or.inr ⟨rfl, hbd⟩
theorem line_hold (hX : TX b n ps ta) (hT : TB to rd P L X) (hz : TBz rd) (hb : To_begun to = 1) (h : PAt b n ps re md p) (hk : tkK b n p = 1) (hsc : Sc md0 md) :
    Ok (f_X13_readHold md rd) (fun r => Ok (f_X5_readsHold re ta to) (fun c => (c.1 = 1 ∧ LB b n ps md0 c.2.1 c.2.2 r.1 r.2) ∨ (c.1 = 0 ∧ BADQ md0 c.2.1 r.1))) := by
  obtain ⟨⟨hP8, hL8, hX7⟩, n1, n2, n3, n4, n5, n6, n7⟩ := hT.1
  have honce := hT.2.1.2.1
  unfold f_X5_readsHold
  rw [n3]
  by_cases c8 : L = 8
  · have q : ¬ (nI L < nI 8) := nI_nlt (by omega) (by omega)
    rw [if_neg (show ¬ (nI L < (8 : Int32)) from q)]
    obtain ⟨md', e0, c, c0, c1, c2⟩ := bad_e hX h hsc 5 (k := 5) rfl (by omega) (by omega)
    rw [ov_hold hT (begins_5 (by rw [n4, c8]; rfl) e0 c2.s5) c2.s5, Ok_some, bd2_e (a := c.1) (b := c.2) c0, c1, zb_i (Or.inl rfl), Ok_some]
    exact Or.inr ⟨rfl, c2⟩
  · have q : nI L < nI 8 := nI_lt (by omega) (by omega)
    have qn : ¬ (Tn_links rd = 8) := by rw [n4]; exact fun e => c8 (nI_inj (b := 8) e (by omega) (by omega))
    rw [if_pos (show nI L < (8 : Int32) from q)]
    unfold f_X13_readHold
    rw [begins_g qn (hT.hgt hb), Ok_bd1, Ok_bd1]
    refine (step_e hX h (by omega) (by omega)).mono (fun md1 h1 => ?_)
    obtain ⟨pm1, q1, hq1⟩ := h1
    have sc1 := hsc.trans pm1.1
    rw [Ok_some, Ok_bd2]
    refine (fresh_c hX hT hq1 sc1).mono (fun r hr => ?_)
    obtain ⟨c, c0, hc⟩ := hr
    rw [bd2_e (a := c.1) (b := c.2) c0]
    rcases hc with ⟨e1, e2, ⟨⟨q2, hq2⟩, pm2⟩, e3⟩ | ⟨e1, hbd⟩
    · have sc2 := sc1.trans pm2.1
      rw [e1, if_neg (show ¬ ((1 : Int32) = 0) by decide), lt1_e, e2, Ok_bd2]
      refine (person_c hX hT hq2 sc2).mono (fun s hs => ?_)
      obtain ⟨d, d0, hd⟩ := hs
      rw [bd2_e (a := d.1) (b := d.2) d0]
      rcases hd with ⟨f1, ⟨x, hx, f2, f3⟩, f4, f5, f6⟩ | ⟨f1, hbd, f2⟩
      · rw [f1, if_neg (show ¬ ((1 : Int32) = 0) by decide), lt1_e, f2, f3, f4, Ok_bd1]
        refine (step_e hX f5 (by omega) (by omega)).mono (fun md3 h3 => ?_)
        obtain ⟨pm3, q3, hq3⟩ := h3
        have sc3 := sc2.trans pm3.1
        rw [Ok_bd2]
        refine (hand_c hX hT hq3 sc3 hx).mono (fun s4 hs4 => ?_)
        obtain ⟨d4, d40, hd4⟩ := hs4
        rw [bd2_e (a := d4.1) (b := d4.2) d40]
        rcases hd4 with ⟨k1, ⟨d', hd', k2, k3, k4⟩, ⟨q4, hq4⟩, pm4⟩ | ⟨k1, hbd⟩
        · have sc4 := sc3.trans pm4.1
          rw [k1, if_neg (show ¬ ((1 : Int32) = 0) by decide), lt1_e, k2, k3, Ok_bd2]
          refine (person_c hX hT hq4 sc4).mono (fun s5 hs5 => ?_)
          obtain ⟨d5, d50, hd5⟩ := hs5
          rw [bd2_e (a := d5.1) (b := d5.2) d50]
          rcases hd5 with ⟨m1, ⟨y, hy, m2, m3⟩, m4, m5, m6⟩ | ⟨m1, hbd, m2⟩
          · rw [m1, if_neg (show ¬ ((1 : Int32) = 0) by decide), lt1_e, m2, m3, m4, if_neg hq4.at.n5]
            have again : Ok (f_X13_readHold_L76 r.1 (nI x) (nI d') (nI y) s4.2 rd) (fun r => Ok (f_X5_readsHold_L106 d5.2 to ta) (fun c => (c.1 = 1 ∧ LB b n ps md0 c.2.1 c.2.2 r.1 r.2) ∨ (c.1 = 0 ∧ BADQ md0 c.2.1 r.1))) := by
              unfold f_X13_readHold_L76 f_X5_readsHold_L106 f_X13_readHold_L81
              rw [Ok_bd1]
              refine (bad_e hX m5 sc4 3 (k := 3) rfl (by omega) (by omega)).mono (fun md' h1 => ?_)
              obtain ⟨c, c0, c1, c2⟩ := h1
              rw [bd1_e (ov_goes c2.s5), bd2_e (ov_hand c2.s5 _), if_pos c2.s5, Ok_some, bd2_e (a := c.1) (b := c.2) c0, c1, zb_i (Or.inl rfl), Ok_some]
              exact Or.inr ⟨rfl, c2⟩
            by_cases exy : x = y
            · rw [if_pos (by rw [exy]), if_pos (by rw [exy])]
              exact again
            · have nxy : ¬ (nI x = nI y) := fun e => exy (nI_inj e (by omega) (by omega))
              have nyx : ¬ (nI y = nI x) := fun e => exy (nI_inj e (by omega) (by omega)).symm
              have fin := hold_end hX hT hz hb (by omega) m5 m6 sc4 e3 hx hy hd' exy k4
              rw [if_neg nxy, if_neg nyx, honce]
              by_cases co : Tn_once rd = 0
              · rw [if_pos co, if_pos co]; exact fin
              · rw [if_neg co, if_neg co]
                obtain ⟨w, w1, w2, w3⟩ := held_eq hT (nI x) (nI y)
                rw [bd1_e w2, bd1_e w1]
                rcases w3 with rfl | rfl
                · rw [if_pos rfl, if_pos rfl]; exact fin
                · rw [if_neg (show ¬ ((1 : Int32) = 0) by decide), if_neg (show ¬ ((1 : Int32) = 0) by decide)]; exact again
          · unfold f_X13_readHold_L81
            rw [m1, if_pos rfl, if_pos hbd.s5, bd1_e (ov_goes hbd.s5), bd2_e (ov_hand hbd.s5 _), if_pos hbd.s5, Ok_some, Ok_some]
            exact Or.inr ⟨rfl, hbd⟩
        · unfold f_X13_readHold_L81
          rw [k1, if_pos rfl, bd2_e (ov_known hT hbd.s5 0), if_pos hbd.s5, bd1_e (ov_goes hbd.s5), bd2_e (ov_hand hbd.s5 _), if_pos hbd.s5, Ok_some, Ok_some]
          exact Or.inr ⟨rfl, hbd⟩
      · unfold f_X13_readHold_L81
        rw [f1, if_pos rfl, bd1_e (ov_goes hbd.s5), bd2_e (ov_hand hbd.s5 _), bd2_e (ov_known hT hbd.s5 0), if_pos hbd.s5, bd1_e (ov_goes hbd.s5), bd2_e (ov_hand hbd.s5 _), if_pos hbd.s5, Ok_some, Ok_some]
        exact Or.inr ⟨rfl, hbd⟩
    · unfold f_X13_readHold_L81
      rw [e1, if_pos rfl, bd2_e (ov_known hT hbd.s5 0), bd1_e (ov_goes hbd.s5), bd2_e (ov_hand hbd.s5 _), bd2_e (ov_known hT hbd.s5 0), if_pos hbd.s5, bd1_e (ov_goes hbd.s5), bd2_e (ov_hand hbd.s5 _), if_pos hbd.s5, Ok_some, Ok_some]
      exact Or.inr ⟨rfl, hbd⟩
end LINES3
