section LIST2
variable {ri : RiS} {tn : TnS} {pt : Option Nat} {t : Int64} {lf : Int32} {bo0 : BoS}
theorem bB_f {b : Bool} {P : Prop} (h : b = true ↔ P) (n : ¬ P) : b = false := by
  cases b with
  | false => rfl
  | true => exact absurd (h.mp rfl) n
theorem slips_e (hT : TW tn) (hG : GB tn pt lf t bo0) {x : Nat} (hx : x < nX tn) {bo : BoS} (hg : gcore bo = gcore bo0) : ∃ w, f_X0_slipsWith bo (nI x) = some w ∧ ∀ y, y < nX tn → (bitB w y = true ↔ BES tn pt t (2 * x + 1) (2 * y + 1) ∧ BES tn pt t (2 * x) (2 * y) ∧ sgnk tn lf x ≠ sgnk tn lf y) := by
  have h7 := hT.x7
  have hG := hG.of hg
  unfold f_X0_slipsWith f_X0_slipsWith_L24
  rw [bd1_e (has_e _ _ (by omega)), ckI (by omega) (by omega), ckI (by omega) (by omega), ckI (by omega) (by omega), ckI (by omega) (by omega), nI_clamp (by omega)]
  have sg := fun z (hz : z < nX tn) => (sgn_e (lf := lf) hT hz).2
  have pl := hG.2.2
  have hne : (1 : Int32) ≠ -1 := by decide
  cases hb : bitB (Bo_plus bo) x with
  | false =>
    refine ⟨_, if_pos (by rfl), fun y hy => ?_⟩
    rw [bit_and, bit_and, Bool.and_eq_true, Bool.and_eq_true, (hG.2.1 x y hx hy).1, (hG.2.1 x y hx hy).2.2, pl y hy, and_assoc]
    refine and_congr Iff.rfl (and_congr Iff.rfl ?_)
    have hx1 : ¬ sgnk tn lf x = 1 := fun h => by rw [(pl x hx).mpr h] at hb; cases hb
    have hx2 := (sg x hx).resolve_left hx1
    rcases sg y hy with h | h
    · rw [h, hx2]; exact ⟨fun _ e => hne e.symm, fun _ => rfl⟩
    · rw [h, hx2]; exact ⟨fun e => absurd e.symm hne, fun e => absurd rfl e⟩
  | true =>
    refine ⟨_, if_neg (by decide), fun y hy => ?_⟩
    rw [bit_and, bit_and, bit_xor, bit_m1 _ (by omega), Bool.and_eq_true, Bool.and_eq_true, (hG.2.1 x y hx hy).1, (hG.2.1 x y hx hy).2.2, and_assoc]
    refine and_congr Iff.rfl (and_congr Iff.rfl ?_)
    have hx1 := (pl x hx).mp hb
    have : ((bitB (Bo_plus bo) y ^^ true) = true) ↔ ¬ bitB (Bo_plus bo) y = true := by cases bitB (Bo_plus bo) y <;> simp
    rw [this, pl y hy, hx1]
    exact ⟨fun h e => h e.symm, fun h e => h e.symm⟩
theorem slips_L (hT : TW tn) (hC : CW tn t) (hR : TR ri tn) (hG : GB tn pt lf t bo0) {x : Nat} {w : Int32} (hw : ∀ y, y < nX tn → (bitB w y = true ↔ BES tn pt t (2 * x + 1) (2 * y + 1) ∧ BES tn pt t (2 * x) (2 * y) ∧ sgnk tn lf x ≠ sgnk tn lf y)) :
    ∀ n y pre rest bo, nX tn - y < n → x < y → y ≤ nX tn → LI tn pt lf t bo0 bo pre → pre ++ (CFs (nX tn) x y ++ rest) = CF (nX tn) → Ok (f_X0_listSlips_L10 n (nI x) w (nI y) bo ri) (fun bo' => LI tn pt lf t bo0 bo' (pre ++ CFs (nX tn) x y)) := by
  have h7 := hT.x7
  intro n
  induction n with
  | zero => intro y pre rest bo h; omega
  | succ n ih =>
    intro y pre rest bo hn hxy hy hL hr
    rw [f_X0_listSlips_L10, hR.X]
    by_cases h0 : w = 0
    · rw [if_pos h0, Ok_some]
      unfold LI
      rw [Fm_none (fun m hm => ?_)]
      · exact hL
      · unfold CFs at hm
        obtain ⟨z, hz, rfl⟩ := List.mem_map.mp hm
        have hz := List.mem_range'_1.mp hz
        refine bB_f (may1 hT (by omega) (by omega)) (fun h => ?_)
        have := (hw z (by omega)).mpr h.1
        rw [h0, bit_0] at this
        cases this
    · rw [if_neg h0]
      by_cases hyX : y = nX tn
      · rw [if_pos (by rw [hyX]; exact nI_le (Nat.le_refl _) (by omega)), Ok_some]
        have : CFs (nX tn) x y = [] := by unfold CFs; rw [r_nil (by omega)]; rfl
        rw [this, List.append_nil]
        exact hL
      · have hy2 : y < nX tn := by omega
        have ec : CFs (nX tn) x y = (100 + 10 * x + y) :: CFs (nX tn) x (y + 1) := by unfold CFs; rw [r_cons hy2]; rfl
        rw [ec] at hr ⊢
        rw [if_neg (nI_ge hy2 (by omega)), bd1_e (has_e _ _ (by omega))]
        have next : ∀ bo', LI tn pt lf t bo0 bo' (pre ++ [100 + 10 * x + y]) → Ok (f_X0_listSlips_L55 (nI x) w (nI y) bo' ri (fun y0 y1 y2 y3 y4 => f_X0_listSlips_L10 n y0 y1 y2 y3 y4)) (fun bo' => LI tn pt lf t bo0 bo' (pre ++ (100 + 10 * x + y) :: CFs (nX tn) x (y + 1))) := by
          intro bo' hL'
          unfold f_X0_listSlips_L55
          rw [lt1_e, nI_1]
          have q := ih (y + 1) (pre ++ [100 + 10 * x + y]) rest bo' (by omega) (by omega) (by omega) hL' (by rw [← hr]; simp)
          rw [List.append_assoc] at q
          exact q
        have off : ¬ mayB tn pt lf t (100 + 10 * x + y) = true → LI tn pt lf t bo0 bo (pre ++ [100 + 10 * x + y]) := fun h => by
          unfold LI
          rw [Fm_f (by simpa using h)]
          exact hL
        have hm := may1 (pt := pt) (lf := lf) (t := t) hT hxy hy2
        cases hb : bitB w y with
        | false =>
          rw [if_pos (by rfl)]
          exact next bo (off (fun h => by rw [(hw y hy2).mpr (hm.mp h).1] at hb; cases hb))
        | true =>
          have hc := (hw y hy2).mp hb
          rw [if_neg (by decide), bd1_e (fits_e hT hC hR (hG.of hL.2) (by omega) hy2 hc.2.1.lv.1 hc.2.1.lv.2)]
          by_cases hf : fitL tn (lk tn (min (sp tn t (2 * x)) (sp tn t (2 * y))))
          · rw [tf_t hf, if_neg (by decide), li_100, li_10, nI_mul, nI_add, nI_add, Ok_bd1]
            refine (addNumber_e hL.1 (by have := Fm_len (pt := pt) (lf := lf) (t := t) hT hr; omega)).mono (fun bo' h => next bo' ?_)
            unfold LI
            rw [Fm_t (hm.mpr ⟨hc, hf⟩)]
            exact ⟨h.1, h.2.trans hL.2⟩
          · rw [tf_f hf, if_pos rfl]
            exact next bo (off (fun h => hf (hm.mp h).2))
theorem listSlips_e (hT : TW tn) (hC : CW tn t) (hR : TR ri tn) (hG : GB tn pt lf t bo0) {x : Nat} (hx : x < nX tn) {pre rest : List Nat} {bo : BoS} (hL : LI tn pt lf t bo0 bo pre) (hr : pre ++ (CFs (nX tn) x (x + 1) ++ rest) = CF (nX tn)) : Ok (f_X0_listSlips bo ri (nI x)) (fun bo' => LI tn pt lf t bo0 bo' (pre ++ CFs (nX tn) x (x + 1))) := by
  have h7 := hT.x7
  unfold f_X0_listSlips
  obtain ⟨w, e, hw⟩ := slips_e hT hG hx hL.2
  rw [bd1_e e, lt1_e, nI_1]
  exact slips_L hT hC hR hG hw FU (x + 1) pre rest bo (by rw [FU_e]; omega) (by omega) (by omega) hL hr
theorem steps_c (hT : TW tn) (hC : CW tn t) (hR : TR ri tn) (hG : GB tn pt lf t bo0) {a b : Nat} {w : Int32} (ha : a < nX tn) (hb : b < nX tn) (hw : ∀ c, c < nX tn → (bitB w c = true ↔ (a ≠ b ∧ a ≠ c ∧ b ≠ c) ∧ (BES tn pt t (2 * a + 1) (2 * b + 1) ∧ BES tn pt t (2 * a) (2 * c + 1) ∧ BES tn pt t (2 * b) (2 * c))))
    (K : Int32 → Int32 → BoS → RiS → Option BoS) (Q : BoS → Prop) :
    ∀ n c pre rest bo, nX tn - c < n → c ≤ nX tn → LI tn pt lf t bo0 bo pre → pre ++ (CFc (nX tn) a b c ++ rest) = CF (nX tn) → (∀ bo', LI tn pt lf t bo0 bo' (pre ++ CFc (nX tn) a b c) → Ok (K (nI a) (nI (b + 1)) bo' ri) Q) → Ok (f_X0_listSteps_L64 n (nI a) (nI b) w (nI c) bo ri K) Q := by
  have h7 := hT.x7
  intro n
  induction n with
  | zero => intro c pre rest bo h; omega
  | succ n ih =>
    intro c pre rest bo hn hc hL hr hK
    have fin : LI tn pt lf t bo0 bo (pre ++ CFc (nX tn) a b c) → Ok (f_X0_listSteps_L125 (nI a) (nI b) bo ri K) Q := fun h => by
      unfold f_X0_listSteps_L125
      rw [lt1_e, nI_1]
      exact hK bo h
    rw [f_X0_listSteps_L64, hR.X]
    by_cases h0 : w = 0
    · rw [if_pos h0]
      refine fin ?_
      unfold LI
      rw [Fm_none (fun m hm => ?_)]
      · exact hL
      · unfold CFc at hm
        obtain ⟨z, hz, rfl⟩ := List.mem_map.mp hm
        have hz := List.mem_range'_1.mp hz
        refine bB_f (may2 hT ha hb (by omega)) (fun h => ?_)
        have := (hw z (by omega)).mpr ⟨⟨h.1.1, h.1.2.1, h.1.2.2⟩, h.2.1⟩
        rw [h0, bit_0] at this
        cases this
    · rw [if_neg h0]
      by_cases hcX : c = nX tn
      · rw [if_pos (by rw [hcX]; exact nI_le (Nat.le_refl _) (by omega))]
        refine fin ?_
        have : CFc (nX tn) a b c = [] := by unfold CFc; rw [r_nil (by omega)]; rfl
        rw [this, List.append_nil]
        exact hL
      · have hc2 : c < nX tn := by omega
        have ec : CFc (nX tn) a b c = (1000 + 100 * a + 10 * b + c) :: CFc (nX tn) a b (c + 1) := by unfold CFc; rw [r_cons hc2]; rfl
        rw [ec] at hr hK
        rw [if_neg (nI_ge hc2 (by omega)), bd1_e (has_e _ _ (by omega))]
        have next : ∀ bo', LI tn pt lf t bo0 bo' (pre ++ [1000 + 100 * a + 10 * b + c]) → Ok (f_X0_listSteps_L119 (nI a) (nI b) w (nI c) bo' ri (fun y0 y1 y2 y3 y4 y5 => f_X0_listSteps_L64 n y0 y1 y2 y3 y4 y5 K)) Q := by
          intro bo' hL'
          unfold f_X0_listSteps_L119
          rw [lt1_e, nI_1]
          refine ih (c + 1) (pre ++ [1000 + 100 * a + 10 * b + c]) rest bo' (by omega) (by omega) hL' (by rw [← hr]; simp) (fun bo2 h2 => hK bo2 ?_)
          rw [List.append_assoc] at h2
          exact h2
        have off : ¬ mayB tn pt lf t (1000 + 100 * a + 10 * b + c) = true → LI tn pt lf t bo0 bo (pre ++ [1000 + 100 * a + 10 * b + c]) := fun h => by
          unfold LI
          rw [Fm_f (by simpa using h)]
          exact hL
        have hm := may2 (pt := pt) (lf := lf) (t := t) hT ha hb hc2
        cases hbt : bitB w c with
        | false =>
          rw [if_pos (by rfl)]
          exact next bo (off (fun h => by
            have h' := hm.mp h
            rw [(hw c hc2).mpr ⟨h'.1, h'.2.1⟩] at hbt; cases hbt))
        | true =>
          have hcc := (hw c hc2).mp hbt
          rw [if_neg (by decide), bd1_e (fits_e hT hC hR (hG.of hL.2) hb hc2 hcc.2.2.2.lv.1 hcc.2.2.2.lv.2)]
          by_cases hf : fitL tn (lk tn (min (sp tn t (2 * b)) (sp tn t (2 * c))))
          · rw [tf_t hf, if_neg (by decide), li_1000, li_100, li_10, nI_mul, nI_mul, nI_add, nI_add, nI_add, Ok_bd1]
            refine (addNumber_e hL.1 (by have := Fm_len (pt := pt) (lf := lf) (t := t) hT hr; omega)).mono (fun bo' h => next bo' ?_)
            unfold LI
            rw [Fm_t (hm.mpr ⟨hcc.1, hcc.2, hf⟩)]
            exact ⟨h.1, h.2.trans hL.2⟩
          · rw [tf_f hf, if_pos rfl]
            exact next bo (off (fun h => hf (hm.mp h).2.2))
theorem stepsWith_e (hT : TW tn) {bo : BoS} (hG : GB tn pt lf t bo) {a b : Nat} (ha : a < nX tn) (hb : b < nX tn) : ∃ w, f_X0_stepsWith bo (nI a) (nI b) = some w ∧ ∀ c, c < nX tn → (bitB w c = true ↔ (a ≠ c ∧ b ≠ c) ∧ BES tn pt t (2 * a) (2 * c + 1) ∧ BES tn pt t (2 * b) (2 * c)) := by
  have h7 := hT.x7
  unfold f_X0_stepsWith
  rw [ckI (by omega) (by omega), ckI (by omega) (by omega), nI_clamp (by omega), nI_clamp (by omega)]
  refine ⟨_, rfl, fun c hc => ?_⟩
  rw [bit_and, bit_and, bit_and, bit_xor, bit_xor, bit_m1 _ (by omega), bit_one _ _ (by omega) (by omega), bit_one _ _ (by omega) (by omega), Bool.and_eq_true, Bool.and_eq_true, Bool.and_eq_true, (hG.2.1 a c ha hc).2.1, (hG.2.1 b c hb hc).2.2]
  have e : ∀ z, ((decide (c = z) ^^ true) = true) ↔ z ≠ c := fun z => by
    by_cases h : c = z
    · subst h; simp
    · simp [h]; exact fun e => h e.symm
  rw [e, e]
  constructor
  · rintro ⟨⟨⟨h1, h2⟩, h3⟩, h4⟩; exact ⟨⟨h3, h4⟩, h1, h2⟩
  · rintro ⟨⟨h3, h4⟩, h1, h2⟩; exact ⟨⟨⟨h1, h2⟩, h3⟩, h4⟩
theorem steps_b (hT : TW tn) (hC : CW tn t) (hR : TR ri tn) (hG : GB tn pt lf t bo0) {a : Nat} (ha : a < nX tn) :
    ∀ n b pre rest bo, nX tn - b < n → b ≤ nX tn → LI tn pt lf t bo0 bo pre → pre ++ (CFb (nX tn) a b ++ rest) = CF (nX tn) → Ok (f_X0_listSteps_L21 n (nI a) (nI b) bo ri) (fun bo' => LI tn pt lf t bo0 bo' (pre ++ CFb (nX tn) a b)) := by
  have h7 := hT.x7
  intro n
  induction n with
  | zero => intro b pre rest bo h; omega
  | succ n ih =>
    intro b pre rest bo hn hb hL hr
    rw [f_X0_listSteps_L21, hR.X]
    by_cases hbX : b = nX tn
    · rw [if_pos (by rw [hbX]; exact nI_le (Nat.le_refl _) (by omega)), Ok_some]
      have : CFb (nX tn) a b = [] := by unfold CFb; rw [r_nil (by omega)]; rfl
      rw [this, List.append_nil]
      exact hL
    · have hb2 : b < nX tn := by omega
      have ec : CFb (nX tn) a b = CFc (nX tn) a b 0 ++ CFb (nX tn) a (b + 1) := by unfold CFb; rw [r_cons hb2]; rfl
      rw [ec] at hr ⊢
      rw [List.append_assoc] at hr
      have hG' := hG.of hL.2
      rw [if_neg (nI_ge hb2 (by omega)), ckI (by omega) (by omega), nI_clamp (by omega), bd1_e (has_e _ _ (by omega))]
      have next : ∀ w, (∀ c, c < nX tn → (bitB w c = true ↔ (a ≠ b ∧ a ≠ c ∧ b ≠ c) ∧ (BES tn pt t (2 * a + 1) (2 * b + 1) ∧ BES tn pt t (2 * a) (2 * c + 1) ∧ BES tn pt t (2 * b) (2 * c)))) → Ok (f_X0_listSteps_L60 (nI a) (nI b) w bo ri (fun y0 y1 y2 y3 => f_X0_listSteps_L21 n y0 y1 y2 y3)) (fun bo' => LI tn pt lf t bo0 bo' (pre ++ (CFc (nX tn) a b 0 ++ CFb (nX tn) a (b + 1)))) := by
        intro w hw
        unfold f_X0_listSteps_L60
        refine steps_c hT hC hR hG ha hb2 hw _ _ FU 0 pre (CFb (nX tn) a (b + 1) ++ rest) bo (by rw [FU_e]; omega) (by omega) hL hr (fun bo' h' => ?_)
        have q := ih (b + 1) (pre ++ CFc (nX tn) a b 0) rest bo' (by omega) (by omega) h' (by rw [← hr]; simp)
        rw [List.append_assoc] at q
        exact q
      have zero : (a ≠ b → ¬ BES tn pt t (2 * a + 1) (2 * b + 1)) → Ok (f_X0_listSteps_L59 (nI a) (nI b) bo ri (fun y0 y1 y2 y3 => f_X0_listSteps_L21 n y0 y1 y2 y3)) (fun bo' => LI tn pt lf t bo0 bo' (pre ++ (CFc (nX tn) a b 0 ++ CFb (nX tn) a (b + 1)))) := by
        intro hz
        unfold f_X0_listSteps_L59
        refine next 0 (fun c hc => ?_)
        rw [bit_0]
        exact ⟨fun h => (by cases h), fun h => absurd h.2.1 (hz h.1.1)⟩
      cases hbt : bitB (Bo_overByOver bo a) b with
      | false =>
        rw [if_pos (by rfl)]
        refine zero (fun _ h => ?_)
        rw [((hG'.2.1 a b ha hb2).1).mpr h] at hbt
        cases hbt
      | true =>
        have ho := ((hG'.2.1 a b ha hb2).1).mp hbt
        rw [if_neg (by decide)]
        by_cases e : b = a
        · rw [if_pos (by rw [e])]
          exact zero (fun h => absurd e.symm h)
        · rw [if_neg (fun h => e (nI_inj h (by omega) (by omega)))]
          obtain ⟨w, e1, hw⟩ := stepsWith_e hT hG' ha hb2
          rw [bd1_e e1]
          refine next w (fun c hc => ?_)
          rw [hw c hc]
          constructor
          · rintro ⟨⟨h1, h2⟩, h3⟩; exact ⟨⟨fun h => e h.symm, h1, h2⟩, ho, h3⟩
          · rintro ⟨⟨_, h1, h2⟩, _, h3⟩; exact ⟨⟨h1, h2⟩, h3⟩
theorem mem_CFb {X a b m : Nat} (h : m ∈ CFb X a b) : ∃ x y, b ≤ x ∧ x < X ∧ y < X ∧ m = 1000 + 100 * a + 10 * x + y := by
  unfold CFb at h
  obtain ⟨x, h1, h2⟩ := List.mem_flatMap.mp h
  unfold CFc at h2
  obtain ⟨y, h3, h4⟩ := List.mem_map.mp h2
  have h1 := List.mem_range'_1.mp h1
  have h3 := List.mem_range'_1.mp h3
  exact ⟨x, y, by omega, by omega, by omega, h4.symm⟩
theorem listSteps_e (hT : TW tn) (hC : CW tn t) (hR : TR ri tn) (hG : GB tn pt lf t bo0) {a : Nat} (ha : a < nX tn) {pre rest : List Nat} {bo : BoS} (hL : LI tn pt lf t bo0 bo pre) (hr : pre ++ (CFb (nX tn) a 0 ++ rest) = CF (nX tn)) : Ok (f_X0_listSteps bo ri (nI a)) (fun bo' => LI tn pt lf t bo0 bo' (pre ++ CFb (nX tn) a 0)) := by
  have h7 := hT.x7
  have hG' := hG.of hL.2
  unfold f_X0_listSteps
  rw [ckI (by omega) (by omega), nI_clamp (by omega), ckI (by omega) (by omega)]
  by_cases h0 : Bo_overByOver bo a = 0
  · rw [if_pos h0, Ok_some]
    unfold LI
    rw [Fm_none (fun m hm => ?_)]
    · exact hL
    · obtain ⟨x, y, _, hx, hy, rfl⟩ := mem_CFb hm
      refine bB_f (may2 hT ha hx hy) (fun h => ?_)
      have := ((hG'.2.1 a x ha hx).1).mpr h.2.1.1
      rw [h0, bit_0] at this
      cases this
  · rw [if_neg h0]
    by_cases h1 : Bo_overByUnder bo a = 0
    · rw [if_pos h1, Ok_some]
      unfold LI
      rw [Fm_none (fun m hm => ?_)]
      · exact hL
      · obtain ⟨x, y, _, hx, hy, rfl⟩ := mem_CFb hm
        refine bB_f (may2 hT ha hx hy) (fun h => ?_)
        have := ((hG'.2.1 a y ha hy).2.1).mpr h.2.1.2.1
        rw [h1, bit_0] at this
        cases this
    · rw [if_neg h1]
      exact steps_b hT hC hR hG ha FU 0 pre rest bo (by rw [FU_e]; omega) (by omega) hL hr
end LIST2
