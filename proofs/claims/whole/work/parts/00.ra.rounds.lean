theorem lN_div {a b : Nat} (ha : a < 2 ^ 31) (hb : b < 2 ^ 31) : lN a / lN b = lN (a / b) := by
  refine Int64.toInt_inj.mp ?_
  have h : a / b < 2 ^ 31 := Nat.lt_of_le_of_lt (Nat.div_le_self a b) ha
  rw [Int64.toInt_div_of_ne_right, lN_toInt ha, lN_toInt hb, lN_toInt h]
  · exact (Int.ofNat_tdiv a b).symm
  intro e
  have := congrArg Int64.toInt e
  rw [lN_toInt hb] at this
  have e2 : (-1 : Int64).toInt = -1 := by decide
  rw [e2] at this
  omega
def sdn (s : Nat) : Nat := (75 * s + 74) % 65537
theorem sdn_lt (s : Nat) : sdn s < 65537 := Nat.mod_lt _ (by decide)
theorem cseed_e {s : Nat} (h : s < 65537) : f_X4_seedBehind (nI s) = some (nI (sdn s)) := by
  unfold f_X4_seedBehind sdn
  rw [li_75, li_74, li_65537, nI_mul, nI_add, nI_rem (by omega) (by omega)]
theorem rseed_e {s : Nat} (h : s < 65537) : Int64.toInt32 ((((75 : Int64) * (Int32.toInt64 (nI s))) + (74 : Int64)) - (((75 : Int64) * (Int32.toInt64 (nI s))) + (74 : Int64)) / (65537 : Int64) * (65537 : Int64)) = nI (sdn s) := by
  rw [nI_l (by omega), show (75 : Int64) = lN 75 from rfl, show (74 : Int64) = lN 74 from rfl, show (65537 : Int64) = lN 65537 from rfl, lN_mul, lN_add, lN_div (by omega) (by omega), lN_mul, lN_sub (Nat.div_mul_le_self _ _), lN_i]
  congr 1
  unfold sdn
  have := Nat.div_add_mod' (75 * s + 74) 65537
  omega
theorem amL_mem {v : Nat → Nat} : ∀ (l : List Nat) o, (∀ b x, o = some (b, x) → x = v b) → ∀ b x, l.foldl (amS v) o = some (b, x) → (b ∈ l ∨ o = some (b, x)) ∧ x = v b := by
  intro l
  induction l with
  | nil => intro o ho b x h; exact ⟨Or.inr h, ho b x h⟩
  | cons y l ih =>
    intro o ho b x h
    rw [List.foldl_cons] at h
    have hs : ∀ b x, amS v o y = some (b, x) → x = v b ∧ (b = y ∨ o = some (b, x)) := by
      intro b x h
      cases o with
      | none => cases h; exact ⟨rfl, Or.inl rfl⟩
      | some q =>
        obtain ⟨b', l'⟩ := q
        replace h : (if v y < l' then some (y, v y) else some (b', l')) = some (b, x) := h
        by_cases c : v y < l'
        · rw [if_pos c] at h; cases h; exact ⟨rfl, Or.inl rfl⟩
        · rw [if_neg c] at h; exact ⟨ho b x h, Or.inr h⟩
    obtain ⟨h1, h2⟩ := ih (amS v o y) (fun b x h => (hs b x h).1) b x h
    refine ⟨?_, h2⟩
    rcases h1 with h1 | h1
    · exact Or.inl (List.mem_cons_of_mem _ h1)
    · rcases (hs b x h1).2 with e | e
      · exact Or.inl (by rw [e]; simp)
      · exact Or.inr e
section ROUNDS
variable {ri : RiS} {tn : TnS} {pt : Option Nat} {lf plus : Int32} {t kc : Int64} {bo : BoS}
theorem ownv_mem {p b x : Nat} (h : ownv tn pt lf t p = some (b, x)) : mayB tn pt lf t b = true ∧ x = lft tn (bh tn t b) := by
  obtain ⟨h1, h2⟩ := amL_mem _ none (fun b x h => by cases h) b x h
  rcases h1 with h1 | h1
  · exact ⟨(MR_mem.mp (List.mem_filter.mp h1).1).2.2, h2⟩
  · cases h1
noncomputable def rst (tn : TnS) (pt : Option Nat) (lf : Int32) (t : Int64) (p : Nat) : Int64 := match ownv tn pt lf t p with
  | none => t
  | some (m, _) => if lft tn (bh tn t m) < lft tn t then bh tn t m else t
theorem rst_DW (hT : TW tn) (hD : DW tn pt t) (p : Nat) : DW tn pt (rst tn pt lf t p) := by
  unfold rst
  cases h : ownv tn pt lf t p with
  | none => exact hD
  | some q =>
    obtain ⟨m, x⟩ := q
    obtain ⟨h1, h2⟩ := mayB_can (ownv_mem h).1
    show DW tn pt (if lft tn (bh tn t m) < lft tn t then bh tn t m else t)
    by_cases c : lft tn (bh tn t m) < lft tn t
    · rw [if_pos c]; exact hD.bh hT h1 h2
    · rw [if_neg c]; exact hD
noncomputable def rndk (tn : TnS) (pt : Option Nat) (lf : Int32) : Nat → Int64 → Int64
  | 0, t => t
  | n + 1, t => rndk tn pt lf n ((List.range' 0 (nP tn - 0)).foldl (rst tn pt lf) t)
theorem rround_p (hT : TW tn) (hR : TR ri tn) {nn i : Int32} (K : Int32 → Int64 → Int32 → MdS → TnS → Option (Int32 × MdS)) (Q : Int32 × MdS → Prop) {md0 : MdS} :
    ∀ n q t md, nP tn - q < n → q ≤ nP tn → DW tn pt t → Md_parted md = ptv pt → Md_lifted md = lf → Sc md0 md →
    (∀ md', Sc md0 md' → DW tn pt ((List.range' q (nP tn - q)).foldl (rst tn pt lf) t) → Ok (K nn ((List.range' q (nP tn - q)).foldl (rst tn pt lf) t) (i + 1) md' tn) Q) →
    Ok (f_X13_rounds_L51 n nn t i (nI q) md tn K) Q := by
  have h8 := hT.p8
  intro n
  induction n with
  | zero => intro q t md h; omega
  | succ n ih =>
    intro q t md hn hq hD hp hl hsc hK
    rw [f_X13_rounds_L51, hT.P]
    by_cases e : q = nP tn
    · subst e
      rw [if_pos (nI_le (Nat.le_refl _) (by omega)), lt1_e]
      rw [r_nil (Nat.le_refl _)] at hK
      exact hK md hsc hD
    · have hq2 : q < nP tn := by omega
      rw [r_cons hq2] at hK
      have hb := lft7 hT t
      rw [if_neg (nI_ge hq2 (by omega)), Ok_bd2]
      refine (rown_e hT hR hD hp hl hq2).mono (fun z hz => ?_)
      obtain ⟨z1, z2⟩ := hz
      rw [Ok_bd1]
      refine (rLooks hT hD.1 hD.pt (z2.parted.trans hp)).mono (fun md2 h => ?_)
      have hk2 : Lk md md2 := z2.trans h.1
      have hsc2 := hsc.trans hk2.sc
      have hp2 := hk2.parted.trans hp
      have hl2 := hk2.lifted.trans hl
      have next : ∀ t', t' = rst tn pt lf t q → Ok (f_X13_rounds_L111 nn t' i (nI q) md2 tn (fun y0 y1 y2 y3 y4 y5 => f_X13_rounds_L51 n y0 y1 y2 y3 y4 y5 K)) Q := by
        intro t' ht'
        unfold f_X13_rounds_L111
        rw [lt1_e, nI_1, ht']
        exact ih (q + 1) _ md2 (by omega) (by omega) (rst_DW hT hD q) hp2 hl2 hsc2 hK
      rw [z1]
      cases ho : ownv tn pt lf t q with
      | none =>
        rw [if_pos (show amI none = -2 from rfl)]
        exact next t (by unfold rst; rw [ho])
      | some mx =>
        obtain ⟨m, x⟩ := mx
        obtain ⟨m1, m2⟩ := mayB_can (ownv_mem ho).1
        have hlt := isMv_lt m1
        have hb2 := lft7 hT (bh tn t m)
        have hne : ¬ amI (some (m, x)) = -2 := by show ¬ nI m = -2; rw [nI_neg2 (by omega)]; exact fun h => h
        rw [if_neg hne]
        show Ok (bd1 (f_X13_behind md2 t (nI m)) _) Q
        rw [bd1_e (behind_e hT h.2 hD.1 m1 m2.lv), bd1_e (leftIn_e hT), bd1_e (leftIn_e hT)]
        by_cases c : lft tn (bh tn t m) < lft tn t
        · rw [if_neg (nI_ge c (by omega))]
          show Ok (bd1 (f_X13_behind md2 t (nI m)) _) Q
          rw [bd1_e (behind_e hT h.2 hD.1 m1 m2.lv)]
          exact next _ (by unfold rst; rw [ho]; exact (if_pos c).symm)
        · rw [if_pos (nI_le (by omega) (by omega))]
          exact next _ (by unfold rst; rw [ho]; exact (if_neg c).symm)
theorem rround_n (hT : TW tn) (hR : TR ri tn) {nn : Nat} (hnn : nn ≤ 9) (Q : Int32 × MdS → Prop) {md0 : MdS} (hp0 : Md_parted md0 = ptv pt) (hl0 : Md_lifted md0 = lf) :
    ∀ rem n i t md, i + rem = nn → rem < n → DW tn pt t → Sc md0 md → (∀ md', Sc md0 md' → Ok (bd2 (f_X13_good md' (nI (lft tn (rndk tn pt lf rem t)))) fun r_7 md_8 => some (r_7, md_8)) Q) → Ok (f_X13_rounds_L42 n (nI nn) t (nI i) md tn) Q := by
  intro rem
  induction rem with
  | zero =>
    intro n i t md hi hn hD hsc hQ
    cases n with
    | zero => omega
    | succ n =>
      rw [f_X13_rounds_L42, if_pos (nI_le (by omega) (by omega)), bd1_e (leftIn_e hT)]
      exact hQ md hsc
  | succ rem ih =>
    intro n i t md hi hn hD hsc hQ
    cases n with
    | zero => omega
    | succ n =>
      have h8 := hT.p8
      rw [f_X13_rounds_L42, if_neg (nI_ge (show i < nn by omega) (by omega))]
      refine rround_p hT hR _ Q FU 0 t md (by rw [FU_e]; omega) (by omega) hD (hsc.parted.trans hp0) (hsc.lifted.trans hl0) hsc (fun md' h1 h2 => ?_)
      rw [nI_1]
      exact ih n (i + 1) _ md' (by omega) (by omega) h2 h1 hQ
theorem cround_p (hT : TW tn) (hR : TR ri tn) (hP : PLS tn plus lf) {nn i : Int32} (K : Int32 → Int32 → BoS → RiS → Option (Int32 × BoS)) (Q : Int32 × BoS → Prop) :
    ∀ n q t kc wb, nP tn - q < n → q ≤ nP tn → DW tn pt t → KR tn kc t → BO ri tn pt lf kc t plus wb →
    (∀ kc' wb', DW tn pt ((List.range' q (nP tn - q)).foldl (rst tn pt lf) t) → KR tn kc' ((List.range' q (nP tn - q)).foldl (rst tn pt lf) t) → BO ri tn pt lf kc' ((List.range' q (nP tn - q)).foldl (rst tn pt lf) t) plus wb' → Ok (K nn (i + 1) wb' ri) Q) →
    Ok (f_X10_leftBehindRounds_L18 n nn i (nI q) wb ri K) Q := by
  have h8 := hT.p8
  intro n
  induction n with
  | zero => intro q t kc wb h; omega
  | succ n ih =>
    intro q t kc wb hn hq hD hK hB hKK
    rw [f_X10_leftBehindRounds_L18, hR.P]
    by_cases e : q = nP tn
    · subst e
      rw [if_pos (nI_le (Nat.le_refl _) (by omega)), lt1_e]
      rw [r_nil (Nat.le_refl _)] at hKK
      exact hKK kc wb hD hK hB
    · have hq2 : q < nP tn := by omega
      rw [r_cons hq2] at hKK
      have hb := lft7 hT t
      rw [if_neg (nI_ge hq2 (by omega)), bd1_e (cown_e hT hR hD hB hq2)]
      have next : ∀ kc' wb', KR tn kc' (rst tn pt lf t q) → BO ri tn pt lf kc' (rst tn pt lf t q) plus wb' → Ok (f_X10_leftBehindRounds_L76 nn i (nI q) wb' ri (fun y0 y1 y2 y3 y4 => f_X10_leftBehindRounds_L18 n y0 y1 y2 y3 y4 K)) Q := by
        intro kc' wb' h1 h2
        unfold f_X10_leftBehindRounds_L76
        rw [lt1_e, nI_1]
        exact ih (q + 1) _ kc' wb' (by omega) (by omega) (rst_DW hT hD q) h1 h2 hKK
      cases ho : ownv tn pt lf t q with
      | none =>
        have er : rst tn pt lf t q = t := by unfold rst; rw [ho]
        rw [if_pos (show amI none = -2 from rfl)]
        exact next kc wb (by rw [er]; exact hK) (by rw [er]; exact hB)
      | some mx =>
        obtain ⟨m, x⟩ := mx
        have hmay := (ownv_mem ho).1
        obtain ⟨m1, m2⟩ := mayB_can hmay
        have hlt := isMv_lt m1
        have hb2 := lft7 hT (bh tn t m)
        have hne : ¬ amI (some (m, x)) = -2 := by show ¬ nI m = -2; rw [nI_neg2 (by omega)]; exact fun h => h
        rw [if_neg hne]
        show Ok (bd1 (f_X0_leftBehind wb (nI m)) _) Q
        rw [bd1_e (cleft_e hT hD.1 hB hmay), hB.2.2.2.1]
        by_cases c : lft tn (bh tn t m) < lft tn t
        · have er : rst tn pt lf t q = bh tn t m := by unfold rst; rw [ho]; exact if_pos c
          rw [if_neg (nI_ge c (by omega)), Ok_bd1]
          show Ok (f_X0_make wb ri (nI m)) _
          unfold f_X0_make
          rw [Ok_bd1]
          refine (after_e hT hD.1 hB.2.2.2.2.1 hB.1 hK m1 m2.lv).mono (fun k' hK' => ?_)
          rw [hB.2.1, hB.2.2.1, Ok_bd1]
          refine (layOut_e hT hR (hD.bh hT m1 m2) hK' hP wb).mono (fun wb2 hB2 => ?_)
          rw [Ok_some]
          exact next k' wb2 (by rw [er]; exact hK') (by rw [er]; exact hB2)
        · have er : rst tn pt lf t q = t := by unfold rst; rw [ho]; exact if_neg c
          rw [if_pos (nI_le (by omega) (by omega))]
          exact next kc wb (by rw [er]; exact hK) (by rw [er]; exact hB)
theorem cround_e (hT : TW tn) (hR : TR ri tn) (hD : DW tn pt t) {now : MoS} (hK : KR tn (Mo_key now) t) (hpl : Mo_plus now = plus) (hP : PLS tn plus lf) (hpa : Mo_parted now = ptv pt) {wb : BoS} {nn : Nat} (hnn : nn ≤ 9) : Ok (f_X10_leftBehindRounds wb now ri (nI nn)) (fun q => q.1 = nI (lft tn (rndk tn pt lf nn t))) := by
  have h8 := hT.p8
  have key : ∀ rem n i t kc wb, i + rem = nn → rem < n → DW tn pt t → KR tn kc t → BO ri tn pt lf kc t plus wb → Ok (f_X10_leftBehindRounds_L10 n (nI nn) (nI i) wb ri) (fun q => q.1 = nI (lft tn (rndk tn pt lf rem t))) := by
    intro rem
    induction rem with
    | zero =>
      intro n i t kc wb hi hn hD hK hB
      cases n with
      | zero => omega
      | succ n =>
        rw [f_X10_leftBehindRounds_L10, if_pos (nI_le (by omega) (by omega)), Ok_some]
        exact hB.2.2.2.1
    | succ rem ih =>
      intro n i t kc wb hi hn hD hK hB
      cases n with
      | zero => omega
      | succ n =>
        rw [f_X10_leftBehindRounds_L10, if_neg (nI_ge (show i < nn by omega) (by omega))]
        refine cround_p hT hR hP _ _ FU 0 t kc wb (by rw [FU_e]; omega) (by omega) hD hK hB (fun kc' wb' h1 h2 h3 => ?_)
        rw [nI_1]
        exact ih n (i + 1) _ kc' wb' (by omega) (by omega) h1 h2 h3
  unfold f_X10_leftBehindRounds f_X0_lay
  rw [Ok_bd1, hpl, hpa, Ok_bd1]
  refine (layOut_e hT hR hD hK hP wb).mono (fun wb2 hB2 => ?_)
  rw [Ok_some]
  exact key nn FU 0 t _ wb2 (by omega) (by rw [FU_e]; omega) hD hK hB2
end ROUNDS
