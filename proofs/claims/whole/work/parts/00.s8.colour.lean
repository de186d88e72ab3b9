section COLF
variable {ri : RiS} {tn : TnS} {hk : HKS} {now : MoS} {bo : BoS} {md : MdS} {co : CoS} {pt : Option Nat} {t kc : Int64} {lf plus : Int32}
theorem col_both (hT : TW tn) (hR : TR ri tn) (hD : DW tn pt t) (hB : BO ri tn pt lf kc t plus bo) {md0 : MdS} (hn0 : Md_now md0 = t) (hp0 : Md_parted md0 = ptv pt) {co0 : CoS} (hc0 : PIo co0) {p : Nat} (hp : p = 3 ∨ p = 5 ∨ p = 7) :
    ∃ cv : Int32, (∀ md, Sc md0 md → Ok (f_X13_coloursNow md tn (nI p)) (fun q => q.1 = cv ∧ Sc md0 q.2)) ∧ (∀ co, PIo co → Ok (f_X2_freeColours co bo ri (nI (nR tn)) (nI p)) (fun q => q.1 = cv ∧ PIo q.2)) := by
  obtain ⟨a, _, _, r1, E1', pc1, _, _, h1⟩ := free_e hT hR hD hB hp hc0
  obtain ⟨b, _, _, r2, E2', pc2, _, _, h2⟩ := rcol_e (md := md0) hT hR hn0 hD hp0 hp
  have e12 := col_eq hT hR hD hp h1 h2
  refine ⟨nI (BA ri tn pt t (nR tn)) - nI r1, fun md hm => ?_, fun co hc => ?_⟩
  · refine (rcol_e (md := md) hT hR (hm.now.trans hn0) hD (hm.parted.trans hp0) hp).mono (fun q hq => ?_)
    obtain ⟨s1, r, E, pc, _, e, h⟩ := hq
    rw [col_eq hT hR hD hp h1 h]
    exact ⟨e, hm.trans s1⟩
  · refine (free_e hT hR hD hB hp hc).mono (fun q hq => ?_)
    obtain ⟨s1, r, E, pc, _, e, h⟩ := hq
    rw [e12, ← col_eq hT hR hD hp h h2]
    exact ⟨e, s1⟩
theorem a_colours (h : IVt tn ri now bo md) (ht : HK_there hk = 1) (hc : PIo co) (v : Int32) : Ok (f_X13_colours md tn v) (fun q => Ok (f_X11_colours hk co bo ri v) (fun c => AN hk md c.1 c.2.1 q ∧ PIo c.2.2)) := by
  obtain ⟨pt, s, hT, hR, hD, hp, _, _, hK, hP, hpa, _, hB⟩ := h
  unfold f_X13_colours f_X11_colours f_X13_colours_L34 f_X11_colours_L35
  rw [lt1_e, if_neg (show ¬ (HK_there hk = 0) by rw [ht]; decide), hR.R]
  have key : ∀ p : Nat, p = 3 ∨ p = 5 ∨ p = 7 → Ok (bd2 (f_X13_coloursNow (Md_thrown' md 0) tn (nI p)) fun r_4 md_5 => bd2 (f_X13_good md_5 r_4) fun r_6 md_7 => some (r_6, md_7)) (fun q => Ok (bd2 (f_X2_freeColours co bo ri (nI (nR tn)) (nI p)) fun r_5 co_6 => bd2 (f_X11_grant hk r_5) fun r_7 hk_8 => some (r_7, hk_8, co_6)) (fun c => AN hk md c.1 c.2.1 q ∧ PIo c.2.2)) := by
    intro p h3
    obtain ⟨cv, k1, k2⟩ := col_both (md0 := Md_thrown' md 0) hT hR hD hB (gn_now_thrown _ _) ((gn_parted_thrown _ _).trans hp) hc h3
    rw [Ok_bd2]
    refine (k1 _ (Sc.refl _)).mono (fun q hq => ?_)
    rw [good_t, bd2_e rfl, Ok_some, Ok_bd2]
    refine (k2 co hc).mono (fun c hc' => ?_)
    rw [grant_t, bd2_e rfl, Ok_some, hq.1, hc'.1]
    exact ⟨AN.mk (by decide) hq.2, hc'.2⟩
  by_cases c3 : v = 3
  · rw [if_pos c3, if_pos c3, c3]; exact key 3 (Or.inl rfl)
  · rw [if_neg c3, if_neg c3]
    by_cases c5 : v = 5
    · rw [if_pos c5, if_pos c5, c5]; exact key 5 (Or.inr (Or.inl rfl))
    · rw [if_neg c5, if_neg c5]
      by_cases c7 : v = 7
      · rw [if_pos c7, if_pos c7, c7]; exact key 7 (Or.inr (Or.inr rfl))
      · rw [if_neg c7, if_neg c7, refused_t, refuse_t, bd2_e rfl, bd2_e rfl, Ok_some, Ok_some]
        exact ⟨AN.mk (by decide) (Sc.refl _), hc⟩
/-- rings below r of which two hang in one another -/
def HG (tn : TnS) (lf : Int32) (t : Int64) (r : Nat) : Prop := ∃ a b, a < b ∧ b < r ∧ sbs tn lf t b a (nX tn) ≠ 0
theorem sbs_sym (a b : Nat) : ∀ n, sbs tn lf t a b n = sbs tn lf t b a n := by
  intro n
  induction n with
  | zero => rfl
  | succ n ih =>
    rw [sbs, sbs, ih]
    congr 1
    unfold sbt prB
    rw [Bool.or_comm]
theorem rcan_74 (hT : TW tn) (hD : DW tn pt t) {md0 : MdS} (hp : Md_parted md0 = ptv pt) (hn0 : Md_now md0 = t) (hl : Md_lifted md0 = lf) {r : Nat} (hr : r < nR tn) (K : Int32 → Int32 → MdS → TnS → Option (Int32 × MdS)) (Q : Int32 × MdS → Prop) :
    ∀ rem n q P md, q + rem = r → rem < n → Sc md0 md → (∀ P' md', (P' ↔ P ∨ ∃ a, q ≤ a ∧ a < r ∧ sbs tn lf t r a (nX tn) ≠ 0) → Sc md0 md' → Ok (K (tf P') (nI (r + 1)) md' tn) Q) → Ok (f_X13_cannot_L74 n (tf P) (nI r) (nI q) md tn K) Q := by
  have h8 := hT.r8
  intro rem
  induction rem with
  | zero =>
    intro n q P md hq hn hsc hK
    cases n with
    | zero => omega
    | succ n =>
      rw [f_X13_cannot_L74, if_pos (nI_le (by omega) (by omega)), lt1_e, nI_1]
      exact hK P md ⟨Or.inl, fun h => h.elim id (fun ⟨a, h1, h2, _⟩ => absurd h2 (by omega))⟩ hsc
  | succ rem ih =>
    intro n q P md hq hn hsc hK
    cases n with
    | zero => omega
    | succ n =>
      unfold f_X13_cannot_L74 f_X13_cannot_L92 f_X13_cannot_L97
      rw [if_neg (nI_ge (show q < r by omega) (by omega))]
      have go : ∀ P' md', (P' ↔ P ∨ sbs tn lf t r q (nX tn) ≠ 0) → Sc md0 md' → Ok (f_X13_cannot_L74 n (tf P') (nI r) (nI (q + 1)) md' tn K) Q := by
        intro P' md' hP' hsc'
        refine ih n (q + 1) P' md' (by omega) (by omega) hsc' (fun P'' md'' h1 h2 => hK P'' md'' ?_ h2)
        rw [h1, hP']
        constructor
        · rintro ((h | h) | ⟨a, h3, h4, h5⟩)
          · exact Or.inl h
          · exact Or.inr ⟨q, by omega, by omega, h⟩
          · exact Or.inr ⟨a, by omega, h4, h5⟩
        · rintro (h | ⟨a, h3, h4, h5⟩)
          · exact Or.inl (Or.inl h)
          · by_cases e : a = q
            · rw [e] at h5; exact Or.inl (Or.inr h5)
            · exact Or.inr ⟨a, by omega, h4, h5⟩
      by_cases c : P
      · rw [if_neg (show ¬ (tf P = 0) from fun e => tf_0.mp e c), lt1_e, nI_1, ← tf_t c]
        exact go P md ⟨Or.inl, fun _ => c⟩ hsc
      · rw [if_pos (tf_0.mpr c), Ok_bd2]
        refine (rhang_e (md0 := md) hT hD (hsc.parted.trans hp) (hsc.now.trans hn0) (hsc.lifted.trans hl) hr (show q < nR tn by omega)).mono (fun w hw => ?_)
        rw [lt1_e, lt1_e, nI_1, hw.1]
        by_cases e : sbs tn lf t r q (nX tn) = 0
        · rw [if_pos e, ← tf_f c]
          exact go P _ ⟨Or.inl, fun h => h.elim id (fun h => absurd e h)⟩ (hsc.trans hw.2.sc)
        · rw [if_neg e, ← tf_t (P := True) trivial]
          exact go True _ ⟨fun _ => Or.inr e, fun _ => trivial⟩ (hsc.trans hw.2.sc)
theorem rcan_61 (hT : TW tn) (hD : DW tn pt t) {md0 : MdS} (hp : Md_parted md0 = ptv pt) (hn0 : Md_now md0 = t) (hl : Md_lifted md0 = lf) {C : Prop} :
    ∀ rem n r P md, r + rem = nR tn → rem < n → Sc md0 md → (P ↔ C ∨ HG tn lf t r) → Ok (f_X13_cannot_L61 n (tf P) (nI r) md tn) (fun q => q.1 = tf (C ∨ HG tn lf t (nR tn)) ∧ ∃ md1, Sc md0 md1 ∧ q.2 = stt md1 0) := by
  have h8 := hT.r8
  intro rem
  induction rem with
  | zero =>
    intro n r P md hr hn hsc hP
    cases n with
    | zero => omega
    | succ n =>
      have er : r = nR tn := by omega
      subst er
      unfold f_X13_cannot_L61 f_X13_cannot_L120
      rw [hT.R, if_pos (nI_le (by omega) (by omega))]
      by_cases c : P
      · rw [if_neg (show ¬ (tf P = 0) from fun e => tf_0.mp e c), good_t, bd2_e rfl, Ok_some]
        exact ⟨(tf_t (hP.mp c)).symm, md, hsc, rfl⟩
      · rw [if_pos (tf_0.mpr c), good_t, bd2_e rfl, Ok_some]
        exact ⟨(tf_f (fun h => c (hP.mpr h))).symm, md, hsc, rfl⟩
  | succ rem ih =>
    intro n r P md hr hn hsc hP
    cases n with
    | zero => omega
    | succ n =>
      rw [f_X13_cannot_L61, hT.R, if_neg (nI_ge (show r < nR tn by omega) (by omega)), li_0]
      refine rcan_74 hT hD hp hn0 hl (show r < nR tn by omega) _ _ r FU 0 P md (by omega) (by rw [FU_e]; omega) hsc (fun P' md' h1 h2 => ?_)
      refine ih n (r + 1) P' md' (by omega) (by omega) h2 ?_
      rw [h1, hP]
      constructor
      · rintro ((h | ⟨a, b, h3, h4, h5⟩) | ⟨a, h3, h4, h5⟩)
        · exact Or.inl h
        · exact Or.inr ⟨a, b, h3, by omega, h5⟩
        · exact Or.inr ⟨a, r, h4, by omega, h5⟩
      · rintro (h | ⟨a, b, h3, h4, h5⟩)
        · exact Or.inl (Or.inl h)
        · by_cases e : b = r
          · rw [e] at h5 h3; exact Or.inr ⟨a, by omega, h3, h5⟩
          · exact Or.inl (Or.inr ⟨a, b, h3, by omega, h5⟩)
theorem ccan_62 (hT : TW tn) (hR : TR ri tn) (hD : DW tn pt t) (hG : GB tn pt lf t bo) (hc : PIo co) {T : Prop} (hTt : HG tn lf t (nR tn) → T) {r : Nat} (hr : r < nR tn) (K : Int32 → CoS → BoS → RiS → Option (Int32 × CoS)) :
    ∀ rem n s, s + rem = nR tn → rem < n → r < s → ((∀ b, s ≤ b → b < nR tn → sbs tn lf t r b (nX tn) = 0) → Ok (K (nI (r + 1)) co bo ri) (fun c => c.1 = tf T ∧ PIo c.2)) → Ok (f_X11_isProvedTight_L62 n (nI r) (nI s) co bo ri K) (fun c => c.1 = tf T ∧ PIo c.2) := by
  have h8 := hT.r8
  intro rem
  induction rem with
  | zero =>
    intro n s hs hn hrs hK
    cases n with
    | zero => omega
    | succ n =>
      rw [f_X11_isProvedTight_L62, hR.R, if_pos (nI_le (by omega) (by omega)), lt1_e, nI_1]
      exact hK (fun b h1 h2 => absurd h2 (by omega))
  | succ rem ih =>
    intro n s hs hn hrs hK
    cases n with
    | zero => omega
    | succ n =>
      rw [f_X11_isProvedTight_L62, hR.R, if_neg (nI_ge (show s < nR tn by omega) (by omega)), bd1_e (csigns_e hT hR hD hG hr (show s < nR tn by omega))]
      by_cases e : sbs tn lf t r s (nX tn) = 0
      · rw [if_pos e, lt1_e, nI_1]
        refine ih n (s + 1) (by omega) (by omega) (by omega) (fun h => hK (fun b h1 h2 => ?_))
        by_cases c : b = s
        · rw [c]; exact e
        · exact h b (by omega) h2
      · rw [if_neg e, Ok_some]
        refine ⟨(tf_t (hTt ⟨r, s, hrs, by omega, ?_⟩)).symm, hc⟩
        rw [sbs_sym]; exact e
theorem ccan_47 (hT : TW tn) (hR : TR ri tn) (hD : DW tn pt t) (hG : GB tn pt lf t bo) (hc : PIo co) {T : Prop} (hTt : T ↔ HG tn lf t (nR tn)) :
    ∀ rem n r, r + rem = nR tn → rem < n → (∀ a b, a < r → a < b → b < nR tn → sbs tn lf t a b (nX tn) = 0) → Ok (f_X11_isProvedTight_L47 n (nI r) co bo ri) (fun c => c.1 = tf T ∧ PIo c.2) := by
  have h8 := hT.r8
  intro rem
  induction rem with
  | zero =>
    intro n r hr hn h0
    cases n with
    | zero => omega
    | succ n =>
      rw [f_X11_isProvedTight_L47, hR.R, if_pos (nI_le (by omega) (by omega)), Ok_some]
      refine ⟨(tf_f (fun h => ?_)).symm, hc⟩
      obtain ⟨a, b, h1, h2, h3⟩ := hTt.mp h
      rw [sbs_sym] at h3
      exact h3 (h0 a b (by omega) h1 h2)
  | succ rem ih =>
    intro n r hr hn h0
    cases n with
    | zero => omega
    | succ n =>
      rw [f_X11_isProvedTight_L47, hR.R, if_neg (nI_ge (show r < nR tn by omega) (by omega)), lt1_e, nI_1]
      refine ccan_62 hT hR hD hG hc hTt.mpr (show r < nR tn by omega) _ (nR tn - (r + 1)) FU (r + 1) (by omega) (by rw [FU_e]; omega) (by omega) (fun h => ?_)
      refine ih n (r + 1) (by omega) (by omega) (fun a b h1 h2 h3 => ?_)
      by_cases e : a = r
      · rw [e]; exact h b (by omega) h3
      · exact h0 a b (by omega) h2 h3
theorem a_cannot (h : IVt tn ri now bo md) (ht : HK_there hk = 1) (hc : PIo co) : Ok (f_X13_cannot md tn) (fun q => Ok (f_X11_cannot hk co bo ri) (fun c => AN hk md c.1 c.2.1 q ∧ PIo c.2.2)) := by
  obtain ⟨pt, s, hT, hR, hD, hp, _, _, hK, hP, hpa, _, hB⟩ := h
  have h8 := hT.r8
  have hp1 : Md_parted (Md_thrown' md 0) = ptv pt := (gn_parted_thrown _ _).trans hp
  have hn1 : Md_now (Md_thrown' md 0) = Md_now md := gn_now_thrown _ _
  have hl1 : Md_lifted (Md_thrown' md 0) = Md_lifted md := gn_lifted_thrown _ _
  obtain ⟨c3, r3, k3⟩ := col_both (md0 := Md_thrown' md 0) hT hR hD hB hn1 hp1 hc (p := 3) (Or.inl rfl)
  obtain ⟨c5, r5, k5⟩ := col_both (md0 := Md_thrown' md 0) hT hR hD hB hn1 hp1 hc (p := 5) (Or.inr (Or.inl rfl))
  obtain ⟨c7, r7, k7⟩ := col_both (md0 := Md_thrown' md 0) hT hR hD hB hn1 hp1 hc (p := 7) (Or.inr (Or.inr rfl))
  have fin : ∀ (P : Prop) md1, Sc (Md_thrown' md 0) md1 → Ok (f_X13_cannot_L61 FU (tf P) 0 md1 tn) (fun q => q.1 = tf (P ∨ HG tn (Md_lifted md) (Md_now md) (nR tn)) ∧ ∃ md2, Sc (Md_thrown' md 0) md2 ∧ q.2 = stt md2 0) := by
    intro P md1 h1
    exact rcan_61 hT hD hp1 hn1 hl1 (nR tn) FU 0 P md1 (by omega) (by rw [FU_e]; omega) h1 ⟨Or.inl, fun h => h.elim id (fun ⟨a, b, _, h, _⟩ => absurd h (by omega))⟩
  have ref : Ok (f_X13_cannot md tn) (fun q => q.1 = tf ((c3 ≠ nI (nR tn) ∨ c5 ≠ nI (nR tn) ∨ c7 ≠ nI (nR tn)) ∨ HG tn (Md_lifted md) (Md_now md) (nR tn)) ∧ ∃ md2, Sc (Md_thrown' md 0) md2 ∧ q.2 = stt md2 0) := by
    have st7 : ∀ (P : Prop) n md1, 1 < n → Sc (Md_thrown' md 0) md1 → Ok (f_X13_cannot_L22 n (tf P) (7 : Int32) md1 tn) (fun q => q.1 = tf ((P ∨ c7 ≠ nI (nR tn)) ∨ HG tn (Md_lifted md) (Md_now md) (nR tn)) ∧ ∃ md2, Sc (Md_thrown' md 0) md2 ∧ q.2 = stt md2 0) := by
      intro P n md1 hn h1
      obtain ⟨n, rfl⟩ : ∃ k, n = k + 2 := ⟨n - 2, by omega⟩
      unfold f_X13_cannot_L22 f_X13_cannot_L47 f_X13_cannot_L52
      rw [if_neg (by decide)]
      simp only [lt1_e]
      by_cases c : P
      · rw [if_neg (show ¬ (tf P = 0) from fun e => tf_0.mp e c), f_X13_cannot_L22, if_pos (by decide), ← tf_t c]
        rw [show (P ∨ c7 ≠ nI (nR tn)) = P from propext ⟨fun _ => c, Or.inl⟩]
        exact fin P md1 h1
      · rw [if_pos (tf_0.mpr c), Ok_bd2]
        refine (r7 md1 h1).mono (fun q hq => ?_)
        rw [hq.1, hT.R]
        by_cases e : c7 = nI (nR tn)
        · rw [if_pos e, f_X13_cannot_L22, if_pos (by decide)]
          rw [show (P ∨ c7 ≠ nI (nR tn)) = P from propext ⟨fun h => h.elim id (fun h => absurd e h), Or.inl⟩]
          have := fin P q.2 hq.2
          rw [tf_f c] at this
          exact this
        · rw [if_neg e, f_X13_cannot_L22, if_pos (by decide), ← tf_t (P := P ∨ c7 ≠ nI (nR tn)) (Or.inr e)]
          exact fin _ q.2 hq.2
    have st5 : ∀ (P : Prop) n md1, 2 < n → Sc (Md_thrown' md 0) md1 → Ok (f_X13_cannot_L22 n (tf P) (5 : Int32) md1 tn) (fun q => q.1 = tf (((P ∨ c5 ≠ nI (nR tn)) ∨ c7 ≠ nI (nR tn)) ∨ HG tn (Md_lifted md) (Md_now md) (nR tn)) ∧ ∃ md2, Sc (Md_thrown' md 0) md2 ∧ q.2 = stt md2 0) := by
      intro P n md1 hn h1
      obtain ⟨n, rfl⟩ : ∃ k, n = k + 1 := ⟨n - 1, by omega⟩
      unfold f_X13_cannot_L22 f_X13_cannot_L47 f_X13_cannot_L52
      rw [if_neg (by decide)]
      simp only [lt1_e]
      by_cases c : P
      · rw [if_neg (show ¬ (tf P = 0) from fun e => tf_0.mp e c), ← tf_t c]
        rw [show (P ∨ c5 ≠ nI (nR tn)) = P from propext ⟨fun _ => c, Or.inl⟩]
        exact st7 P n md1 (by omega) h1
      · rw [if_pos (tf_0.mpr c), Ok_bd2]
        refine (r5 md1 h1).mono (fun q hq => ?_)
        rw [hq.1, hT.R]
        by_cases e : c5 = nI (nR tn)
        · rw [if_pos e]
          rw [show (P ∨ c5 ≠ nI (nR tn)) = P from propext ⟨fun h => h.elim id (fun h => absurd e h), Or.inl⟩]
          have := st7 P n q.2 (by omega) hq.2
          rw [tf_f c] at this
          exact this
        · rw [if_neg e, ← tf_t (P := P ∨ c5 ≠ nI (nR tn)) (Or.inr e)]
          exact st7 _ n q.2 (by omega) hq.2
    have st3 : ∀ n, 3 < n → Ok (f_X13_cannot_L22 n 0 (3 : Int32) (Md_thrown' md 0) tn) (fun q => q.1 = tf (((c3 ≠ nI (nR tn) ∨ c5 ≠ nI (nR tn)) ∨ c7 ≠ nI (nR tn)) ∨ HG tn (Md_lifted md) (Md_now md) (nR tn)) ∧ ∃ md2, Sc (Md_thrown' md 0) md2 ∧ q.2 = stt md2 0) := by
      intro n hn
      obtain ⟨n, rfl⟩ : ∃ k, n = k + 1 := ⟨n - 1, by omega⟩
      unfold f_X13_cannot_L22 f_X13_cannot_L47 f_X13_cannot_L52
      rw [if_neg (by decide), if_pos rfl]
      simp only [lt1_e]
      rw [Ok_bd2]
      refine (r3 _ (Sc.refl _)).mono (fun q hq => ?_)
      rw [hq.1, hT.R]
      by_cases e : c3 = nI (nR tn)
      · rw [if_pos e]
        have := st5 (c3 ≠ nI (nR tn)) n q.2 (by omega) hq.2
        rw [tf_f (P := c3 ≠ nI (nR tn)) (fun h => h e)] at this
        exact this
      · rw [if_neg e, ← tf_t (P := c3 ≠ nI (nR tn)) e]
        exact st5 _ n q.2 (by omega) hq.2
    unfold f_X13_cannot
    rw [lt1_e]
    refine (st3 FU (by rw [FU_e]; omega)).mono (fun q hq => ⟨?_, hq.2⟩)
    rw [hq.1]
    exact tf_c (by rw [or_assoc (a := c3 ≠ nI (nR tn))])
  have cls : Ok (f_X11_isProvedTight co bo ri) (fun c => c.1 = tf ((c3 ≠ nI (nR tn) ∨ c5 ≠ nI (nR tn) ∨ c7 ≠ nI (nR tn)) ∨ HG tn (Md_lifted md) (Md_now md) (nR tn)) ∧ PIo c.2) := by
    have hF : FU = 99996 + 1 + 1 + 1 + 1 := rfl
    unfold f_X11_isProvedTight
    rw [hF, f_X11_isProvedTight_L2, if_neg (by decide), hR.R, Ok_bd2]
    refine (k3 co hc).mono (fun q hq => ?_)
    rw [hq.1]
    by_cases e3 : c3 = nI (nR tn)
    · rw [if_pos e3, lt1_e, f_X11_isProvedTight_L2, if_neg (by decide), hR.R, Ok_bd2]
      refine (k5 _ hq.2).mono (fun q hq => ?_)
      rw [hq.1]
      by_cases e5 : c5 = nI (nR tn)
      · rw [if_pos e5, lt1_e, f_X11_isProvedTight_L2, if_neg (by decide), hR.R, Ok_bd2]
        refine (k7 _ hq.2).mono (fun q hq => ?_)
        rw [hq.1]
        by_cases e7 : c7 = nI (nR tn)
        · rw [if_pos e7, lt1_e, f_X11_isProvedTight_L2, if_pos (by decide)]
          refine ccan_47 hT hR hD hB.2.2.2.2.1 hq.2 ?_ (nR tn) FU 0 (by omega) (by rw [FU_e]; omega) (fun a b h => absurd h (by omega))
          exact ⟨fun h => h.elim (fun h => h.elim (fun h => absurd e3 h) (fun h => h.elim (fun h => absurd e5 h) (fun h => absurd e7 h))) id, Or.inr⟩
        · rw [if_neg e7, Ok_some]
          exact ⟨(tf_t (Or.inl (Or.inr (Or.inr e7)))).symm, hq.2⟩
      · rw [if_neg e5, Ok_some]
        exact ⟨(tf_t (Or.inl (Or.inr (Or.inl e5)))).symm, hq.2⟩
    · rw [if_neg e3, Ok_some]
      exact ⟨(tf_t (Or.inl (Or.inl e3))).symm, hq.2⟩
  refine ref.mono (fun q hq => ?_)
  obtain ⟨q1, md2, q2, q3⟩ := hq
  unfold f_X11_cannot f_X11_cannot_L20
  rw [if_neg (show ¬ (HK_there hk = 0) by rw [ht]; decide), Ok_bd2]
  refine cls.mono (fun c hc' => ?_)
  rw [hc'.1]
  by_cases c : (c3 ≠ nI (nR tn) ∨ c5 ≠ nI (nR tn) ∨ c7 ≠ nI (nR tn)) ∨ HG tn (Md_lifted md) (Md_now md) (nR tn)
  · rw [if_neg (fun e => tf_0.mp e c), grant_t, bd2_e rfl, Ok_some]
    exact ⟨⟨by rw [q1, tf_t c], 0, md2, by decide, rfl, q2, q3⟩, hc'.2⟩
  · rw [if_pos (tf_0.mpr c), grant_t, bd2_e rfl, Ok_some]
    exact ⟨⟨by rw [q1, tf_f c], 0, md2, by decide, rfl, q2, q3⟩, hc'.2⟩
end COLF
