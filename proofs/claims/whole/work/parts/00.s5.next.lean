section NEXTF
variable {ri : RiS} {tn : TnS} {hk : HKS} {now : MoS} {bo sb : BoS} {md : MdS} {se : SeS} {pt : Option Nat} {t u t0 kc : Int64} {lf : Int32}
theorem loose_all (hD : DW tn pt t) (h : lsB tn t = true) : ∀ s, s < nS tn → nib t s = 15 := by
  intro s hs
  have h0 : lft tn t = 0 := by unfold lsB at h; exact beq_iff_eq.mp h
  have hc : cnt tn t = 0 := by have := hD.2.1; unfold lft at h0; omega
  unfold cnt at hc
  rw [List.countP_eq_zero] at hc
  exact Classical.byContradiction (fun hn => hc s (List.mem_range.mpr hs) (lvB_t.mpr hn))
theorem loose_u (hD : DW tn pt t) (hD' : DW tn pt u) (h : lsB tn t = true) (h' : lsB tn u = true) : t = u := by
  refine i64_ext (fun s hs => ?_)
  by_cases c : s < nS tn
  · rw [loose_all hD h s c, loose_all hD' h' s c]
  · rw [hD.1.2.2.1 s (by omega) hs, hD'.1.2.2.1 s (by omega) hs]
theorem RK_DW (hT : TW tn) (hD : DW tn pt u) : ∀ k v, RK tn pt lf k u v → DW tn pt v := by
  intro k
  induction k with
  | zero => intro v h; exact (show u = v from h) ▸ hD
  | succ k ih =>
    intro v h
    rcases h with h | ⟨w, h1, h2⟩
    · exact ih v h
    · exact SUC_DW hT (ih w h1) h2
/-- what the reference asks of each move in turn -/
theorem next_ask {k : Nat} {L : List (Int64 × Int32)} {fr : Nat} (hl : lvl tn pt lf t0 (k + 1) = some (L.map Prod.fst, fr)) (hno : ∀ j, j < k + 1 → ¬ LZ tn pt lf j t0) {m : Nat} (hm : m ∈ MM tn pt lf t0) :
    (LZ tn pt lf k (bh tn t0 m) → fewG tn pt lf (bh tn t0 m) k 0 = nI k) ∧ (¬ LZ tn pt lf k (bh tn t0 m) → fewG tn pt lf (bh tn t0 m) k 0 = -2) := by
  obtain ⟨i1, i2, i3, i4, i5, i6, i7⟩ := lvl_I _ _ _ hl
  have hfit : ∀ j, j ≤ k → ∃ q, lvl tn pt lf (bh tn t0 m) j = some q := fun j hj => lvl_fits i2 j (fun v hv => (i4 v).mpr (RK_mono (k + 1) (j + 1) (by omega) (RK_left (MM_suc hm) j v hv)))
  have hn : ∀ j, j < k → ¬ LZ tn pt lf j (bh tn t0 m) := fun j hj ⟨v, h1, h2⟩ => hno (j + 1) (by omega) ⟨v, RK_left (MM_suc hm) j v h1, h2⟩
  obtain ⟨a1, a2⟩ := fewG_at hfit k 0 (by omega) (fun j hj => absurd hj (by omega))
  refine ⟨fun hz => a1 k (by omega) (Nat.le_refl _) hn hz, fun hz => a2 (fun j hj => ?_)⟩
  by_cases c : j = k
  · rw [c]; exact hz
  · exact hn j (by omega)
theorem rnext_L (hT : TW tn) (hD : DW tn pt t0) {k : Nat} (hk : k ≤ 7) {m : Nat} (hm : m ∈ MM tn pt lf t0) (h1 : fewG tn pt lf (bh tn t0 m) k 0 = nI k) (h2 : ∀ m', m' ∈ MM tn pt lf t0 → m' < m → fewG tn pt lf (bh tn t0 m') k 0 = -2) {md0 : MdS} (hn0 : Md_now md0 = t0) (hp0 : Md_parted md0 = ptv pt) (hl0 : Md_lifted md0 = lf) :
    ∀ n a jj md, 2000 - a < n → a ≤ m → fst1 (mayB tn pt lf t0) a jj → Looked md tn pt t0 → Sc md0 md → Ok (f_X13_next_L81 n (nI (k + 1)) (nI jj) md tn) (fun q => q.1 = nI m ∧ ∃ md1, Sc md0 md1 ∧ q.2 = stt md1 0) := by
  have hm2 : m < 2000 := MM_lt hm
  intro n
  induction n with
  | zero => intro a jj md h; omega
  | succ n ih =>
    intro a jj md hn ha hf hL hsc
    have hma : m ∈ MR (mayB tn pt lf t0) a := MR_mem.mpr ⟨ha, hm2, (MR_mem.mp hm).2.2⟩
    rcases hf with ⟨e, _⟩ | ⟨f1, f2, f3, f4⟩
    · rw [e] at hma; cases hma
    · have q : ¬ (nI 2000 ≤ nI jj) := nI_ge f1 (by omega)
      have hjj : jj ∈ MM tn pt lf t0 := MR_mem.mpr ⟨Nat.zero_le _, f1, f3⟩
      obtain ⟨m1, m2⟩ := mayB_can f3
      rw [f_X13_next_L81, if_neg (show ¬ ((2000 : Int32) ≤ nI jj) from q), hsc.now.trans hn0, bd1_e (behind_e hT hL hD.1 m1 m2.lv), nI_pred, Ok_bd2]
      refine (few_e hT (show k ≤ 8 by omega) (hD.bh hT m1 m2) (hsc.parted.trans hp0) (hsc.lifted.trans hl0)).mono (fun r hr => ?_)
      obtain ⟨r1, r2⟩ := hr
      have sc2 := hsc.trans r2
      rw [r1]
      by_cases c : jj = m
      · subst c
        rw [h1, if_pos rfl, good_t, bd2_e rfl, Ok_some]
        exact ⟨rfl, r.2, sc2, rfl⟩
      · rw [f4] at hma
        have hlt : jj < m := by
          rcases List.mem_cons.mp hma with e | e
          · omega
          · have := (MR_mem.mp e).1; omega
        rw [h2 jj hjj hlt, if_neg (fun e => (nI8 k (by omega)).2.2.1 e.symm), Ok_bd1]
        refine (rLooks (md := r.2) (t := Md_now r.2) hT (by rw [sc2.now, hn0]; exact hD.1) hD.pt (sc2.parted.trans hp0)).mono (fun md5 hm5 => ?_)
        rw [sc2.now, hn0] at hm5
        obtain ⟨i, e1, e2⟩ := nextMay_e (v := nI jj) (a := jj + 1) hT hD.1 hm5.2 (nI_1 _) (by omega)
        have sc5 := sc2.trans hm5.1.sc
        rw [sc5.lifted, hl0] at e2
        rw [bd1_e e1]
        exact ih (jj + 1) i md5 (by omega) (by omega) e2 hm5.2 sc5
theorem a_next (h : IVt tn ri now bo md) (ht : HK_there hk = 1) (hS : ∃ ks, CT1 se ks) (v : Int32) : Ok (f_X13_next md tn v) (fun q => Ok (f_X11_next hk se sb now ri v) (fun c => AN hk md c.1 c.2.1 q ∧ ∃ ks, CT1 c.2.2.1 ks)) := by
  obtain ⟨pt, s, hT, hR, hD, hp, _, _, hK, hP, hpa, _, hB⟩ := h
  unfold f_X13_next f_X11_next f_X11_next_L24
  rw [lt1_e, gn_now_thrown, if_neg (show ¬ (HK_there hk = 0) by rw [ht]; decide)]
  have bad : Ok (bd2 (f_X13_refused (Md_thrown' md 0) 2) fun (r_6 : Int32) (md_7 : MdS) => some (r_6, md_7)) (fun q => Ok (bd2 (f_X11_refuse hk 2) fun (r_8 : Int32) (hk_9 : HKS) => some (r_8, hk_9, se, sb)) (fun c => AN hk md c.1 c.2.1 q ∧ ∃ ks, CT1 c.2.2.1 ks)) := by
    rw [refused_t, refuse_t, bd2_e rfl, bd2_e rfl, Ok_some, Ok_some]
    exact ⟨AN.mk (by decide) (Sc.refl _), hS⟩
  have inn : f_X13_in v 1 8 = (if v = 0 then some 0 else f_X13_in v 0 8) := by
    unfold f_X13_in
    by_cases c : v < 0
    · have c1 : v < 1 := by rw [Int32.lt_iff_toInt_lt] at c ⊢; have e1 : (0 : Int32).toInt = 0 := rfl; have e2 : (1 : Int32).toInt = 1 := rfl; omega
      rw [if_pos c1, if_pos c, ite_self]
    · obtain ⟨j, hj, rfl⟩ := nI_of c
      by_cases d : j = 0
      · subst d; rfl
      · have c1 : ¬ (nI j < nI 1) := nI_nlt (by omega) (by omega)
        rw [if_neg (show ¬ (nI j < (1 : Int32)) from c1), if_neg (nI_ne0 (by omega) (by omega)), if_neg c]
  rw [inn]
  by_cases c0 : v = 0
  · subst c0
    rw [if_pos rfl, bd1_e rfl, if_pos rfl]
    have : f_X11_isDepth 0 = some 1 := by decide
    rw [bd1_e this, if_neg (by decide), if_pos rfl]
    exact bad
  · rw [if_neg c0]
    rcases b_depth v with ⟨d, hd, rfl, e1, e2⟩ | ⟨e1, e2⟩
    · rw [bd1_e e2, bd1_e e1, if_neg (show ¬ ((1 : Int32) = 0) by decide), if_neg (show ¬ ((1 : Int32) = 0) by decide), if_neg c0, Ok_bd2]
      refine (few_e (md := Md_thrown' md 0) hT hd hD (by rw [gn_parted_thrown]; exact hp) (gn_lifted_thrown _ _)).mono (fun q hq => ?_)
      obtain ⟨q1, q2⟩ := hq
      have hg := grow_e (sb := sb) hT hR rfl hP hpa hd hS hK hD
      unfold f_X7_firstToLoose
      rw [q1]
      obtain ⟨r, hr0, hr⟩ := hg
      rcases hr with ⟨r1, r2, r3⟩ | ⟨r1, r2, r3⟩ | ⟨j, L, fr, hj, r1, r2, r3, r4, r5⟩
      · rw [r2, if_pos rfl, refused_t, bd2_e rfl, Ok_some, Ok_bd3, Ok_bd3, Ok_eq hr0, r1, if_pos rfl, Ok_some, if_pos rfl, refuse_t, bd2_e rfl, Ok_some]
        exact ⟨AN.mk (by decide) q2, r3⟩
      · rw [r2, if_neg (by decide), if_neg (by decide), good_t, bd2_e rfl, Ok_some, Ok_bd3, Ok_bd3, Ok_eq hr0, r1, if_neg (by decide), if_pos (by decide), Ok_some, if_neg (show ¬ ((-2 : Int32) = -3) by decide), grant_t, bd2_e rfl, Ok_some]
        exact ⟨AN.mk (by decide) q2, r3⟩
      · rw [r2, if_neg (nI8 j (by omega)).1]
        cases j with
        | zero =>
          rw [if_neg (by decide), good_t, bd2_e rfl, Ok_some, Ok_bd3, Ok_bd3, Ok_eq hr0, r1, if_neg (by decide), if_pos (by decide), Ok_some, if_neg (show ¬ ((-2 : Int32) = -3) by decide), grant_t, bd2_e rfl, Ok_some]
          exact ⟨AN.mk (by decide) q2, r4.ct⟩
        | succ k =>
          have hpos : nI 0 < nI (k + 1) := nI_lt (by omega) (by omega)
          obtain ⟨n1, n2, n3, n4⟩ := fewG_nI d 0 (k + 1) (by omega) (fun j hj => absurd hj (by omega)) r2 (by omega)
          have hlv := lvl_of r3
          obtain ⟨i1, i2, i3, i4, i5, i6, i7⟩ := lvl_I _ _ _ hlv
          have hct := r4.ct
          have hlen := r4.len
          have hX := r4
          obtain ⟨ks, k1, k2, k3, k4, k5⟩ := r4
          rcases k5 with ⟨_, k6⟩ | ⟨i, t, f, k6, k7, k8⟩
          · exfalso
            obtain ⟨x, hx1, hx2⟩ := List.any_eq_true.mp r5
            rw [k6 x (List.mem_of_mem_drop hx1)] at hx2
            cases hx2
          · have hil : i < L.length := (List.getElem?_eq_some_iff.mp k6).1
            have hDt := (k4 i t f k6).1
            have hff := (k4 i t f k6).2.2.1
            have hfi : fr ≤ i := by
              refine Nat.le_of_not_lt (fun hlt => ?_)
              have hmem : t ∈ (L.map Prod.fst).take fr := by
                rw [List.mem_take_iff_getElem]
                refine ⟨i, by rw [List.length_map]; omega, ?_⟩
                rw [List.getElem_map]
                rw [(List.getElem?_eq_some_iff.mp k6).2]
              obtain ⟨j', hj', hrk⟩ := i7 t hmem
              exact n3 j' hj' ⟨t, hrk, k7⟩
            have hdrop : (t, f) ∈ L.drop fr := by
              rw [List.mem_drop_iff_getElem]
              exact ⟨i - fr, by omega, by rw [← (List.getElem?_eq_some_iff.mp k6).2]; congr 1; omega⟩
            obtain ⟨m, m1, m2, m3, m4⟩ := (lvlL_lab k L fr r3).1 _ hdrop
            have ask := fun m (hm : m ∈ MM tn pt (Md_lifted md) (Md_now md)) => next_ask hlv n3 hm
            have w1 := (ask m m1).1 ⟨t, m3, k7⟩
            have w2 : ∀ m', m' ∈ MM tn pt (Md_lifted md) (Md_now md) → m' < m → fewG tn pt (Md_lifted md) (bh tn (Md_now md) m') k 0 = -2 := by
              intro m' hm' hlt
              refine (ask m' hm').2 (fun hz => ?_)
              obtain ⟨u, u1, u2⟩ := hz
              obtain ⟨z1, z2⟩ := mayB_can (MR_mem.mp hm').2.2
              have hDu := RK_DW hT (hD.bh hT z1 z2) k u u1
              have := loose_u hDt hDu k7 u2
              rw [← this] at u1
              exact m4 m' hm' hlt u1
            rw [if_pos (show (0 : Int32) < nI (k + 1) from hpos), Ok_bd1]
            have en : Md_now q.2 = Md_now md := q2.now.trans (gn_now_thrown _ _)
            refine (rLooks (md := q.2) (t := Md_now q.2) hT (by rw [en]; exact hD.1) hD.pt (q2.parted.trans ((gn_parted_thrown _ _).trans hp))).mono (fun md5 hm5 => ?_)
            rw [en] at hm5
            obtain ⟨i0, z1, z2⟩ := nextMay_e (v := -1) (a := 0) hT hD.1 hm5.2 (by decide) (by omega)
            have sc5 := q2.trans hm5.1.sc
            rw [sc5.lifted, gn_lifted_thrown] at z2
            rw [bd1_e z1]
            refine (rnext_L (md0 := Md_thrown' md 0) hT hD (show k ≤ 7 by omega) m1 w1 w2 (gn_now_thrown _ _) ((gn_parted_thrown _ _).trans hp) (gn_lifted_thrown _ _) FU 0 i0 md5 (by rw [FU_e]; omega) (by omega) z2 hm5.2 sc5).mono (fun w hw => ?_)
            obtain ⟨w3, md1, w4, w5⟩ := hw
            have hm2 : m < 2000 := MM_lt m1
            have g1 : ¬ (nI (k + 1) ≤ nI 0) := nI_ge (by omega) (by omega)
            have g2 : ¬ (nI i < nI 0) := nI_nlt (by omega) (by omega)
            rw [Ok_bd3, Ok_bd3, Ok_eq hr0, r1, if_neg (nI8 (k + 1) (by omega)).2.1, if_neg (show ¬ (nI (k + 1) ≤ (0 : Int32)) from g1), k8, if_neg (show ¬ (nI i < (0 : Int32)) from g2), ckI (show i < 4000 by omega) (by decide), nI_clamp (by omega), Ok_some, hff, show f = nI m from m2, if_neg (nI4k m (by omega)), grant_t, bd2_e rfl, Ok_some]
            exact ⟨⟨w3.symm, 0, md1, by decide, rfl, w4, w5⟩, hct⟩
    · rw [bd1_e e2, bd1_e e1, if_pos rfl, if_pos rfl]
      exact bad
end NEXTF
