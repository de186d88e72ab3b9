theorem gn_spotOf_pastNow (md : MdS) (f : Nat → Int64) : Md_spotOf (Md_pastNow' md f) = Md_spotOf md := rfl
theorem gn_spotOf_pastParted (md : MdS) (f : Nat → Int32) : Md_spotOf (Md_pastParted' md f) = Md_spotOf md := rfl
theorem gn_spotOf_pastSeed (md : MdS) (f : Nat → Int32) : Md_spotOf (Md_pastSeed' md f) = Md_spotOf md := rfl
theorem gn_spotOf_pastLifted (md : MdS) (f : Nat → Int32) : Md_spotOf (Md_pastLifted' md f) = Md_spotOf md := rfl
theorem gn_spotOf_acts (md : MdS) (f : Int32) : Md_spotOf (Md_acts' md f) = Md_spotOf md := rfl
theorem ck_some {α : Type} {i : Int32} {n : Nat} {K : Option α} {r : α} (h : ck i n K = some r) : K = some r := by
  unfold ck at h
  split at h
  · cases h
  · exact h
theorem keeps91_s {md md' : MdS} (h : f_X13_keeps_L91 md = some md') : Md_spotOf md' = Md_spotOf md := by
  unfold f_X13_keeps_L91 at h
  simp only [lt1_e] at h
  have h := ck_some (ck_some (ck_some (ck_some h)))
  obtain rfl := Option.some.inj h
  rw [gn_spotOf_acts, gn_spotOf_pastLifted, gn_spotOf_pastSeed, gn_spotOf_pastParted, gn_spotOf_pastNow]
theorem keeps11_s : ∀ n i (md md' : MdS), f_X13_keeps_L11 n i md = some md' → Md_spotOf md' = Md_spotOf md := by
  intro n
  induction n with
  | zero => intro i md md' h; cases h
  | succ n ih =>
    intro i md md' h
    rw [f_X13_keeps_L11] at h
    simp only [lt1_e] at h
    split at h
    · rw [keeps91_s h, gn_spotOf_acts]
    · have h := ck_some (ck_some (ck_some (ck_some (ck_some (ck_some (ck_some (ck_some h)))))))
      rw [ih _ _ _ h, gn_spotOf_pastLifted, gn_spotOf_pastSeed, gn_spotOf_pastParted, gn_spotOf_pastNow]
theorem keeps_s {md md' : MdS} (h : f_X13_keeps md = some md') : Md_spotOf md' = Md_spotOf md := by
  unfold f_X13_keeps at h
  split at h
  · exact keeps11_s _ _ _ _ h
  · exact keeps91_s h
section LIFTS
variable {ri : RiS} {tn : TnS} {hk : HKS} {now : MoS} {bo wb : BoS} {md : MdS} {hi : HiS} {t : Int64} {x : Nat} {pt : Option Nat}
theorem lifted_e2 (hT : TW tn) (hC : CW tn t) {md md5 : MdS} (hL : Looked md tn pt t) (he : Md_spotOf md5 = Md_spotOf md) (hx : x < nX tn) (h0 : LV tn t (2 * x)) (h1 : LV tn t (2 * x + 1)) : f_X13_liftedFrom md5 t (nI x) = some (chg tn t t (2 * x) (2 * x + 1)) := by
  have := lifted_e hT hC hL hx h0 h1
  unfold f_X13_liftedFrom at this ⊢
  rw [he]
  exact this
theorem a_lifts (h : IVt tn ri now bo md) (hH : HR tn hi md) (ht : HK_there hk = 1) (v : Int32) : Ok (f_X13_lifts md tn v) (fun q => Ok (f_X11_lifts hk bo hi now ri v) (fun c => AC tn ri hk md c.1 c.2.1 c.2.2.1 c.2.2.2.1 c.2.2.2.2 q)) := by
  obtain ⟨hT, hR⟩ := h.tw
  unfold f_X13_lifts f_X11_lifts
  rw [lt1_e]
  rcases b_cross hT hR ht v with ⟨x, hx, rfl, e1, e2⟩ | ⟨e1, e2⟩
  · rw [bd1_e e2, bd1_e e1, if_neg (show ¬ ((1 : Int32) = 0) by decide), if_neg (show ¬ ((1 : Int32) = 0) by decide)]
    have h0 := h
    have h7 := hT.x7
    obtain ⟨pt, s, _, _, hD, hp, hs, hs2, hK, hP, hpa, hse, hB⟩ := h
    rw [bd1_e (isLeft_e hT hB.2.2.2.2.1 hx), Ok_bd2]
    refine (risLeft_e (md := Md_thrown' md 0) hT hD (by rw [gn_parted_thrown]; exact hp) (gn_now_thrown _ _) hx).mono (fun r hr => ?_)
    obtain ⟨r1, md4⟩ := r
    obtain ⟨r2, r3, r4⟩ := hr
    show Ok (if r1 = 0 then _ else _) _
    rw [show r1 = _ from r2]
    cases el : spt tn (Md_now md) (2 * x) with
    | none =>
      rw [if_pos (show bI (none : Option Nat).isSome = 0 from rfl), lost_t, bd2_e rfl, Ok_some, if_pos (show bI (none : Option Nat).isSome = 0 from rfl), refuseS_t, bd2_e rfl, Ok_some]
      exact AN.ac (AN.mk (by decide) r3.sc) h0 hH
    | some s0 =>
      have nz1 : ¬ (bI (some s0).isSome = 0) := show ¬ (bI true = 0) by decide
      rw [if_neg nz1, if_neg nz1, Ok_bd1]
      have hs0 := (spt_some hD.1 (by omega)).mp el
      have lv0 : LV tn (Md_now md) (2 * x) := ⟨s0, hs0⟩
      have lv1 : LV tn (Md_now md) (2 * x + 1) := (hD.1.2.2.2 x hx).mp lv0
      have sc4 := r3.sc
      have h4 : IVt tn ri now bo md4 := h0.th.of sc4.now sc4.parted sc4.seed sc4.lifted
      have H4 : HR tn hi md4 := hH.th.of sc4.acts sc4.marks sc4.pastNow sc4.pastParted sc4.pastSeed sc4.pastLifted sc4.keptNow sc4.keptParted sc4.keptSeed sc4.keptLifted
      obtain ⟨md5, k0, kp, hi', k1, k2⟩ := keep_e H4 h4.nw
      refine (Ok_eq k0).mpr ?_
      have kp6 := sc4.kp.trans kp
      have en : Md_now md5 = Md_now md := kp6.now.trans (gn_now_thrown _ _)
      have elf : Md_lifted md5 = Md_lifted md := kp6.lifted.trans (gn_lifted_thrown _ _)
      have LDc := LD_chg hT hD.1 hx lv0 lv1
      rw [en, bd1_e (lifted_e2 hT hD.1 r4 (keeps_s k0) hx lv0 lv1), lt1_e, lt1_e, bd1_e (signNow_e hT hx), good_t, bd2_e rfl, Ok_some, bd1_e k1, Ok_bd1]
      refine (turnOver_e hT hx hK).mono (fun now4 hn4 => ?_)
      obtain ⟨n1, n2, n3, n4⟩ := hn4
      have hD' := LDc.DW hT hD hx
      have hP' := hP.lift hT hx
      have nw : NW tn now4 (stt (Md_lifted' (Md_now' md5 (chg tn (Md_now md) (Md_now md) (2 * x) (2 * x + 1))) (Md_lifted (Md_now' md5 (chg tn (Md_now md) (Md_now md) (2 * x) (2 * x + 1))) ^^^ ((1 : Int32) <<< (nI x &&& 31)))) 0) := by
        unfold NW
        simp only [stt, GW_where, GW_trouble, GW_lifted, GW_now]
        refine ⟨pt, s, hs2, hD', n4 _ LDc, ?_, n3.trans hpa, ?_, n2.trans hse, ?_⟩
        · rw [n1, elf]; exact hP'
        · rw [kp6.parted, gn_parted_thrown]; exact hp
        · rw [kp6.seed, gn_seed_thrown]; exact hs
      rw [Ok_bd1]
      refine (nw.iv hT hR bo).mono (fun bo' hB' => ?_)
      have hB2 := hB'
      obtain ⟨pt', s', _, _, hDD, _, _, _, _, _, _, _, hBB⟩ := hB'
      rw [bd1_e (csign_e hT hBB.2.2.2.2.1 hx)]
      have lv0' : LV tn (chg tn (Md_now md) (Md_now md) (2 * x) (2 * x + 1)) (2 * x) := by
        obtain ⟨k, hk, ek⟩ := lv1
        exact ⟨k, hk, by rw [LDc.1 k hk, ek, tov_1]⟩
      obtain ⟨k', hk', ek'⟩ := lv0'
      have el' := (spt_some hD'.1 (show 2 * x ≠ 15 by omega)).mpr ⟨hk', ek'⟩
      have enow : Md_now (stt (Md_lifted' (Md_now' md5 (chg tn (Md_now md) (Md_now md) (2 * x) (2 * x + 1))) (Md_lifted (Md_now' md5 (chg tn (Md_now md) (Md_now md) (2 * x) (2 * x + 1))) ^^^ ((1 : Int32) <<< (nI x &&& 31)))) 0) = chg tn (Md_now md) (Md_now md) (2 * x) (2 * x + 1) := by
        simp only [stt, GW_where, GW_trouble, GW_lifted, GW_now]
      rw [enow, el', if_pos (show (some k').isSome = true from rfl), grant_t, bd2_e rfl, Ok_some]
      refine ⟨?_, hB2, (k2.of ?_ ?_ ?_ ?_ ?_ ?_ ?_ ?_ ?_ ?_), RST.fx ?_⟩
      · simp only [stt, GW_where, GW_trouble, GW_lifted, GW_now]
      all_goals simp only [RST, stt, GW_where, GW_trouble, GW_lifted, GW_now, kp6.tape, kp6.taped, kp6.fault, kp6.thrown, GW_thrown, and_self]
  · rw [bd1_e e2, bd1_e e1, if_pos rfl, if_pos rfl, lost_t, refuseS_t, bd2_e rfl, bd2_e rfl, Ok_some, Ok_some]
    exact AN.ac (AN.mk (by decide) (Sc.refl _)) h hH
end LIFTS
