section STEP2
variable {to : ToS} {rd : TnS} {P X R : Nat} {T : List (Nat × Nat × Nat)} {h w : Nat} {ri ri0 : RiS}
/-- what never changes of the class's rings while they are traced -/
def RH (to : ToS) (P : Nat) (ri0 : RiS) : Prop := Ri_people ri0 = nI P ∧ ∀ h, h < 2 * P → Ri_partner ri0 h = nI (mtv to h) ∧ Ri_linkIn ri0 h = nI (hlv to h)
def FM (ri ri' : RiS) : Prop := Ri_firstMember ri' = Ri_firstMember ri ∧ Ri_firstStanding ri' = Ri_firstStanding ri
theorem cstep (hT : TB to rd P P X) (hH : RH to P ri0) (hS : SXc to ri0 P R T ri) (hN : NEW to P R T h w) (hlen : (wL to (T ++ [(h, R, w)])).length ≤ 14) (hw : w < P) (hTl : T.length < P) {p f : Nat} (hp : p < P) :
    ∃ ri', SXc to ri0 P R (T ++ [(h, R, w)]) ri' ∧ FM ri ri' ∧ f_X6_traceRing_L35 (f + 1) (nI p) (nI T.length) (nI h) (nI w) ri to = (if mtv to h / 2 = p then f_X6_traceRing_L145 (nI (T.length + 1)) ri' else f_X6_traceRing_L35 f (nI p) (nI (T.length + 1)) (nI (xr (mtv to h))) (nI (w + 1)) ri' to) := by
  have hn := hT.1.1
  have hF := hT.hf
  obtain ⟨s1, s2, s3, s4, s5⟩ := hS
  obtain ⟨n1, n2, n3, n4, n5, n6, n7⟩ := hN
  obtain ⟨e1, e2, e3⟩ := hF.2 h n1
  obtain ⟨⟨d1, d2⟩, f1, f2, f3, f4, f5⟩ := hF.1 _ e2
  have hm := hF.mt n1
  have kp : Ri_people ri = nI P := (congrArg (fun z => z.1.1) s2).trans hH.1
  have kl : Ri_linkIn ri h = nI (hlv to h) := by
    have : Ri_linkIn ri = Ri_linkIn ri0 := congrArg (fun z => z.2.2.1) s2
    rw [this, (hH.2 h n1).2]
  have q0 : ¬ (nI (hlv to h) < nI 0) := nI_nlt (by omega) (by omega)
  have key : ∀ (t3 : Int32) (a : Bool), (t3 = if a then 1 else 0) → alo to h = a → ∃ ri', SXc to ri0 P R (T ++ [(h, R, w)]) ri' ∧ FM ri ri' ∧ f_X6_traceRing_L109 (nI p) (nI (T.length + 1)) (nI h) (nI w) (nI (hlv to h)) t3 (Ri_members' ri (upd (Ri_members ri) T.length (nI (h / 2)))) to (fun y0 y1 y2 y3 y4 y5 => f_X6_traceRing_L35 f y0 y1 y2 y3 y4 y5) = (if mtv to h / 2 = p then f_X6_traceRing_L145 (nI (T.length + 1)) ri' else f_X6_traceRing_L35 f (nI p) (nI (T.length + 1)) (nI (xr (mtv to h))) (nI (w + 1)) ri' to) := by
    intro t3 a ht ha
    have hb0 : t3 = 0 ↔ a = false := by rw [ht]; cases a <;> simp
    unfold f_X6_traceRing_L109 f_X6_traceLink
    have etl : ∀ r4 : RiS, (if t3 = 0 then f_X6_traceLink_L14 (nI (hlv to h)) t3 (nI (hlv to h)) 0 r4 to else f_X6_traceLink_L14 (nI (hlv to h)) t3 (nI (hlv to h)) 1 r4 to) = f_X6_traceLink_L14 (nI (hlv to h)) t3 (nI (hlv to h)) t3 r4 to := by
      intro r4
      cases a with
      | false => rw [if_pos (hb0.mpr rfl), show t3 = 0 from hb0.mpr rfl]
      | true => rw [if_neg (fun e => by have := hb0.mp e; cases this), show t3 = 1 from ht]
    rw [etl]
    unfold f_X6_traceLink_L14
    simp only [lt1_e, ckI (show hlv to h < 8 by omega) (show 8 < 2 ^ 31 by decide), nI_clamp (show hlv to h < 2 ^ 31 by omega), GR_along, GR_linkRing, GR_members]
    generalize hr3 : Ri_linkStart' (Ri_linkRing' (Ri_along' (Ri_members' ri (upd (Ri_members ri) T.length (nI (h / 2)))) (upd (Ri_along ri) (hlv to h) t3)) (upd (Ri_linkRing ri) (hlv to h) (Ri_count ri))) (upd (Ri_linkStart ri) (hlv to h) (Ri_standings ri)) = r3
    have g1 : Ri_members r3 = upd (Ri_members ri) T.length (nI (h / 2)) := by rw [← hr3]; simp only [GR_linkStart, GR_linkRing, GR_along, GR_members]
    have g2 : Ri_along r3 = upd (Ri_along ri) (hlv to h) t3 := by rw [← hr3]; simp only [GR_linkStart, GR_linkRing, GR_along, GR_members]
    have g3 : Ri_linkRing r3 = upd (Ri_linkRing ri) (hlv to h) (nI R) := by rw [← hr3]; simp only [GR_linkStart, GR_linkRing, GR_along, GR_members, s1]
    have g4 : Ri_linkStart r3 = upd (Ri_linkStart ri) (hlv to h) (nI (wL to T).length) := by rw [← hr3]; simp only [GR_linkStart, GR_linkRing, GR_along, GR_members, s4.1]
    have g5 : rk2 r3 = rk2 ri0 := by rw [← s2, ← hr3]; unfold rk2; simp only [GR_linkStart, GR_linkRing, GR_along, GR_members]
    have g6 : Ri_count r3 = nI R := by rw [← hr3]; simp only [GR_linkStart, GR_linkRing, GR_along, GR_members, s1]
    have g7 : SWc (wL to T) r3 := by
      obtain ⟨z1, z2, z3⟩ := s4
      refine ⟨?_, fun s l v e => ?_, fun s hs h16 => ?_⟩
      · rw [← hr3]; simp only [GR_linkStart, GR_linkRing, GR_along, GR_members, z1]
      · have := z2 s l v e
        rw [← hr3]
        simp only [GR_linkStart, GR_linkRing, GR_along, GR_members]
        exact this
      · have := z3 s hs h16
        rw [← hr3]
        simp only [GR_linkStart, GR_linkRing, GR_along, GR_members]
        exact this
    have g8 : FM ri r3 := by unfold FM; rw [← hr3]; simp only [GR_linkStart, GR_linkRing, GR_along, GR_members, and_self]
    have hlen2 := hlen
    rw [wL_snoc, List.length_append] at hlen2
    have hsl : (stL to (hlv to h) (alo to h) 1).length = (sT to h).length := by unfold sT; rw [List.length_map]
    have hls := lt_L (ri0 := r3) hT (show hlv to h < 8 by omega) (al := alo to h) (x3 := t3) (by rw [ha]; exact hb0) 9 FU 1 (wL to T) r3 (by omega) (by rw [FU_e]; omega) (by omega) (by rw [hsl]; exact hlen2) g7 rfl
    obtain ⟨r8, h80, h81, h82⟩ := hls
    have h80 : f_X6_traceLink_L38 FU (nI (hlv to h)) t3 (1 : Int32) r3 to = some r8 := h80
    rw [bd1_e h80]
    have q1 : Ri_members r8 = Ri_members r3 := congrArg (fun z => z.2.1.1) h82
    have q2 : Ri_along r8 = Ri_along r3 := congrArg (fun z => z.2.2.1) h82
    have q3 : Ri_linkRing r8 = Ri_linkRing r3 := congrArg (fun z => z.2.2.2.1) h82
    have q4 : Ri_linkStart r8 = Ri_linkStart r3 := congrArg (fun z => z.2.2.2.2.1) h82
    have q5 : rk2 r8 = rk2 r3 := congrArg (fun z => ((z.1.1, z.1.2.1, z.1.2.2.1, z.1.2.2.2.2.1, z.1.2.2.2.2.2.1), (z.2.1.2.2.2.1, z.2.1.2.2.2.2, z.2.2.2.2.2.1, z.2.2.2.2.2.2))) h82
    have q6 : Ri_count r8 = Ri_count r3 := congrArg (fun z => z.1.2.2.2.1) h82
    have q7 : FM ri r8 := ⟨(congrArg (fun z => z.2.1.2.1) h82).trans g8.1, (congrArg (fun z => z.2.1.2.2.1) h82).trans g8.2⟩
    have kpt : Ri_partner r8 h = nI (mtv to h) := by
      have : Ri_partner r8 = Ri_partner ri0 := congrArg (fun z => z.2.1) (q5.trans g5)
      rw [this, (hH.2 h n1).1]
    have hX : SXc to ri0 P R (T ++ [(h, R, w)]) r8 := by
      refine ⟨q6.trans g6, q5.trans g5, fun i h' r w' e => ?_, ?_, fun l hl hno => ?_⟩
      · rw [q1, q2, q3, q4, g1, g2, g3, g4]
        rcases getE_snoc e with ⟨c, e⟩ | ⟨c, e⟩
        · have hmem := List.mem_of_getElem? e
          obtain ⟨a1, a2, a3, a4⟩ := s3 i h' r w' e
          rw [upd_ne (by omega), upd_ne (n5 _ hmem), upd_ne (n5 _ hmem), upd_ne (n5 _ hmem), take_snoc (by omega)]
          exact ⟨a1, a2, a3, a4⟩
        · cases e
          subst c
          rw [upd_at, upd_at, upd_at, upd_at, ha, take_snoc (Nat.le_refl _), List.take_length]
          exact ⟨rfl, ht, rfl, rfl⟩
      · rw [wL_snoc]
        exact h81
      · rw [q3, g3, upd_ne (fun e => hno (h, R, w) (List.mem_append_right _ (List.mem_singleton.mpr rfl)) e.symm)]
        exact s5 l hl (fun t ht => hno t (List.mem_append_left _ ht))
    refine ⟨r8, hX, q7, ?_⟩
    rw [ckI (show h < 16 by omega) (by decide), ckI (show h < 16 by omega) (by decide), nI_clamp (show h < 2 ^ 31 by omega), kpt, nI_1, xr_e _ (by omega), li_2, nI_div (by omega) (by omega)]
    by_cases c : mtv to h / 2 = p
    · rw [if_pos (by rw [c]), if_pos c]
    · rw [if_neg (fun e => c (nI_inj e (by omega) (by omega))), if_neg c]
  rw [f_X6_traceRing_L35, kp, if_neg (nI_ge hw (by omega)), if_neg (nI_ge hTl (by omega)), ckI (show h < 16 by omega) (by decide), nI_clamp (show h < 2 ^ 31 by omega), kl, if_neg (show ¬ (nI (hlv to h) < 0) from q0), ckI (show T.length < 8 by omega) (by decide), nI_clamp (show T.length < 2 ^ 31 by omega)]
  simp only [lt1_e, nI_1, li_2, nI_div (show h < 2 ^ 31 by omega) (show 2 < 2 ^ 31 by decide), GR_members, kl, ckI (show h < 16 by omega) (show 16 < 2 ^ 31 by decide), nI_clamp (show h < 2 ^ 31 by omega), nI_mul, ckI (show 2 * hlv to h < 16 by omega) (show 16 < 2 ^ 31 by decide), nI_clamp (show 2 * hlv to h < 2 ^ 31 by omega), d1]
  by_cases c : hxv to (hlv to h) = h
  · rw [if_pos (by rw [c])]
    exact key 1 true rfl (by unfold alo; rw [decide_eq_true c])
  · rw [if_neg (fun e => c (nI_inj e (by omega) (by omega)))]
    exact key 0 false rfl (by unfold alo; rw [decide_eq_false c])
end STEP2
