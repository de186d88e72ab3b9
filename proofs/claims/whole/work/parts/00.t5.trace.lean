/-! the tangle of a text that has been read -/
section TRACE
variable {to : ToS} {rd tn : TnS} {P X R : Nat} {ri : RiS}
/-- both tell of a new tangle -/
def NEWT (tn : TnS) (ri : RiS) : Prop := TW tn ∧ TR ri tn ∧ RF ri tn ∧ DW tn none (Tn_first tn) ∧ KR tn (Ri_key ri) (Tn_first tn) ∧ PLS tn (Ri_plus ri) 0
theorem HD.par (hF : HF to P) (h : ∀ k, k < P → HD to ri k) {a : Nat} (ha : a < 2 * P) : Ri_partner ri a = nI (mtv to a) := by
  obtain ⟨e1, e2, e3⟩ := hF.2 a ha
  obtain ⟨_, f1, f2, f3, f4, f5⟩ := hF.1 _ e2
  obtain ⟨d1, d2, _⟩ := h _ e2
  unfold mtv
  by_cases c : hxv to (hlv to a) = a
  · rw [if_pos c, ← d1, c]
  · rw [if_neg c, ← d2]
    rcases e3 with e | e
    · exact absurd e.symm c
    · rw [← e]
theorem trace_e (hT : TB to rd P P X) (hP : 1 ≤ P) (hz : TBz rd) (hb : To_begun to = 1) (ri : RiS) : Ok (f_X12_laysRings rd) (fun tn => Ok (f_X6_trace ri to) (fun ri' => NEWT tn ri' ∧ Ri_count ri' = Tn_rings tn)) := by
  have hn := hT.1.1
  have hF := hT.hf
  obtain ⟨_, n1, n2, n3, n4, n5, n6, n7⟩ := hT.1
  have hrd : Tn_ringOf' rd (Tn_ringOf rd) = rd := rfl
  obtain ⟨g', r1, r2⟩ := ring0_L (rd := rd) hn.1 P FU 0 (Tn_ringOf rd) (by omega) (by rw [FU_e]; omega) n2 (fun k hk => absurd hk (by omega))
  unfold f_X12_laysRings
  rw [show f_X12_laysRings_L2 FU (0 : Int32) rd = f_X12_laysRings_L25 FU 0 (Tn_ringOf' rd g') from r2]
  have honce : To_once to = 0 ∨ To_once to = 1 := by rw [hT.2.1.2.1]; exact hT.2.1.2.2
  obtain ⟨ra, er, f1, f2⟩ := fill_e (N := 8) (by decide) (-1) (Ri_linkRing ri)
  generalize hri : Ri_linkRing' (Ri_linkIn' (Ri_key' (Ri_count' (Ri_standings' (Ri_once' (Ri_tall' (Ri_crossings' (Ri_links' (Ri_people' ri (To_people to)) (To_links to)) (To_crossings to)) (To_tall to)) (To_once to)) 0) 0) 0) (va_cpy (To_linkIn to) (Ri_linkIn ri) 0 0 16)) ra = ria
  have et : f_X6_trace ri to = f_X6_trace_L83 FU 0 ria to := by
    unfold f_X6_trace
    simp only [lt1_e]
    rw [zb_i honce]
    unfold ckc
    rw [if_neg (by decide)]
    simp only [GR_linkIn, GR_key, GR_count, GR_standings, GR_once, GR_tall, GR_crossings, GR_links, GR_people]
    rw [bd1_e er, ← hri]
    rfl
  have g1 : Ri_people ria = nI P := by rw [← hri]; simp only [GR_linkRing, GR_linkIn, GR_key, GR_count, GR_standings, GR_once, GR_tall, GR_crossings, GR_links, GR_people, n1]
  have g2 : Ri_links ria = nI P := by rw [← hri]; simp only [GR_linkRing, GR_linkIn, GR_key, GR_count, GR_standings, GR_once, GR_tall, GR_crossings, GR_links, GR_people, n3]
  have g3 : Ri_crossings ria = nI X := by rw [← hri]; simp only [GR_linkRing, GR_linkIn, GR_key, GR_count, GR_standings, GR_once, GR_tall, GR_crossings, GR_links, GR_people, n5]
  have g4 : Ri_standings ria = 0 := by rw [← hri]; simp only [GR_linkRing, GR_linkIn, GR_key, GR_count, GR_standings, GR_once, GR_tall, GR_crossings, GR_links, GR_people]
  have g5 : Ri_count ria = 0 := by rw [← hri]; simp only [GR_linkRing, GR_linkIn, GR_key, GR_count, GR_standings, GR_once, GR_tall, GR_crossings, GR_links, GR_people]
  have g6 : Ri_tall ria = To_tall to := by rw [← hri]; simp only [GR_linkRing, GR_linkIn, GR_key, GR_count, GR_standings, GR_once, GR_tall, GR_crossings, GR_links, GR_people]
  have g7 : Ri_once ria = To_once to := by rw [← hri]; simp only [GR_linkRing, GR_linkIn, GR_key, GR_count, GR_standings, GR_once, GR_tall, GR_crossings, GR_links, GR_people]
  have g8 : Ri_key ria = 0 := by rw [← hri]; simp only [GR_linkRing, GR_linkIn, GR_key, GR_count, GR_standings, GR_once, GR_tall, GR_crossings, GR_links, GR_people]
  have g9 : ∀ h, h < 16 → Ri_linkIn ria h = To_linkIn to h := by
    intro h hh
    rw [← hri]; simp only [GR_linkRing, GR_linkIn, GR_key, GR_count, GR_standings, GR_once, GR_tall, GR_crossings, GR_links, GR_people]
    unfold va_cpy
    rw [if_pos (by omega)]
    congr 1
    omega
  have g10 : ∀ l, l < 8 → Ri_linkRing ria l = -1 := by
    intro l hl
    rw [← hri]; simp only [GR_linkRing]
    exact f1 l hl
  obtain ⟨ri1, b1, b2, b3⟩ := hands_L hF hn.1 g2 P FU 0 ria (by omega) (by rw [FU_e]; omega) ⟨⟨rfl, rfl, rfl, rfl, rfl, rfl, rfl, rfl⟩, rfl, rfl⟩ (fun k hk => absurd hk (by omega))
  rw [et, show f_X6_trace_L83 FU (0 : Int32) ria to = f_X6_trace_L107 FU 0 0 ri1 to from b3]
  obtain ⟨⟨k1, k2, k3, k4, k5, k6, k7, k8⟩, k9, k10⟩ := b1
  have hRH : RH to P ri1 := ⟨k1.trans g1, fun h hh => ⟨HD.par hF b2 hh, by rw [k9, g9 h (by omega), (hF.2 h hh).1]⟩⟩
  have hRD : RHD to P X ri1 := ⟨⟨k2.trans g2, k3.trans g3, k6.trans g6, k7.trans g7⟩, b2⟩
  have hA : AOK to rd ri1 P 0 [] (fun _ => 0) ri1 (Tn_ringOf' rd g') := by
    refine ⟨⟨?_, ?_, fun i h r w e => by simp at e, ⟨?_, fun s l v e => by simp [wL] at e, fun s _ hs => ?_⟩, fun p hp _ => ?_⟩, ⟨k5.trans g5, rfl, fun i h r w e => by simp at e, ⟨k4.trans g4, fun s l v e => by simp [wL] at e, fun s _ hs => ?_⟩, fun l hl _ => ?_⟩, ⟨List.nodup_nil, List.nodup_nil, fun t ht => by simp at ht⟩, fun z _ ⟨t, ht, _⟩ => by simp at ht, fun z _ ⟨t, ht, _⟩ => by simp at ht, fun z t s _ ht => by simp at ht, rfl, rfl, fun r hr => absurd hr (by omega), fun i t e => by simp at e, fun r hr => absurd hr (by omega)⟩
    · simp only [GT_ringOf]; exact hz.1
    · unfold tk2; simp only [GT_ringOf]
    · simp only [GT_ringOf]; exact hz.2.1
    · simp only [GT_ringOf, hz.2.2]; exact nib_0 s
    · simp only [GT_ringOf]; exact r1 p hp
    · rw [k8, g8]; exact nib_0 s
    · rw [k10]; exact g10 l (by omega)
  refine (rings_J hT hRH P FU FU 0 0 [] (fun _ => 0) ri1 (Tn_ringOf' rd g') (by omega) (by rw [FU_e]; omega) (by rw [FU_e]; omega) (by omega) hA (fun p hp => absurd hp (by omega))).mono (fun tn h => ?_)
  obtain ⟨R', T', fm', ri2, c1, c2, c3⟩ := h
  have hall : ALLT to rd ri1 P X R' T' fm' ri2 tn := ⟨hP, hT, hRH, c1, c2⟩
  rw [show f_X6_trace_L107 FU (0 : Int32) (0 : Int32) ri1 to = _ from c3, Ok_bd1]
  refine (hall.signs hb hRD).mono (fun ri3 h3 => ?_)
  obtain ⟨v, rfl, hv⟩ := h3
  rw [Ok_some]
  refine ⟨⟨hall.tw hb, (hall.tr hb hRD).plus, (hall.rf hb hRD).plus, hall.dw, ?_, ?_⟩, ?_⟩
  · simp only [GR_plus]; exact hall.kr
  · simp only [GR_plus]; exact hv
  · simp only [GR_plus]; rw [c1.2.1.1, c1.1.1]
end TRACE
