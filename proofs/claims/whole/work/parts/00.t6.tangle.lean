/-! the call that reads a tangle -/
/-- what class and reference have in common, ahead of each call -/
def INV (hk : HKS) (re : ReS) (ta : TaS) (ri : RiS) (now : MoS) (hi : HiS) (bo : BoS) (se : SeS) (co : CoS) (ch : ChS) (md : MdS) (ot : Option TnS) : Prop :=
  (HK_trouble hk = Md_trouble md ∧ Md_where md = (if Md_trouble md = 4 then Re_place re else -1) ∧ Re_fault re = Md_fault md) ∧
  (TP ta md ∧ ∀ i, i < 11 → Ta_words ta i = spvL.getD i 0) ∧ ((∃ ks, CT1 se ks) ∧ PIo co ∧ ChI ch) ∧
  (match ot with
    | none => HK_there hk = 0 ∧ Hi_kept hi = 0 ∧ Hi_marked hi = 0
    | some tn => HK_there hk = 1 ∧ IVt tn ri now bo md ∧ HR tn hi md ∧ RF ri tn)
section TANGLE
variable {hk : HKS} {re : ReS} {ta : TaS} {ri : RiS} {now : MoS} {hi : HiS} {bo : BoS} {se : SeS} {co : CoS} {ch : ChS} {md : MdS} {ot : Option TnS} {to : ToS}
/-- nothing told yet -/
theorem told0_e (to : ToS) : Ok (f_X9_clear to) (fun to' => TB to' Tn0 0 0 0 ∧ TBz Tn0) := by
  unfold f_X9_clear
  simp only [lt1_e]
  rw [Ok_bd1]
  refine (fill_e (N := 16) (by decide) (-1) _).mono (fun ra h => ?_)
  rw [Ok_bd1]
  refine (fill_e (N := 80) (by decide) 0 _).mono (fun rb h2 => ?_)
  rw [Ok_some]
  generalize ht : To_passes' (To_linkIn' (To_plus' (To_crossings' (To_links' (To_people' (To_tall' (To_once' (To_begun' to 0) 0) 0) 0) 0) 0) 0) ra) rb = t9
  have g1 : To_begun t9 = 0 := by rw [← ht]; rfl
  have g2 : To_once t9 = 0 := by rw [← ht]; rfl
  have g3 : To_people t9 = 0 := by rw [← ht]; rfl
  have g4 : To_links t9 = 0 := by rw [← ht]; rfl
  have g5 : To_crossings t9 = 0 := by rw [← ht]; rfl
  have g6 : To_plus t9 = 0 := by rw [← ht]; rfl
  have g7 : ∀ i, i < 16 → To_linkIn t9 i = -1 := by
    intro i hi
    have : To_linkIn t9 = ra := by rw [← ht]; rfl
    rw [this]; exact h.1 i hi
  have g8 : ∀ i, i < 80 → To_passes t9 i = 0 := by
    intro i hi
    have : To_passes t9 = rb := by rw [← ht]; rfl
    rw [this]; exact h2.1 i hi
  refine ⟨⟨⟨⟨by omega, by omega, by omega⟩, g3, rfl, g4, rfl, g5, rfl, rfl⟩, ⟨Or.inl ⟨g1, rfl, rfl, rfl, rfl, g2⟩, g2, Or.inl rfl⟩, ⟨fun k hk => absurd hk (by omega), fun k hk => absurd hk (by omega), fun k hk => absurd hk (by omega), fun k k' hk => absurd hk (by omega)⟩, fun p hp => absurd hp (by omega), ⟨fun l hl => absurd hl (by omega), fun a ha => Or.inl (g7 a ha), fun a ha => absurd ha (by omega), fun a _ ha => g7 a ha, ?_⟩, ⟨fun x hx => absurd hx (by omega), fun z _ _ => by rw [g6]; exact bit_0 z, fun l q hl hq => Or.inl (g8 _ (by omega)), fun l q hl hq => ?_⟩⟩, rfl, rfl, rfl⟩
  · rw [List.countP_eq_zero]
    intro a ha
    rw [List.mem_range] at ha
    unfold hdB
    rw [g7 a ha]
    decide
  · constructor
    · intro e
      have : Tn_usedAt Tn0 l = 0 := rfl
      rw [this, bit_0] at e
      cases e
    · intro e; exact absurd (g8 _ (by omega)) e
def bf (ta : TaS) (i : Nat) : Nat := if i < 900 then cl (Ta_bytes ta i) else 0
theorem reads_e (h : TP ta md) (hw : ∀ i, i < 11 → Ta_words ta i = spvL.getD i 0) {n : Nat} (hn : n ≤ 900) (re : ReS) (to : ToS) :
    Ok (bd1 (f_X13_goesOn (Md_sort' (Md_fault' (Md_spot' (Md_taped' (Md_size' (Md_thrown' md 0) (nI n)) 0) 0) 0) 0)) fun m => f_X13_readAll m Tn0) (fun r => Ok (f_X5_reads re ta to (nI n)) (fun c => Ta_bytes c.2.2.1 = Ta_bytes ta ∧ Ta_words c.2.2.1 = Ta_words ta ∧ Ta_filled c.2.2.1 = 0 ∧
      ((c.1 = 1 ∧ Re_fault c.2.1 = 0 ∧ ∃ P X, 1 ≤ P ∧ TB c.2.2.2 r.2 P P X ∧ TBz r.2 ∧ To_begun c.2.2.2 = 1 ∧ Sc (Md_fault' (Md_taped' (Md_thrown' md 0) 0) 0) r.1) ∨ (c.1 = 0 ∧ BADQ (Md_fault' (Md_taped' (Md_thrown' md 0) 0) 0) c.2.1 r.1)))) := by
  obtain ⟨n0, hn0, h1, h2, h3⟩ := h
  have hby : ∀ i, i < 900 → Ta_bytes ta i = nI (bf ta i) := fun i hi => by
    obtain ⟨b, b1, b2⟩ := and255 (Md_tape md i)
    unfold bf
    rw [if_pos hi, ← h3 i hi, b2, cl_I (by omega)]
  have hb : ∀ i, bf ta i < 256 := fun i => by
    unfold bf
    by_cases c : i < 900
    · obtain ⟨b, b1, b2⟩ := and255 (Md_tape md i)
      rw [if_pos c, ← h3 i c, b2, cl_I (by omega)]
      exact b1
    · rw [if_neg c]; omega
  have hRT : RT0 (bf ta) n (Md_sort' (Md_fault' (Md_spot' (Md_taped' (Md_size' (Md_thrown' md 0) (nI n)) 0) 0) 0) 0) := ⟨hn, rfl, fun i hi => (h3 i hi).trans (hby i hi), hb⟩
  rw [Ok_bd1]
  refine (go_e (md := Md_sort' (Md_fault' (Md_spot' (Md_taped' (Md_size' (Md_thrown' md 0) (nI n)) 0) 0) 0) 0) hb (s := 0) (show ¬ ((0 : Int32) = 5) by decide) (by omega) hRT rfl).mono (fun m hm => ?_)
  obtain ⟨hPm, hAT⟩ := hm
  have hRT' : RT0 (bf ta) n m := ⟨hn, hPm.2.1, fun i hi => by rw [hPm.1.tape]; exact hRT.2.2.1 i hi, hb⟩
  obtain ⟨ta1, k0, ⟨k1, k2⟩, k3, ps, k4, k5, k6⟩ := cut_e (n := n) (show BY (bf ta) ta from ⟨hby, hb, hw⟩) hn
  obtain ⟨to1, c0, c1, c2⟩ := told0_e to
  have hX : TX (bf ta) n ps ta1 := ⟨k4, k5, k6, hb, hn⟩
  have hSc : Sc (Md_fault' (Md_taped' (Md_thrown' md 0) 0) 0) m := Sc.trans (show Sc _ (Md_sort' (Md_fault' (Md_spot' (Md_taped' (Md_size' (Md_thrown' md 0) (nI n)) 0) 0) 0) 0) from rfl) hPm.1
  have := reads_L (md0 := Md_fault' (Md_taped' (Md_thrown' md 0) 0) 0) hX FU FU 0 (Re_token' (Re_place' (Re_fault' re 0) 0) (-1)) m to1 Tn0 0 (tkS (bf ta) n 0) 0 0 0 (by rw [FU_e]; omega) (by rw [FU_e]; omega) (by omega) (show (-1 : Int32) + 1 = nI 0 by decide) k5.1 hAT hRT' c1 c2 hSc
  unfold f_X13_readAll
  refine this.mono (fun r hr => ?_)
  unfold f_X5_reads
  rw [bd1_e k0, bd1_e c0]
  simp only [lt1_e]
  refine (show Ok (f_X5_reads_L32 FU (0 : Int32) (Re_token' (Re_place' (Re_fault' re 0) 0) (-1)) ta1 to1) _ from hr).mono (fun c hc => ?_)
  obtain ⟨d1, d2⟩ := hc
  rw [d1]
  exact ⟨k1, k2, k3, d2⟩
end TANGLE
