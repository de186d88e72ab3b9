section TANGLE2
variable {hk : HKS} {re : ReS} {ta : TaS} {ri : RiS} {now : MoS} {hi : HiS} {bo : BoS} {se : SeS} {co : CoS} {ch : ChS} {md : MdS} {ot : Option TnS} {to : ToS}
/-- what a tangle is told of is still told of, when none of it is changed -/
def SAME (md md' : MdS) : Prop := (Md_now md' = Md_now md ∧ Md_parted md' = Md_parted md ∧ Md_seed md' = Md_seed md ∧ Md_lifted md' = Md_lifted md) ∧ (Md_acts md' = Md_acts md ∧ Md_marks md' = Md_marks md ∧ Md_pastNow md' = Md_pastNow md ∧ Md_pastParted md' = Md_pastParted md ∧ Md_pastSeed md' = Md_pastSeed md ∧ Md_pastLifted md' = Md_pastLifted md ∧ Md_keptNow md' = Md_keptNow md ∧ Md_keptParted md' = Md_keptParted md ∧ Md_keptSeed md' = Md_keptSeed md ∧ Md_keptLifted md' = Md_keptLifted md)
theorem SAME.refl (md : MdS) : SAME md md := ⟨⟨rfl, rfl, rfl, rfl⟩, rfl, rfl, rfl, rfl, rfl, rfl, rfl, rfl, rfl, rfl⟩
theorem SAME.trans {a b c : MdS} (h : SAME a b) (k : SAME b c) : SAME a c := by
  obtain ⟨⟨h1, h2, h3, h4⟩, h5, h6, h7, h8, h9, h10, h11, h12, h13, h14⟩ := h
  obtain ⟨⟨k1, k2, k3, k4⟩, k5, k6, k7, k8, k9, k10, k11, k12, k13, k14⟩ := k
  exact ⟨⟨k1.trans h1, k2.trans h2, k3.trans h3, k4.trans h4⟩, k5.trans h5, k6.trans h6, k7.trans h7, k8.trans h8, k9.trans h9, k10.trans h10, k11.trans h11, k12.trans h12, k13.trans h13, k14.trans h14⟩
theorem Sc.same {a b : MdS} (h : Sc a b) : SAME a b := ⟨⟨h.now, h.parted, h.seed, h.lifted⟩, h.acts, h.marks, h.pastNow, h.pastParted, h.pastSeed, h.pastLifted, h.keptNow, h.keptParted, h.keptSeed, h.keptLifted⟩
theorem IVt.same {tn : TnS} {md' : MdS} (h : IVt tn ri now bo md) (k : SAME md md') : IVt tn ri now bo md' := h.of k.1.1 k.1.2.1 k.1.2.2.1 k.1.2.2.2
theorem HR.same {tn : TnS} {md' : MdS} (h : HR tn hi md) (k : SAME md md') : HR tn hi md' := by
  obtain ⟨_, k5, k6, k7, k8, k9, k10, k11, k12, k13, k14⟩ := k
  exact h.of k5 k6 k7 k8 k9 k10 k11 k12 k13 k14
/-- the call did nothing to the tangle -/
theorem INV.stay {hk' : HKS} {re' : ReS} {ta' : TaS} {md' : MdS} {se' : SeS} {co' : CoS} {ch' : ChS} (h : INV hk re ta ri now hi bo se co ch md ot) (k : SAME md md') (h1 : HK_there hk' = HK_there hk) (h2 : HK_trouble hk' = Md_trouble md' ∧ Md_where md' = (if Md_trouble md' = 4 then Re_place re' else -1) ∧ Re_fault re' = Md_fault md')
    (h3 : TP ta' md' ∧ ∀ i, i < 11 → Ta_words ta' i = spvL.getD i 0) (h4 : (∃ ks, CT1 se' ks) ∧ PIo co' ∧ ChI ch') : INV hk' re' ta' ri now hi bo se' co' ch' md' ot := by
  refine ⟨h2, h3, h4, ?_⟩
  have := h.2.2.2
  cases ot with
  | none => exact ⟨h1.trans this.1, this.2⟩
  | some tn => exact ⟨h1.trans this.1, this.2.1.same k, this.2.2.1.same k, this.2.2.2⟩
noncomputable def newm (m : MdS) (t : Int64) : MdS := stt (Md_marks' (Md_acts' (Md_seed' (Md_lifted' (Md_parted' (Md_now' m t) (-2)) 0) 0) 0) 0) 0
theorem newm_e (m : MdS) (t : Int64) : (Md_now (newm m t) = t ∧ Md_parted (newm m t) = -2 ∧ Md_lifted (newm m t) = 0 ∧ Md_seed (newm m t) = 0 ∧ Md_acts (newm m t) = 0 ∧ Md_marks (newm m t) = 0) ∧ (Md_trouble (newm m t) = 0 ∧ Md_where (newm m t) = -1 ∧ Md_tape (newm m t) = Md_tape m ∧ Md_taped (newm m t) = Md_taped m ∧ Md_fault (newm m t) = Md_fault m) := by
  unfold newm stt
  simp only [GW_where, GW_trouble, GW_marks, GW_acts, GW_seed, GW_lifted, GW_parted, GW_now, and_self]
noncomputable def badm (m : MdS) (w : Int32) : MdS := Md_where' (Md_trouble' m 4) w
theorem badm_e (m : MdS) (w : Int32) : SAME m (badm m w) ∧ Md_trouble (badm m w) = 4 ∧ Md_where (badm m w) = w ∧ Md_tape (badm m w) = Md_tape m ∧ Md_taped (badm m w) = Md_taped m ∧ Md_fault (badm m w) = Md_fault m := by
  unfold badm SAME
  simp only [GW_where, GW_trouble, and_self]
theorem midm_e (md : MdS) (k : Int32) : SAME md (Md_fault' (Md_fault' (Md_taped' (Md_thrown' md 0) 0) 0) k) ∧ Md_tape (Md_fault' (Md_fault' (Md_taped' (Md_thrown' md 0) 0) 0) k) = Md_tape md ∧ Md_taped (Md_fault' (Md_fault' (Md_taped' (Md_thrown' md 0) 0) 0) k) = 0 ∧ Md_fault (Md_fault' (Md_fault' (Md_taped' (Md_thrown' md 0) 0) 0) k) = k := by
  unfold SAME
  simp only [GW_fault, GW_taped, GW_thrown, and_self]
theorem mid0_e (md : MdS) : Md_tape (Md_fault' (Md_taped' (Md_thrown' md 0) 0) 0) = Md_tape md ∧ Md_taped (Md_fault' (Md_taped' (Md_thrown' md 0) 0) 0) = 0 ∧ Md_fault (Md_fault' (Md_taped' (Md_thrown' md 0) 0) 0) = 0 := by
  simp only [GW_fault, GW_taped, GW_thrown, and_self]
theorem stt_e (md : MdS) (k : Int32) : SAME md (stt md k) ∧ Md_trouble (stt md k) = k ∧ Md_where (stt md k) = -1 ∧ Md_tape (stt md k) = Md_tape md ∧ Md_taped (stt md k) = Md_taped md ∧ Md_fault (stt md k) = Md_fault md := by
  unfold SAME
  simp only [stt, GW_where, GW_trouble, and_self]
theorem thr_e (md : MdS) (k : Int32) : SAME md (Md_thrown' md k) ∧ Md_tape (Md_thrown' md k) = Md_tape md ∧ Md_taped (Md_thrown' md k) = Md_taped md ∧ Md_fault (Md_thrown' md k) = Md_fault md ∧ Md_trouble (Md_thrown' md k) = Md_trouble md ∧ Md_where (Md_thrown' md k) = Md_where md := by
  unfold SAME
  simp only [GW_thrown, and_self]
theorem i_tangle (h : INV hk re ta ri now hi bo se co ch md ot) (p : Int32) (to : ToS) : Ok (f_X13_tangle md p) (fun q => Ok (f_X11_tangle hk re ta bo hi now ri to p) (fun c => c.1 = q.1 ∧ INV c.2.1 c.2.2.1 c.2.2.2.1 c.2.2.2.2.2.2.2.1 c.2.2.2.2.2.2.1 c.2.2.2.2.2.1 c.2.2.2.2.1 se co ch q.2.1 (q.2.2.or ot))) := by
  have h0 := h
  obtain ⟨⟨i1, i2, i3⟩, ⟨i4, i5⟩, i6, i7⟩ := h
  have hTP := i4
  obtain ⟨n0, hn0, t1, t2, t3⟩ := i4
  have ref : Ok (bd2 (f_X13_refused (Md_thrown' md 0) (2 : Int32)) fun (r_1 : Int32) (md_2 : MdS) => some (r_1, md_2, (none : Option TnS))) (fun q => Ok (f_X11_tangle_L18 hk re ta bo hi now ri to) (fun c => c.1 = q.1 ∧ INV c.2.1 c.2.2.1 c.2.2.2.1 c.2.2.2.2.2.2.2.1 c.2.2.2.2.2.2.1 c.2.2.2.2.2.1 c.2.2.2.2.1 se co ch q.2.1 (q.2.2.or ot))) := by
    unfold f_X11_tangle_L18
    rw [refused_t, refuse_t, bd2_e rfl, bd2_e rfl, Ok_some, Ok_some]
    refine ⟨rfl, ?_⟩
    obtain ⟨s1, s2, s3, s4, s5, s6⟩ := stt_e (Md_thrown' md 0) 2
    obtain ⟨q1, q2, q3, q4, q5, q6⟩ := thr_e md 0
    exact h0.stay (q1.trans s1) rfl ⟨s2.symm, by rw [s3, s2, if_neg (show ¬ ((2 : Int32) = 4) by decide)], by rw [s6, q4]; exact i3⟩ ⟨⟨n0, hn0, t1, by rw [s5, q3]; exact t2, fun i hi => by rw [s4, q2]; exact t3 i hi⟩, i5⟩ i6
  unfold f_X13_tangle f_X11_tangle
  rw [lt1_e]
  by_cases c : p < 0
  · rw [if_pos c, if_pos c]
    exact ref
  · rw [if_neg c, if_neg c]
    have e2 : Md_taped (Md_thrown' md 0) = nI n0 := t2
    rw [e2, t1]
    by_cases d : p ≤ nI n0
    · rw [if_neg (fun e => e d), if_pos d]
      obtain ⟨n, hn31, rfl⟩ := nI_of c
      have hn : n ≤ n0 := by
        refine Classical.byContradiction (fun e => ?_)
        exact nI_ge (show n0 < n by omega) hn31 d
      have hr := reads_e hTP i5 (n := n) (by omega) re to
      obtain ⟨r, er, c, ec, w1, w2, w3, w4⟩ := hr
      simp only [lt1_e]
      have er' := er
      cases eg : f_X13_goesOn (Md_sort' (Md_fault' (Md_spot' (Md_taped' (Md_size' (Md_thrown' md 0) (nI n)) 0) 0) 0) 0) with
      | none => rw [eg] at er; cases er
      | some m =>
        rw [eg, bd1_e rfl] at er
        rw [bd1_e rfl, bd2_e (a := r.1) (b := r.2) er, bd4_e (a := c.1) (b := c.2.1) (c := c.2.2.1) (d := c.2.2.2) ec]
        have tp' : ∀ md', Md_tape md' = Md_tape md → Md_taped md' = 0 → TP c.2.2.1 md' := fun md' a1 a2 => ⟨0, by omega, w3, a2, fun i hi => by rw [a1, w1]; exact t3 i hi⟩
        have hw' : ∀ i, i < 11 → Ta_words c.2.2.1 i = spvL.getD i 0 := fun i hi => by rw [w2]; exact i5 i hi
        rcases w4 with ⟨a1, a2, P, X, a3, a4, a5, a6, a7⟩ | ⟨a1, k, pl, b1, b2, b3, ⟨b4, b5⟩, b6, b7, b8, b9⟩
        · have hf : Md_fault r.1 = 0 := a7.fault.trans (mid0_e md).2.2
          rw [hf, if_pos (by decide), a1, if_neg (by decide)]
          rw [Ok_bd1]
          refine (trace_e a4 a3 a5 a6 ri).mono (fun tn htr => ?_)
          obtain ⟨ri', er2, ⟨n1, n2, n3, n4, n5, n6⟩, n7⟩ := htr
          obtain ⟨bo', eb, hbo⟩ := layOut_e n1 n2 n4 n5 n6 bo
          rw [good_t, bd2_e rfl, Ok_some, bd1_e er2]
          have ecl : f_X3_clear hi = some (Hi_free' (Hi_marked' (Hi_kept' hi 0) 0) 0) := rfl
          have ebg : f_X4_begin now (Ri_key ri') (Ri_plus ri') = some (Mo_seed' (Mo_parted' (Mo_plus' (Mo_key' now (Ri_key ri')) (Ri_plus ri')) (-2)) 0) := rfl
          have ely : f_X0_lay bo (Mo_seed' (Mo_parted' (Mo_plus' (Mo_key' now (Ri_key ri')) (Ri_plus ri')) (-2)) 0) ri' = some bo' := by
            unfold f_X0_lay
            rw [bd1_e (show f_X0_layOut bo ri' (Mo_key (Mo_seed' (Mo_parted' (Mo_plus' (Mo_key' now (Ri_key ri')) (Ri_plus ri')) (-2)) 0)) (Mo_plus (Mo_seed' (Mo_parted' (Mo_plus' (Mo_key' now (Ri_key ri')) (Ri_plus ri')) (-2)) 0)) (Mo_parted (Mo_seed' (Mo_parted' (Mo_plus' (Mo_key' now (Ri_key ri')) (Ri_plus ri')) (-2)) 0)) = some bo' from eb)]
          rw [bd1_e ecl, bd1_e ebg, bd1_e ely, grant_t, bd2_e rfl, Ok_some]
          obtain ⟨⟨v1, v2, v3, v4, v5, v6⟩, v7, v8, v9, v10, v11⟩ := newm_e r.1 (Tn_first tn)
          obtain ⟨z1, z2, z3⟩ := mid0_e md
          show _ ∧ INV (HK_trouble' (HK_there' hk 1) 0) c.2.1 c.2.2.1 ri' (Mo_seed' (Mo_parted' (Mo_plus' (Mo_key' now (Ri_key ri')) (Ri_plus ri')) (-2)) 0) (Hi_free' (Hi_marked' (Hi_kept' hi 0) 0) 0) bo' se co ch (newm r.1 (Tn_first tn)) (some tn)
          refine ⟨n7, ⟨v7.symm, by rw [v8, v7, if_neg (show ¬ ((0 : Int32) = 4) by decide)], by rw [v11, a2, hf]⟩, ⟨tp' _ (by rw [v9, a7.tape, z1]) (by rw [v10, a7.taped, z2]), hw'⟩, i6, rfl, ?_, ?_, n3⟩
          · unfold IVt
            rw [v1, v2, v3, v4]
            exact ⟨none, 0, n1, n2, n4, rfl, rfl, by omega, n5, n6, rfl, rfl, hbo⟩
          · unfold HR
            rw [v5, v6]
            exact ⟨0, 0, 0, by omega, by omega, by omega, rfl, rfl, rfl, rfl, rfl, fun j hj => absurd hj (by omega), fun j hj => absurd hj (by omega)⟩
        · rw [b7, if_neg (show ¬ (nI k ≤ (0 : Int32)) from nI_ge (a := 0) (show 0 < k by omega) (by omega)), a1, if_pos rfl, refuse_t, bd2_e rfl, Ok_some, Ok_some]
          refine ⟨rfl, ?_⟩
          obtain ⟨v1, v2, v3, v4, v5, v6⟩ := badm_e r.1 (Md_wrongAt (Md_trouble' r.1 4))
          obtain ⟨z1, z2, z3, z4⟩ := midm_e md (nI k)
          have hwr : Md_wrongAt (Md_trouble' r.1 4) = Md_wrongAt r.1 := rfl
          refine h0.stay (md' := badm r.1 (Md_wrongAt (Md_trouble' r.1 4))) (SAME.trans (SAME.trans z1 b9.same) v1) rfl ⟨v2.symm, ?_, ?_⟩ ⟨tp' _ (by rw [v4, b9.tape, z2]) (by rw [v5, b9.taped, z3]), hw'⟩ i6
          · rw [v3, v2, if_pos rfl, hwr]
            exact b8.trans b5.symm
          · rw [v6, b7]; exact b4
    · rw [if_pos d, if_neg d]
      exact ref
end TANGLE2
