section TBS2
variable {to to' : ToS} {rd rd' : TnS} {P L X : Nat}
def TBz (rd : TnS) : Prop := Tn_rings rd = 0 ∧ Tn_standings rd = 0 ∧ Tn_first rd = 0
theorem TB.begin (h : TB to rd P L X) (hb : To_begun to = 0) {v : Nat} (hv : v < 100) (o : Int32) (ho : o = 0 ∨ o = 1)
    (a : To_begun to' = 1 ∧ To_tall to' = nI v ∧ To_once to' = o ∧ To_people to' = To_people to ∧ To_links to' = To_links to ∧ To_crossings to' = To_crossings to ∧ To_linkIn to' = To_linkIn to)
    (a' : To_linkOver to' = To_linkOver to ∧ To_linkUnder to' = To_linkUnder to ∧ To_passes to' = To_passes to ∧ To_plus to' = To_plus to)
    (c : Tn_height rd' = nI v ∧ Tn_once rd' = o ∧ Tn_people rd' = Tn_people rd ∧ Tn_links rd' = Tn_links rd ∧ Tn_crossings rd' = Tn_crossings rd ∧ Tn_names rd' = Tn_names rd ∧ Tn_linkOf rd' = Tn_linkOf rd)
    (e : Tn_over rd' = Tn_over rd ∧ Tn_overAt rd' = Tn_overAt rd ∧ Tn_under rd' = Tn_under rd ∧ Tn_underAt rd' = Tn_underAt rd ∧ Tn_sign rd' = Tn_sign rd ∧ Tn_usedAt rd' = Tn_usedAt rd) : TB to' rd' P L X := by
  obtain ⟨⟨⟨n1, n2, n3⟩, n4, n5, n6, n7, n8, n9, n10⟩, ⟨hh, _⟩, ⟨m1, m2, m3, m4⟩, hp, ⟨l1, l2, l3, l4, l5⟩, hc⟩ := h
  obtain ⟨a1, a2, a3, a4, a5, a6, a7⟩ := a
  obtain ⟨c1, c2, c3, c4, c5, c6, c7⟩ := c
  have h0 : P = 0 ∧ L = 0 ∧ X = 0 := by
    rcases hh with ⟨_, _, g⟩ | ⟨g, _⟩
    · exact ⟨g.1, g.2.1, g.2.2.1⟩
    · rw [hb] at g; exact absurd g (by decide)
  obtain ⟨rfl, rfl, rfl⟩ := h0
  refine ⟨⟨⟨n1, n2, n3⟩, a4.trans n4, c3.trans n5, a5.trans n6, c4.trans n7, a6.trans n8, c5.trans n9, c6.trans n10⟩, ⟨Or.inr ⟨a1, v, hv, a2, c1⟩, by rw [a3, c2], by rw [c2]; exact ho⟩, ⟨fun k hk => absurd hk (by omega), fun k hk => absurd hk (by omega), fun k hk => absurd hk (by omega), fun k k' hk => absurd hk (by omega)⟩, fun p hp => absurd hp (by omega), ⟨fun l hl => absurd hl (by omega), ?_, ?_, ?_, ?_⟩, hc.of (Nat.le_refl _) a' e⟩
  · intro h hh
    rw [a7]
    rcases l2 h hh with g | ⟨l, hl, _⟩
    · exact Or.inl g
    · exact absurd hl (by omega)
  · rw [c7, a7]; exact l3
  · rw [a7]; exact l4
  · unfold hdB; rw [a7]; exact l5
theorem TB.cross (h : TB to rd P L X) (hX : X < 7) (hb : To_begun to = 1) {lo po lu pu : Nat} (hlo : lo < L) (hlu : lu < L) (hpo : 1 ≤ po ∧ po ≤ 9) (hpu : 1 ≤ pu ∧ pu ≤ 9) (ho : To_passes to (10 * lo + po) = 0) (hu : To_passes to (10 * lu + pu) = 0) (hne : ¬ (lo = lu ∧ po = pu)) (pl : Bool) (k1 : toK to to') (k2 : rdK rd rd')
    (a : To_people to' = To_people to ∧ To_links to' = To_links to ∧ To_crossings to' = nI (X + 1) ∧ To_personNames to' = To_personNames to ∧ To_linkNames to' = To_linkNames to ∧ To_talls to' = To_talls to ∧ To_handAt to' = To_handAt to ∧ To_linkIn to' = To_linkIn to)
    (a' : To_linkOver to' = upd (To_linkOver to) X (nI lo) ∧ To_linkUnder to' = upd (To_linkUnder to) X (nI lu) ∧ To_passes to' = upd (upd (To_passes to) (10 * lo + po) (nI (2 * X + 2))) (10 * lu + pu) (nI (2 * X + 1)) ∧ To_plus to' = if pl then To_plus to ||| ((1 : Int32) <<< (nI X &&& 31)) else To_plus to)
    (c : Tn_people rd' = Tn_people rd ∧ Tn_links rd' = Tn_links rd ∧ Tn_crossings rd' = nI (X + 1) ∧ Tn_names rd' = Tn_names rd ∧ Tn_name rd' = Tn_name rd ∧ Tn_nameSort rd' = Tn_nameSort rd ∧ Tn_nameNumber rd' = Tn_nameNumber rd ∧ Tn_tall rd' = Tn_tall rd)
    (d : Tn_one rd' = Tn_one rd ∧ Tn_oneHand rd' = Tn_oneHand rd ∧ Tn_two rd' = Tn_two rd ∧ Tn_twoHand rd' = Tn_twoHand rd ∧ Tn_linkOf rd' = Tn_linkOf rd)
    (e : Tn_over rd' = upd (Tn_over rd) X (nI lo) ∧ Tn_overAt rd' = upd (Tn_overAt rd) X (nI po) ∧ Tn_under rd' = upd (Tn_under rd) X (nI lu) ∧ Tn_underAt rd' = upd (Tn_underAt rd) X (nI pu) ∧ Tn_sign rd' = upd (Tn_sign rd) X (if pl then 1 else -1) ∧
      Tn_usedAt rd' = upd (upd (Tn_usedAt rd) lo (Tn_usedAt rd lo ||| ((1 : Int32) <<< (nI po &&& 31)))) lu (upd (Tn_usedAt rd) lo (Tn_usedAt rd lo ||| ((1 : Int32) <<< (nI po &&& 31))) lu ||| ((1 : Int32) <<< (nI pu &&& 31)))) : TB to' rd' P L (X + 1) := by
  obtain ⟨⟨⟨n1, n2, n3⟩, n4, n5, n6, n7, n8, n9, n10⟩, hh, ⟨m1, m2, m3, m4⟩, hp, ⟨l1, l2, l3, l4, l5⟩, ⟨x1, x2, x3, x4⟩⟩ := h
  obtain ⟨a1, a2, a3, a4, a5, a6, a7, a8⟩ := a
  obtain ⟨b1, b2, b3, b4⟩ := a'
  obtain ⟨c1, c2, c3, c4, c5, c6, c7, c8⟩ := c
  obtain ⟨d1, d2, d3, d4, d5⟩ := d
  obtain ⟨e1, e2, e3, e4, e5, e6⟩ := e
  have hpos : 10 * lo + po ≠ 10 * lu + pu := by omega
  refine ⟨⟨⟨n1, n2, by omega⟩, a1.trans n4, c1.trans n5, a2.trans n6, c2.trans n7, a3, c3, c4.trans n10⟩, hh.of hb k1 k2, ⟨?_, ?_, ?_, ?_⟩, ?_, ⟨?_, ?_, ?_, ?_, ?_⟩, ⟨?_, ?_, ?_, ?_⟩⟩
  · rw [c5, c6, c7, a4, a5]; exact m1
  · rw [c5, c6, c7, a4]; exact m2
  · rw [c5, c6, c7, a5]; exact m3
  · rw [c5]; exact m4
  · unfold TBp; rw [a6, c8]; exact hp
  · rw [a7, a8, d1, d2, d3, d4]; exact l1
  · rw [a7, a8]; exact l2
  · rw [a8, d5]; exact l3
  · rw [a8]; exact l4
  · unfold hdB; rw [a8]; exact l5
  · intro x hx
    rw [e1, e2, e3, e4, e5, b1, b2, b3]
    by_cases q : x = X
    · subst q
      refine ⟨lo, po, lu, pu, ⟨hlo, hpo.1, hpo.2, hlu, hpu.1, hpu.2⟩, ⟨upd_at, upd_at, upd_at, ?_⟩, ⟨upd_at, upd_at, upd_at, upd_at⟩, ?_⟩
      · rw [upd_ne hpos, upd_at]
      · rw [upd_at, b4]
        cases pl with
        | false => rw [if_neg (show ¬ (false = true) by decide), if_neg (show ¬ (false = true) by decide), x2 x (Nat.le_refl _) (by omega)]; rfl
        | true => rw [if_pos rfl, if_pos rfl, bit_or, bit_one _ _ (by omega) (by omega), decide_eq_true rfl, Bool.or_true, if_pos rfl]
    · obtain ⟨lo', po', lu', pu', g, ⟨g1, g2, g3, g4⟩, ⟨g5, g6, g7, g8⟩, g9⟩ := x1 x (by omega)
      have nz1 : ¬ (nI (2 * x + 2) = 0) := nI_ne0 (by omega) (by omega)
      have nz2 : ¬ (nI (2 * x + 1) = 0) := nI_ne0 (by omega) (by omega)
      refine ⟨lo', po', lu', pu', g, ⟨by rw [upd_ne q]; exact g1, by rw [upd_ne q]; exact g2, by rw [upd_ne q]; exact g3, ?_⟩, ⟨by rw [upd_ne q]; exact g5, by rw [upd_ne q]; exact g6, by rw [upd_ne q]; exact g7, ?_⟩, ?_⟩
      · rw [upd_ne (fun e => nz1 (by rw [← g4, e]; exact hu)), upd_ne (fun e => nz1 (by rw [← g4, e]; exact ho))]; exact g4
      · rw [upd_ne (fun e => nz2 (by rw [← g8, e]; exact hu)), upd_ne (fun e => nz2 (by rw [← g8, e]; exact ho))]; exact g8
      · rw [upd_ne q, g9, b4]
        cases pl with
        | false => rw [if_neg (show ¬ (false = true) by decide)]
        | true => rw [if_pos rfl, bit_or, bit_one _ _ (by omega) (by omega), decide_eq_false q, Bool.or_false]
  · intro z h1 h2
    rw [b4]
    cases pl with
    | false => rw [if_neg (show ¬ (false = true) by decide)]; exact x2 z (by omega) h2
    | true => rw [if_pos rfl, bit_or, bit_one _ _ (by omega) (by omega), decide_eq_false (by omega), Bool.or_false]; exact x2 z (by omega) h2
  · intro l q hl hq
    rw [b3, e1, e2, e3, e4]
    by_cases c1' : 10 * l + q = 10 * lu + pu
    · refine Or.inr ⟨X, by omega, Or.inr ⟨by rw [c1', upd_at], ?_, ?_⟩⟩
      · rw [upd_at]; congr 1; omega
      · rw [upd_at]; congr 1; omega
    · rw [upd_ne c1']
      by_cases c2' : 10 * l + q = 10 * lo + po
      · refine Or.inr ⟨X, by omega, Or.inl ⟨by rw [c2', upd_at], ?_, ?_⟩⟩
        · rw [upd_at]; congr 1; omega
        · rw [upd_at]; congr 1; omega
      · rw [upd_ne c2']
        rcases x3 l q hl hq with g | ⟨x, hx, g⟩
        · exact Or.inl g
        · refine Or.inr ⟨x, by omega, ?_⟩
          have q' : x ≠ X := by omega
          rw [upd_ne q', upd_ne q', upd_ne q', upd_ne q']
          exact g
  · intro l q hl hq
    rw [b3, e6]
    have base := x4 l q hl hq
    have nz1 : ¬ (nI (2 * X + 2) = 0) := nI_ne0 (by omega) (by omega)
    have nz2 : ¬ (nI (2 * X + 1) = 0) := nI_ne0 (by omega) (by omega)
    have inner : ∀ l' q', l' < 8 → q' < 10 → (bitB (upd (Tn_usedAt rd) lo (Tn_usedAt rd lo ||| ((1 : Int32) <<< (nI po &&& 31))) l') q' = true ↔ upd (To_passes to) (10 * lo + po) (nI (2 * X + 2)) (10 * l' + q') ≠ 0) := by
      intro l' q' h1 h2
      have bs := x4 l' q' h1 h2
      by_cases z : l' = lo
      · subst z
        rw [upd_at, bit_or, bit_one _ _ (by omega) (by omega)]
        by_cases z2 : q' = po
        · rw [z2, decide_eq_true rfl, Bool.or_true, upd_at]
          exact ⟨fun _ => nz1, fun _ => rfl⟩
        · rw [decide_eq_false z2, Bool.or_false, upd_ne (by omega)]
          exact bs
      · rw [upd_ne z, upd_ne (by omega)]; exact bs
    by_cases z : l = lu
    · subst z
      rw [upd_at, bit_or, bit_one _ _ (by omega) (by omega)]
      by_cases z2 : q = pu
      · rw [z2, decide_eq_true rfl, Bool.or_true, upd_at]
        exact ⟨fun _ => nz2, fun _ => rfl⟩
      · rw [decide_eq_false z2, Bool.or_false, upd_ne (show 10 * l + q ≠ 10 * l + pu by omega)]
        exact inner l q hl hq
    · rw [upd_ne z, upd_ne (show 10 * l + q ≠ 10 * lu + pu by omega)]
      exact inner l q hl hq
end TBS2
