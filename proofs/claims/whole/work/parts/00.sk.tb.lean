/-! one line more is told -/
def toK (to to' : ToS) : Prop := To_begun to' = To_begun to ∧ To_once to' = To_once to ∧ To_tall to' = To_tall to
def rdK (rd rd' : TnS) : Prop := Tn_height rd' = Tn_height rd ∧ Tn_once rd' = Tn_once rd
section TBS
variable {to to' : ToS} {rd rd' : TnS} {P L X : Nat}
theorem TBh.of (h : TBh to rd P L X) {P' L' X' : Nat} (hb : To_begun to = 1) (k1 : toK to to') (k2 : rdK rd rd') : TBh to' rd' P' L' X' := by
  obtain ⟨h1, h2, h3⟩ := h
  refine ⟨Or.inr ?_, by rw [k1.2.1, k2.2]; exact h2, by rw [k2.2]; exact h3⟩
  rcases h1 with ⟨e, _⟩ | ⟨e, x, g1, g2, g3⟩
  · rw [hb] at e; exact absurd e (by decide)
  · exact ⟨by rw [k1.1]; exact e, x, g1, by rw [k1.2.2]; exact g2, by rw [k2.1]; exact g3⟩
theorem TBc.of (h : TBc to rd L X) {L' : Nat} (hL : L ≤ L') (e1 : To_linkOver to' = To_linkOver to ∧ To_linkUnder to' = To_linkUnder to ∧ To_passes to' = To_passes to ∧ To_plus to' = To_plus to) (e2 : Tn_over rd' = Tn_over rd ∧ Tn_overAt rd' = Tn_overAt rd ∧ Tn_under rd' = Tn_under rd ∧ Tn_underAt rd' = Tn_underAt rd ∧ Tn_sign rd' = Tn_sign rd ∧ Tn_usedAt rd' = Tn_usedAt rd) : TBc to' rd' L' X := by
  obtain ⟨a1, a2, a3, a4⟩ := e1
  obtain ⟨b1, b2, b3, b4, b5, b6⟩ := e2
  unfold TBc
  rw [a1, a2, a3, a4, b1, b2, b3, b4, b5, b6]
  refine ⟨fun x hx => ?_, h.2⟩
  obtain ⟨lo, po, lu, pu, g, g'⟩ := h.1 x hx
  exact ⟨lo, po, lu, pu, ⟨by omega, by omega, by omega, by omega, by omega, by omega⟩, g'⟩
theorem TB.person (h : TB to rd P L X) (hP : P < 8) (hb : To_begun to = 1) {w : Int64} (hw : ∀ k, k < P + L → Tn_name rd k ≠ w) {t : Nat} (ht1 : 1 ≤ t) (ht : t < 100) (k1 : toK to to') (k2 : rdK rd rd')
    (a : To_people to' = nI (P + 1) ∧ To_links to' = To_links to ∧ To_crossings to' = To_crossings to ∧ To_personNames to' = vp_updL (To_personNames to) P w ∧ To_linkNames to' = To_linkNames to ∧ To_talls to' = upd (To_talls to) P (nI t) ∧ To_handAt to' = To_handAt to ∧ To_linkIn to' = To_linkIn to)
    (a' : To_linkOver to' = To_linkOver to ∧ To_linkUnder to' = To_linkUnder to ∧ To_passes to' = To_passes to ∧ To_plus to' = To_plus to)
    (c : Tn_people rd' = nI (P + 1) ∧ Tn_links rd' = Tn_links rd ∧ Tn_crossings rd' = Tn_crossings rd ∧ Tn_names rd' = nI (P + L + 1) ∧ Tn_name rd' = vp_updL (Tn_name rd) (P + L) w ∧ Tn_nameSort rd' = upd (Tn_nameSort rd) (P + L) 0 ∧ Tn_nameNumber rd' = upd (Tn_nameNumber rd) (P + L) (nI P) ∧ Tn_tall rd' = upd (Tn_tall rd) P (nI t))
    (d : Tn_one rd' = Tn_one rd ∧ Tn_oneHand rd' = Tn_oneHand rd ∧ Tn_two rd' = Tn_two rd ∧ Tn_twoHand rd' = Tn_twoHand rd ∧ Tn_linkOf rd' = upd (upd (Tn_linkOf rd) (2 * P) (-1)) (2 * P + 1) (-1))
    (e : Tn_over rd' = Tn_over rd ∧ Tn_overAt rd' = Tn_overAt rd ∧ Tn_under rd' = Tn_under rd ∧ Tn_underAt rd' = Tn_underAt rd ∧ Tn_sign rd' = Tn_sign rd ∧ Tn_usedAt rd' = Tn_usedAt rd) : TB to' rd' (P + 1) L X := by
  obtain ⟨⟨⟨n1, n2, n3⟩, n4, n5, n6, n7, n8, n9, n10⟩, hh, ⟨m1, m2, m3, m4⟩, hp, ⟨l1, l2, l3, l4, l5⟩, hc⟩ := h
  obtain ⟨a1, a2, a3, a4, a5, a6, a7, a8⟩ := a
  obtain ⟨c1, c2, c3, c4, c5, c6, c7, c8⟩ := c
  obtain ⟨d1, d2, d3, d4, d5⟩ := d
  refine ⟨⟨⟨by omega, n2, n3⟩, a1, c1, a2.trans n6, c2.trans n7, a3.trans n8, c3.trans n9, ?_⟩, hh.of hb k1 k2, ⟨?_, ?_, ?_, ?_⟩, ?_, ⟨?_, ?_, ?_, ?_, ?_⟩, hc.of (Nat.le_refl _) a' e⟩
  · rw [c4]; congr 1; omega
  · intro k hk
    rw [c5, c6, c7, a4, a5]
    by_cases q : k = P + L
    · refine Or.inl ⟨P, by omega, ?_, ?_, ?_⟩
      · rw [q, upd_at]
      · rw [q, upd_at]
      · rw [updL_if, updL_if, if_pos q, if_pos rfl]
    · rcases m1 k (by omega) with ⟨p, hp1, s1, s2, s3⟩ | ⟨l, hl, s1, s2, s3⟩
      · refine Or.inl ⟨p, by omega, by rw [upd_ne q]; exact s1, by rw [upd_ne q]; exact s2, ?_⟩
        rw [updL_if, updL_if, if_neg q, if_neg (by omega)]; exact s3
      · refine Or.inr ⟨l, hl, by rw [upd_ne q]; exact s1, by rw [upd_ne q]; exact s2, ?_⟩
        rw [updL_if, if_neg q]; exact s3
  · intro p hp1
    rw [c5, c6, c7, a4]
    by_cases q : p = P
    · refine ⟨P + L, by omega, upd_at, by rw [q, upd_at], ?_⟩
      rw [updL_if, updL_if, if_pos rfl, if_pos q]
    · obtain ⟨k, hk, s1, s2, s3⟩ := m2 p (by omega)
      have qk : k ≠ P + L := by omega
      refine ⟨k, by omega, by rw [upd_ne qk]; exact s1, by rw [upd_ne qk]; exact s2, ?_⟩
      rw [updL_if, updL_if, if_neg qk, if_neg q]; exact s3
  · intro l hl
    rw [c5, c6, c7, a5]
    obtain ⟨k, hk, s1, s2, s3⟩ := m3 l hl
    have qk : k ≠ P + L := by omega
    refine ⟨k, by omega, by rw [upd_ne qk]; exact s1, by rw [upd_ne qk]; exact s2, ?_⟩
    rw [updL_if, if_neg qk]; exact s3
  · intro k k' hk hk' e1
    rw [c5, updL_if, updL_if] at e1
    by_cases q : k = P + L
    · by_cases q' : k' = P + L
      · omega
      · rw [if_pos q, if_neg q'] at e1; exact absurd e1.symm (hw k' (by omega))
    · by_cases q' : k' = P + L
      · rw [if_neg q, if_pos q'] at e1; exact absurd e1 (hw k (by omega))
      · rw [if_neg q, if_neg q'] at e1; exact m4 k k' (by omega) (by omega) e1
  · intro p hp1
    rw [a6, c8]
    by_cases q : p = P
    · exact ⟨t, ht1, ht, by rw [q, upd_at], by rw [q, upd_at]⟩
    · obtain ⟨t', g1, g2, g3, g4⟩ := hp p (by omega)
      exact ⟨t', g1, g2, by rw [upd_ne q]; exact g3, by rw [upd_ne q]; exact g4⟩
  · intro l hl
    rw [a7, a8, d1, d2, d3, d4]
    obtain ⟨h, g, ⟨g1, g2, g3⟩, g4⟩ := l1 l hl
    exact ⟨h, g, ⟨by omega, by omega, g3⟩, g4⟩
  · rw [a7, a8]; exact l2
  · intro h hh1
    rw [a8, d5]
    by_cases q : h = 2 * P + 1
    · rw [q, upd_at, l4 (2 * P + 1) (by omega) (by omega)]
    · rw [upd_ne q]
      by_cases q2 : h = 2 * P
      · rw [q2, upd_at, l4 (2 * P) (by omega) (by omega)]
      · rw [upd_ne q2]; exact l3 h (by omega)
  · intro h h1 h2
    rw [a8]; exact l4 h (by omega) h2
  · unfold hdB
    rw [a8]
    exact l5
theorem TB.hold (h : TB to rd P L X) (hL : L < 8) (hb : To_begun to = 1) {w : Int64} (hw : ∀ k, k < P + L → Tn_name rd k ≠ w) {x y : Nat} (hx : x < 2 * P) (hy : y < 2 * P) (hxy : x / 2 ≠ y / 2) (fx : To_linkIn to x = -1) (fy : To_linkIn to y = -1) (k1 : toK to to') (k2 : rdK rd rd')
    (a : To_people to' = To_people to ∧ To_links to' = nI (L + 1) ∧ To_crossings to' = To_crossings to ∧ To_personNames to' = To_personNames to ∧ To_linkNames to' = vp_updL (To_linkNames to) L w ∧ To_talls to' = To_talls to ∧ To_handAt to' = upd (upd (To_handAt to) (2 * L) (nI x)) (2 * L + 1) (nI y) ∧ To_linkIn to' = upd (upd (To_linkIn to) x (nI L)) y (nI L))
    (a' : To_linkOver to' = To_linkOver to ∧ To_linkUnder to' = To_linkUnder to ∧ To_passes to' = To_passes to ∧ To_plus to' = To_plus to)
    (c : Tn_people rd' = Tn_people rd ∧ Tn_links rd' = nI (L + 1) ∧ Tn_crossings rd' = Tn_crossings rd ∧ Tn_names rd' = nI (P + L + 1) ∧ Tn_name rd' = vp_updL (Tn_name rd) (P + L) w ∧ Tn_nameSort rd' = upd (Tn_nameSort rd) (P + L) 1 ∧ Tn_nameNumber rd' = upd (Tn_nameNumber rd) (P + L) (nI L) ∧ Tn_tall rd' = Tn_tall rd)
    (d : Tn_one rd' = upd (Tn_one rd) L (nI (x / 2)) ∧ Tn_oneHand rd' = upd (Tn_oneHand rd) L (nI (x % 2)) ∧ Tn_two rd' = upd (Tn_two rd) L (nI (y / 2)) ∧ Tn_twoHand rd' = upd (Tn_twoHand rd) L (nI (y % 2)) ∧ Tn_linkOf rd' = upd (upd (Tn_linkOf rd) x (nI L)) y (nI L))
    (e : Tn_over rd' = Tn_over rd ∧ Tn_overAt rd' = Tn_overAt rd ∧ Tn_under rd' = Tn_under rd ∧ Tn_underAt rd' = Tn_underAt rd ∧ Tn_sign rd' = Tn_sign rd ∧ Tn_usedAt rd' = Tn_usedAt rd) : TB to' rd' P (L + 1) X := by
  obtain ⟨⟨⟨n1, n2, n3⟩, n4, n5, n6, n7, n8, n9, n10⟩, hh, ⟨m1, m2, m3, m4⟩, hp, ⟨l1, l2, l3, l4, l5⟩, hc⟩ := h
  obtain ⟨a1, a2, a3, a4, a5, a6, a7, a8⟩ := a
  obtain ⟨c1, c2, c3, c4, c5, c6, c7, c8⟩ := c
  obtain ⟨d1, d2, d3, d4, d5⟩ := d
  have hne : x ≠ y := fun e => hxy (by rw [e])
  refine ⟨⟨⟨n1, by omega, n3⟩, a1.trans n4, c1.trans n5, a2, c2, a3.trans n8, c3.trans n9, c4⟩, hh.of hb k1 k2, ⟨?_, ?_, ?_, ?_⟩, ?_, ⟨?_, ?_, ?_, ?_, ?_⟩, hc.of (by omega) a' e⟩
  · intro k hk
    rw [c5, c6, c7, a4, a5]
    by_cases q : k = P + L
    · refine Or.inr ⟨L, by omega, by rw [q, upd_at], by rw [q, upd_at], ?_⟩
      rw [updL_if, updL_if, if_pos q, if_pos rfl]
    · rcases m1 k (by omega) with ⟨p, hp1, s1, s2, s3⟩ | ⟨l, hl, s1, s2, s3⟩
      · refine Or.inl ⟨p, by omega, by rw [upd_ne q]; exact s1, by rw [upd_ne q]; exact s2, ?_⟩
        rw [updL_if, if_neg q]; exact s3
      · refine Or.inr ⟨l, by omega, by rw [upd_ne q]; exact s1, by rw [upd_ne q]; exact s2, ?_⟩
        rw [updL_if, updL_if, if_neg q, if_neg (by omega)]; exact s3
  · intro p hp1
    rw [c5, c6, c7, a4]
    obtain ⟨k, hk, s1, s2, s3⟩ := m2 p hp1
    have qk : k ≠ P + L := by omega
    refine ⟨k, by omega, by rw [upd_ne qk]; exact s1, by rw [upd_ne qk]; exact s2, ?_⟩
    rw [updL_if, if_neg qk]; exact s3
  · intro l hl
    rw [c5, c6, c7, a5]
    by_cases q : l = L
    · refine ⟨P + L, by omega, upd_at, by rw [q, upd_at], ?_⟩
      rw [updL_if, updL_if, if_pos rfl, if_pos q]
    · obtain ⟨k, hk, s1, s2, s3⟩ := m3 l (by omega)
      have qk : k ≠ P + L := by omega
      refine ⟨k, by omega, by rw [upd_ne qk]; exact s1, by rw [upd_ne qk]; exact s2, ?_⟩
      rw [updL_if, updL_if, if_neg qk, if_neg q]; exact s3
  · intro k k' hk hk' e1
    rw [c5, updL_if, updL_if] at e1
    by_cases q : k = P + L
    · by_cases q' : k' = P + L
      · omega
      · rw [if_pos q, if_neg q'] at e1; exact absurd e1.symm (hw k' (by omega))
    · by_cases q' : k' = P + L
      · rw [if_neg q, if_pos q'] at e1; exact absurd e1 (hw k (by omega))
      · rw [if_neg q, if_neg q'] at e1; exact m4 k k' (by omega) (by omega) e1
  · unfold TBp
    rw [a6, c8]
    exact hp
  · intro l hl
    rw [a7, a8, d1, d2, d3, d4]
    by_cases q : l = L
    · subst q
      refine ⟨x, y, ⟨hx, hy, hxy⟩, ⟨?_, upd_at⟩, ⟨upd_at, upd_at, upd_at, upd_at⟩, ?_, upd_at⟩
      · rw [upd_ne (by omega), upd_at]
      · rw [upd_ne hne, upd_at]
    · obtain ⟨h, g, ⟨g1, g2, g3⟩, ⟨g4, g5⟩, ⟨g6, g7, g8, g9⟩, g10, g11⟩ := l1 l (by omega)
      have hf : ∀ z, To_linkIn to z = nI l → z ≠ x ∧ z ≠ y := by
        intro z hz
        refine ⟨fun e => ?_, fun e => ?_⟩
        · rw [e, fx] at hz; exact absurd hz.symm (by rw [nI_neg1 (by omega)]; exact id)
        · rw [e, fy] at hz; exact absurd hz.symm (by rw [nI_neg1 (by omega)]; exact id)
      refine ⟨h, g, ⟨g1, g2, g3⟩, ⟨?_, ?_⟩, ⟨by rw [upd_ne q]; exact g6, by rw [upd_ne q]; exact g7, by rw [upd_ne q]; exact g8, by rw [upd_ne q]; exact g9⟩, ?_, ?_⟩
      · rw [upd_ne (by omega), upd_ne (by omega)]; exact g4
      · rw [upd_ne (by omega), upd_ne (by omega)]; exact g5
      · rw [upd_ne (hf h g10).2, upd_ne (hf h g10).1]; exact g10
      · rw [upd_ne (hf g g11).2, upd_ne (hf g g11).1]; exact g11
  · intro z hz
    rw [a7, a8]
    by_cases q : z = y
    · exact Or.inr ⟨L, by omega, by rw [q, upd_at], Or.inr (by rw [q, upd_at])⟩
    · rw [upd_ne q]
      by_cases q2 : z = x
      · exact Or.inr ⟨L, by omega, by rw [q2, upd_at], Or.inl (by rw [q2, upd_ne (by omega), upd_at])⟩
      · rw [upd_ne q2]
        rcases l2 z hz with g | ⟨l, hl, g1, g2⟩
        · exact Or.inl g
        · refine Or.inr ⟨l, by omega, g1, ?_⟩
          rw [upd_ne (by omega), upd_ne (by omega), upd_ne (by omega), upd_ne (by omega)]
          exact g2
  · intro z hz
    rw [a8, d5]
    by_cases q : z = y
    · rw [q, upd_at, upd_at]
    · rw [upd_ne q, upd_ne q]
      by_cases q2 : z = x
      · rw [q2, upd_at, upd_at]
      · rw [upd_ne q2, upd_ne q2]; exact l3 z hz
  · intro z h1 h2
    rw [a8, upd_ne (by omega), upd_ne (by omega)]
    exact l4 z h1 h2
  · have hcp := countP_two (p := hdB to') (q := hdB to) (a := x) (b := y) (n := 16) (by omega) (by omega) hne ?_ ?_ ?_ ?_ ?_
    · omega
    · unfold hdB
      rw [a8, upd_ne hne, upd_at]
      simp only [nI_neg1 (show L < 2 ^ 31 by omega)]
      decide
    · unfold hdB
      rw [a8, upd_at]
      simp only [nI_neg1 (show L < 2 ^ 31 by omega)]
      decide
    · unfold hdB; rw [fx]; decide
    · unfold hdB; rw [fy]; decide
    · intro i hi h1 h2
      unfold hdB
      rw [a8, upd_ne h2, upd_ne h1]
end TBS
