/-! all rings are traced: both tell one tangle -/
section ENDW
variable {to : ToS} {rd tn : TnS} {P X R : Nat} {T : List (Nat × Nat × Nat)} {ri0 ri : RiS} {fm : Nat → Nat}
theorem ALLT.nums (h : ALLT to rd ri0 P X R T fm ri tn) : (Tn_standings tn = nI (2 * X) ∧ Tn_crossings tn = nI X ∧ Tn_links tn = nI P ∧ Tn_people tn = nI P ∧ Tn_rings tn = nI R) ∧ nS tn = 2 * X ∧ nX tn = X ∧ nL tn = P ∧ nP tn = P ∧ nR tn = R := by
  have hw := h.wlen
  have h8 := h.R8
  obtain ⟨h1, hT, hH, hA, hv⟩ := h
  obtain ⟨hSr, hSc, hTo, hC, hV, hSI, gf1, gf2, gf3, gf4, gf5⟩ := hA
  have hn := hT.1.1
  obtain ⟨_, n1, n2, n3, n4, n5, n6, n7⟩ := hT.1
  have e1 : Tn_standings tn = nI (2 * X) := by rw [hSr.2.2.2.1.1, hw]
  have e2 : Tn_crossings tn = nI X := (congrArg (fun z => z.1.2.2.2.1) hSr.2.1).trans n6
  have e3 : Tn_links tn = nI P := (congrArg (fun z => z.1.2.2.1) hSr.2.1).trans n4
  have e4 : Tn_people tn = nI P := (congrArg (fun z => z.1.2.1) hSr.2.1).trans n2
  refine ⟨⟨e1, e2, e3, e4, hSr.1⟩, ?_, ?_, ?_, ?_, ?_⟩
  · unfold nS; rw [e1, cl_I (by omega)]
  · unfold nX; rw [e2, cl_I (by omega)]
  · unfold nL; rw [e3, cl_I (by omega)]
  · unfold nP; rw [e4, cl_I (by omega)]
  · unfold nR; rw [hSr.1, cl_I (by omega)]
/-- the standing s -/
theorem ALLT.st (h : ALLT to rd ri0 P X R T fm ri tn) {s : Nat} (hs : s < 2 * X) : ∃ (i : Nat) (t : Nat × Nat × Nat) (v : Nat), T[i]? = some t ∧ (wL to T)[s]? = some (hlv to t.1, v) ∧ (ln to T i ≤ s ∧ s < ln to T (i + 1)) ∧ lk tn s = hlv to t.1 ∧ rg tn s = t.2.1 ∧ v < 2 * X ∧
    (Tn_standLink tn s = nI (hlv to t.1) ∧ Ri_standingLink ri s = nI (hlv to t.1) ∧ nib (Tn_first tn) s = v ∧ nib (Ri_key ri) s = v + 1 ∧ Tn_standRing tn s = nI t.2.1) ∧ ∃ q, 1 ≤ q ∧ q ≤ 9 ∧ pv to (hlv to t.1) q = some v := by
  have hw := h.wlen
  have h8 := h.R8
  have hlt := @ALLT.lt8 _ _ _ _ _ _ _ _ _ _ h
  obtain ⟨h1, hT, hH, hA, hv⟩ := h
  obtain ⟨hSr, hSc, hTo, hC, hV, hSI, gf1, gf2, gf3, gf4, gf5⟩ := hA
  have hn := hT.1.1
  have e0 : (wL to T)[s]? = some (wL to T)[s] := List.getElem?_eq_getElem (by omega)
  generalize (wL to T)[s] = a at e0
  obtain ⟨l, v⟩ := a
  obtain ⟨i, t, t1, t2, t3, t4⟩ := wL_at T e0
  have ht := List.mem_of_getElem? t1
  have hb := hlt ht
  obtain ⟨a1, a2, a3⟩ := hSr.2.2.2.1.2.1 s l v e0
  obtain ⟨b1, b2⟩ := hSc.2.2.2.1.2.1 s l v e0
  subst t2
  have r1 := (hSr.2.2.1 i t.1 t.2.1 t.2.2 t1).2.2.1
  obtain ⟨_, _, _, q, q1, q2, q3⟩ := mem_wL.mp (List.mem_of_getElem? e0)
  have el : lk tn s = hlv to t.1 := by unfold lk; rw [a1, cl_I (by omega)]
  refine ⟨i, t, v, t1, e0, ⟨t3, t4⟩, el, ?_, (pv_lt hT (by omega) (by omega) q3).1, ⟨a1, b1, a2, b2, by rw [a3, r1]⟩, q, q1, q2, q3⟩
  unfold rg lr
  rw [el, r1, cl_I (by omega)]
theorem ALLT.lrro (h : ALLT to rd ri0 P X R T fm ri tn) {i : Nat} {t : Nat × Nat × Nat} (hi : T[i]? = some t) : Tn_linkRing tn (hlv to t.1) = nI t.2.1 ∧ lr tn (hlv to t.1) = t.2.1 ∧ Tn_linkRow tn (hlv to t.1) = nI t.2.2 ∧ ro tn (hlv to t.1) = t.2.2 := by
  have h8 := h.R8
  have hb := h.lt8 (List.mem_of_getElem? hi)
  have a := h.2.2.2.1.1.2.2.1 i t.1 t.2.1 t.2.2 hi
  refine ⟨a.2.2.1, ?_, a.2.2.2.1, ?_⟩
  · unfold lr; rw [a.2.2.1, cl_I (by omega)]
  · unfold ro; rw [a.2.2.2.1, cl_I (by omega)]
theorem ln_lt {i j s k : Nat} (h1 : s < ln to T (i + 1)) (h2 : ln to T j ≤ k) (h3 : k ≤ s) : j ≤ i := by
  by_cases c : j ≤ i
  · exact c
  · have := ln_mono (to := to) (T := T) (show i + 1 ≤ j by omega)
    omega
theorem ALLT.tw (h : ALLT to rd ri0 P X R T fm ri tn) (hb : To_begun to = 1) : TW tn := by
  have h8 := h.R8
  obtain ⟨⟨e1, e2, e3, e4, e5⟩, c1, c2, c3, c4, c5⟩ := h.nums
  have hT := h.2.1
  have hk := h.2.2.2.1.1.2.1
  have hn := hT.1.1
  unfold TW
  rw [c1, c2, c3, c4, c5]
  refine ⟨⟨e1, e2, e3, e4, e5⟩, ⟨hn.2.2, rfl, by omega, by omega, rfl, by omega⟩, fun s hs => ?_, fun l hl => ?_, fun s k hsk hk' => ?_, fun l k hl hk' e1 e2 => ?_, fun l hl => ?_, fun p hp => ?_, ?_, fun x hx => ?_⟩
  · obtain ⟨i, t, v, a1, a2, a3, a4, a5, a6, ⟨a7, a8, a9, a10, a11⟩, a12⟩ := h.st hs
    have := h.lt8 (List.mem_of_getElem? a1)
    rw [a4, a5]
    exact ⟨a7, this.2.1, a11⟩
  · obtain ⟨i, t, a1, a2⟩ := h.link hl
    have b := h.lrro a1
    have := h.lt8 (List.mem_of_getElem? a1)
    rw [a2] at b
    rw [b.2.1, b.2.2.2]
    exact ⟨b.1, this.2.2.2, b.2.2.1, this.2.2.1⟩
  · obtain ⟨i, t, v, a1, a2, a3, a4, a5, _⟩ := h.st (show s < 2 * X by omega)
    obtain ⟨j, u, w, b1, b2, b3, b4, b5, _⟩ := h.st hk'
    rw [a4, a5, b4, b5, (h.lrro a1).2.2.2, (h.lrro b1).2.2.2]
    exact (h.ord a1 b1).1 (ln_lt b3.2 a3.1 hsk)
  · obtain ⟨i, t, a1, a2⟩ := h.link hl
    obtain ⟨j, u, b1, b2⟩ := h.link hk'
    have a3 := h.lrro a1
    have b3 := h.lrro b1
    rw [a2] at a3
    rw [b2] at b3
    have := (h.ord a1 b1).2.1 (by rw [← a3.2.1, ← b3.2.1]; exact e1) (by rw [← a3.2.2.2, ← b3.2.2.2]; exact e2)
    rw [← a2, ← b2]
    rw [this, b1] at a1
    injection a1 with a1
    rw [a1]
  · obtain ⟨o1, o2, o3, o4⟩ := hall_of hT hl
    obtain ⟨_, f1, f2, f3, f4, f5⟩ := hT.hf.1 l hl
    have k1 : Tn_one tn = Tn_one rd := congrArg (fun z => z.2.1.1) hk
    have k2 : Tn_two tn = Tn_two rd := congrArg (fun z => z.2.1.2.2.1) hk
    unfold on1 on2
    rw [k1, k2, o1, o3, cl_I (by omega), cl_I (by omega)]
    exact ⟨rfl, by omega, rfl, by omega⟩
  · obtain ⟨t, t1, t2, t3, t4⟩ := hT.2.2.2.1 p hp
    have k1 : Tn_tall tn = Tn_tall rd := congrArg (fun z => z.1.2.2.2.2.2) hk
    unfold tl
    rw [k1, t4, cl_I (by omega)]
    exact ⟨rfl, t2⟩
  · have k1 : Tn_height tn = Tn_height rd := congrArg (fun z => z.1.1) hk
    rw [k1]
    rcases hT.2.1.1 with a | ⟨_, v, v1, v2, v3⟩
    · rw [hb] at a; exact absurd a.1 (by decide)
    · exact ⟨v, v1, v3⟩
  · obtain ⟨lo, po, lu, pu, g, ⟨g1, g2, g3, g4⟩, ⟨g5, g6, g7, g8⟩, g9⟩ := hT.2.2.2.2.2.1 x hx
    have k1 : Tn_over tn = Tn_over rd := congrArg (fun z => z.2.2.1) hk
    have k2 : Tn_under tn = Tn_under rd := congrArg (fun z => z.2.2.2.2.1) hk
    have k3 : Tn_sign tn = Tn_sign rd := congrArg (fun z => z.2.2.2.2.2.2) hk
    unfold ov un
    rw [k1, k2, k3, g1, g5, g9, cl_I (by omega), cl_I (by omega)]
    refine ⟨rfl, by omega, rfl, by omega, ?_⟩
    by_cases c : bitB (To_plus to) x = true
    · rw [if_pos c]; exact Or.inl rfl
    · rw [if_neg c]; exact Or.inr rfl
/-- links of a crossing -/
theorem ALLT.ovun (h : ALLT to rd ri0 P X R T fm ri tn) {l q x : Nat} (hl : l < P) (hq : q ≤ 9) (hx : x < X) : (pv to l q = some (2 * x) → un tn x = l) ∧ (pv to l q = some (2 * x + 1) → ov tn x = l) := by
  have h8 := h.R8
  have hT := h.2.1
  have hk := h.2.2.2.1.1.2.1
  have k1 : Tn_over tn = Tn_over rd := congrArg (fun z => z.2.2.1) hk
  have k2 : Tn_under tn = Tn_under rd := congrArg (fun z => z.2.2.2.2.1) hk
  refine ⟨fun e => ?_, fun e => ?_⟩
  · have := (pv_u hT (by omega) (by omega) hx).mpr e
    unfold un; rw [k2, this.1, cl_I (by omega)]
  · have := (pv_o hT (by omega) (by omega) hx).mpr e
    unfold ov; rw [k1, this.1, cl_I (by omega)]
/-- and each stands somewhere -/
theorem ALLT.at (h : ALLT to rd ri0 P X R T fm ri tn) {v : Nat} (hv : v < 2 * X) : ∃ s, s < 2 * X ∧ nib (Tn_first tn) s = v := by
  have hw := h.wlen
  have hst := @ALLT.st _ _ _ _ _ _ _ _ _ _ h
  obtain ⟨h1, hT, hH, hA, hv'⟩ := h
  obtain ⟨hSr, hSc, hTo, hC, hV, hSI, gf1, gf2, gf3, gf4, gf5⟩ := hA
  have hn := hT.1.1
  have h8 : ∀ t, t ∈ T → hlv to t.1 < 8 := fun t ht => by
    have := (hT.hf.2 t.1 (hTo.2.2 t ht).1).2.1
    omega
  have nd := wL_nd hT T h8 hTo.2.1
  have hsub : (wL to T).map Prod.snd ⊆ List.range (2 * X) := fun w hw => by
    rw [List.mem_map] at hw
    obtain ⟨⟨l, w'⟩, m, rfl⟩ := hw
    obtain ⟨s, hs, es⟩ := List.getElem_of_mem m
    obtain ⟨i, t, v, a1, a2, a3, a4, a5, a6, _⟩ := hst (s := s) (by omega)
    rw [List.getElem?_eq_getElem hs, es] at a2
    injection a2 with a2
    injection a2 with a2 a2'
    rw [List.mem_range]
    show w' < 2 * X
    omega
  have hperm : v ∈ (wL to T).map Prod.snd := by
    refine Classical.byContradiction (fun c => ?_)
    have nd2 : (v :: (wL to T).map Prod.snd).Nodup := List.nodup_cons.mpr ⟨c, nd⟩
    have := nd2.length_le_of_subset (l₂ := List.range (2 * X)) (fun w hw => by
      rcases List.mem_cons.mp hw with e | e
      · rw [e, List.mem_range]; exact hv
      · exact hsub e)
    rw [List.length_cons, List.length_map, List.length_range] at this
    omega
  rw [List.mem_map] at hperm
  obtain ⟨⟨l, w'⟩, m, rfl⟩ := hperm
  obtain ⟨s, hs, es⟩ := List.getElem_of_mem m
  refine ⟨s, by omega, ?_⟩
  exact (hSr.2.2.2.1.2.1 s l w' (by rw [List.getElem?_eq_getElem hs, es])).2.1
theorem ALLT.nibv (h : ALLT to rd ri0 P X R T fm ri tn) {s : Nat} (hs : s < 2 * X) : nib (Tn_first tn) s < 2 * X ∧ nib (Ri_key ri) s = nib (Tn_first tn) s + 1 := by
  obtain ⟨i, t, v, a1, a2, a3, a4, a5, a6, ⟨a7, a8, a9, a10, a11⟩, a12⟩ := h.st hs
  rw [a9, a10]; exact ⟨a6, rfl⟩
theorem ALLT.nib0 (h : ALLT to rd ri0 P X R T fm ri tn) {s : Nat} (a : 2 * X ≤ s) (b : s < 16) : nib (Tn_first tn) s = 0 ∧ nib (Ri_key ri) s = 0 := by
  have hw := h.wlen
  exact ⟨h.2.2.2.1.1.2.2.2.1.2.2 s (by omega) b, h.2.2.2.1.2.1.2.2.2.1.2.2 s (by omega) b⟩
theorem ALLT.nibi (h : ALLT to rd ri0 P X R T fm ri tn) {s k : Nat} (hs : s < 2 * X) (hk : k < 2 * X) (e : nib (Tn_first tn) s = nib (Tn_first tn) k) : s = k := by
  have hw := h.wlen
  have h8 := h.R8
  have nd : ((wL to T).map Prod.snd).Nodup := wL_nd h.2.1 T (fun t ht => by have := (h.lt8 ht).2.1; omega) h.2.2.2.1.2.2.1.2.1
  obtain ⟨i, t, v, a1, a2, a3, a4, a5, a6, ⟨a7, a8, a9, a10, a11⟩, a12⟩ := h.st hs
  obtain ⟨j, u, w, b1, b2, b3, b4, b5, b6, ⟨b7, b8, b9, b10, b11⟩, b12⟩ := h.st hk
  have ev : v = w := by rw [← a9, ← b9]; exact e
  have hsl : s < ((wL to T).map Prod.snd).length := by rw [List.length_map, hw]; exact hs
  refine (List.getElem?_inj (l := (wL to T).map Prod.snd) hsl nd).mp ?_
  rw [List.getElem?_map, List.getElem?_map, a2, b2, Option.map_some, Option.map_some, ev]
theorem ALLT.nibr (h : ALLT to rd ri0 P X R T fm ri tn) {x s k : Nat} (hx : x < X) (hs : s < 2 * X) (hk : k < 2 * X) (es : nib (Tn_first tn) s = 2 * x) (ek : nib (Tn_first tn) k = 2 * x + 1) : rg tn s = lr tn (un tn x) ∧ rg tn k = lr tn (ov tn x) := by
  obtain ⟨i, t, v, a1, a2, a3, a4, a5, a6, ⟨a7, a8, a9, a10, a11⟩, q, q1, q2, q3⟩ := h.st hs
  obtain ⟨j, u, w, b1, b2, b3, b4, b5, b6, ⟨b7, b8, b9, b10, b11⟩, q', q1', q2', q3'⟩ := h.st hk
  have ha := h.lt8 (List.mem_of_getElem? a1)
  have hb := h.lt8 (List.mem_of_getElem? b1)
  have f1 := (h.ovun ha.2.1 q2 hx).1 (by rw [q3, ← a9, es])
  have f2 := (h.ovun hb.2.1 q2' hx).2 (by rw [q3', ← b9, ek])
  rw [a5, b5, f1, f2, (h.lrro a1).2.1, (h.lrro b1).2.1]
  exact ⟨rfl, rfl⟩
theorem ALLT.cnt2 (h : ALLT to rd ri0 P X R T fm ri tn) : cnt tn (Tn_first tn) = 2 * X := by
  have hn := h.2.1.1.1
  unfold cnt
  rw [h.nums.2.1]
  have : (List.range (2 * X)).countP (lvB (Tn_first tn)) = (List.range (2 * X)).length := by
    rw [List.countP_eq_length]
    intro s hs
    rw [List.mem_range] at hs
    have := (h.nibv hs).1
    unfold lvB
    rw [bne_iff_ne]
    omega
  rw [this, List.length_range]
theorem ALLT.dw (h : ALLT to rd ri0 P X R T fm ri tn) : DW tn none (Tn_first tn) := by
  obtain ⟨_, c1, c2, c3, c4, c5⟩ := h.nums
  refine ⟨⟨?_, ?_, ?_, ?_⟩, ?_, ?_, ?_⟩
  · rw [c1, c2]; exact fun s hs _ => (h.nibv hs).1
  · rw [c1]; exact fun s k hs hk _ e => h.nibi hs hk e
  · rw [c1]; exact fun s a b => (h.nib0 a b).1
  · rw [c1, c2]
    intro x hx
    exact ⟨fun _ => h.at (by omega), fun _ => h.at (by omega)⟩
  · rw [h.cnt2]; omega
  · intro l hl; cases hl
  · rw [c1, c2]
    exact fun x hx s k hs hk es ek => Or.inl (h.nibr hx hs hk es ek)
theorem ALLT.kr (h : ALLT to rd ri0 P X R T fm ri tn) : KR tn (Ri_key ri) (Tn_first tn) := by
  have hn := h.2.1.1.1
  intro s hs
  rw [h.nums.2.1]
  by_cases c : s < 2 * X
  · rw [if_pos c]
    have := h.nibv c
    rw [this.2]; omega
  · rw [if_neg c]
    exact (h.nib0 (by omega) hs).2
end ENDW
