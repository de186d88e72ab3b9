section LINES
variable {b : Nat → Nat} {n : Nat} {ps : List Nat} {ta : TaS} {re : ReS} {md md0 : MdS} {p : Nat} {to : ToS} {rd : TnS} {P L X : Nat}
def LG (b : Nat → Nat) (n : Nat) (ps : List Nat) (md0 : MdS) (re : ReS) (to : ToS) (md : MdS) (rd : TnS) : Prop := ∃ P L X q, TB to rd P L X ∧ TBz rd ∧ To_begun to = 1 ∧ PAt b n ps re md q ∧ Sc md0 md
def LB (b : Nat → Nat) (n : Nat) (ps : List Nat) (md0 : MdS) (re : ReS) (to : ToS) (md : MdS) (rd : TnS) : Prop := ∃ P L X q, TB to rd P L X ∧ TBz rd ∧ To_begun to = 1 ∧ PBf b n ps re md q ∧ Sc md0 md
theorem part_c (hX : TX b n ps ta) (h : PBf b n ps re md p) (hsc : Sc md0 md) {lo hi : Nat} (hlo : lo ≤ hi) (hhi : hi < 1000) {K : ReS → Option (Int32 × ReS × ToS)} {F : Int32 → MdS → Option (MdS × TnS)} {Q : MdS × TnS → Int32 × ReS × ToS → Prop}
    (hg : ∀ re4 md' v q, lo ≤ v → v ≤ hi → PBf b n ps re4 md' q → Pm md md' → Re_taken re4 = nI v → Re_name re4 = Re_name re → Ok (F (nI v) md') (fun r => Ok (K re4) (Q r)))
    (hbd : ∀ re' md', BADQ md0 re' md' → Ok (F (nI lo) md') (fun r => Q r (0, re', to))) :
    Ok (bd2 (f_X13_readPart md 13 (nI lo) (nI hi)) F) (fun r => Ok (bd2 (f_X5_takesWord re ta (4 : Int32)) fun r1 re2 => if r1 = 0 then some ((0 : Int32), re2, to) else bd2 (f_X5_takesWhole re2 ta (nI lo) (nI hi)) fun r3 re4 => if r3 = 0 then some ((0 : Int32), re4, to) else K re4) (Q r)) := by
  unfold f_X13_readPart
  rw [Ok_bd2, Ok_bd1]
  refine (needs_c hX h hsc (k := 13) (w := 4) (by omega) wo_tall).mono (fun md1 h1 => ?_)
  obtain ⟨c, c0, hc⟩ := h1
  have c0 : f_X5_takesWord re ta (4 : Int32) = some (c.1, c.2) := c0
  rcases hc with ⟨e1, ⟨⟨q, hq⟩, pm⟩, en, et⟩ | ⟨e1, hb⟩
  · rw [Ok_bd2]
    refine (bounded_c hX hq (hsc.trans pm.1) hlo hhi).mono (fun r hr => ?_)
    obtain ⟨c', c0', hc'⟩ := hr
    have c0' : f_X5_takesWhole c.2 ta (nI lo) (nI hi) = some (c'.1, c'.2) := c0'
    rcases hc' with ⟨f1, ⟨v, v1, v2, v3, v4⟩, v5, v6, v7, v8⟩ | ⟨f1, hb, v3⟩
    · have hcl : (bd2 (f_X5_takesWord re ta (4 : Int32)) fun r1 re2 => if r1 = 0 then some ((0 : Int32), re2, to) else bd2 (f_X5_takesWhole re2 ta (nI lo) (nI hi)) fun r3 re4 => if r3 = 0 then some ((0 : Int32), re4, to) else K re4) = K c'.2 := by
        rw [bd2_e c0, e1, if_neg (by decide), bd2_e c0', f1, if_neg (by decide)]
      rw [hcl, v5, v3, Ok_bd1]
      refine (step_e hX v6 (by omega) (by omega)).mono (fun md2 h2 => ?_)
      obtain ⟨pm2, q2, hq2⟩ := h2
      rw [Ok_some]
      exact hg c'.2 md2 v q2 v1 v2 hq2 (pm.trans pm2) v4 (v8.trans en)
    · have hcl : (bd2 (f_X5_takesWord re ta (4 : Int32)) fun r1 re2 => if r1 = 0 then some ((0 : Int32), re2, to) else bd2 (f_X5_takesWhole re2 ta (nI lo) (nI hi)) fun r3 re4 => if r3 = 0 then some ((0 : Int32), re4, to) else K re4) = some (0, c'.2, to) := by
        rw [bd2_e c0, e1, if_neg (by decide), bd2_e c0', f1, if_pos rfl]
      rw [hcl, bd1_e (ov_goes hb.s5), Ok_some, v3]
      exact (hbd c'.2 r.2 hb).mono (fun r hr => by rw [Ok_some]; exact hr)
  · have hcl : (bd2 (f_X5_takesWord re ta (4 : Int32)) fun r1 re2 => if r1 = 0 then some ((0 : Int32), re2, to) else bd2 (f_X5_takesWhole re2 ta (nI lo) (nI hi)) fun r3 re4 => if r3 = 0 then some ((0 : Int32), re4, to) else K re4) = some (0, c.2, to) := by
      rw [bd2_e c0, e1, if_pos rfl]
    rw [hcl, bd2_e (ov_bounded hb.s5 _ _), bd1_e (ov_goes hb.s5), Ok_some]
    exact (hbd c.2 md1 hb).mono (fun r hr => by rw [Ok_some]; exact hr)
theorem ov_tangle (h : Md_sort md = 5) : f_X13_readTangle_L16 md rd = some (md, rd) := by
  unfold f_X13_readTangle_L16
  rw [bd1_e (ov_goes h), bd2_e (ov_part h 13 0 99), bd2_e (ov_eatsWord h 14), if_pos h]
theorem line_tangle (hX : TX b n ps ta) (hT : TB to rd P L X) (hz : TBz rd) (h : PAt b n ps re md p) (hk : tkK b n p = 1) (hsc : Sc md0 md) :
    Ok (f_X13_readTangle md rd) (fun r => Ok (f_X5_readsTangle re ta to) (fun c => (c.1 = 1 ∧ LG b n ps md0 c.2.1 c.2.2 r.1 r.2) ∨ (c.1 = 0 ∧ BADQ md0 c.2.1 r.1))) := by
  unfold f_X13_readTangle f_X5_readsTangle
  have hh := hT.2.1.1
  by_cases c : To_begun to = 0
  · have hei : Tn_height rd = -1 := by
      rcases hh with ⟨_, g, _⟩ | ⟨g, _⟩
      · exact g
      · rw [c] at g; exact absurd g (by decide)
    rw [if_pos hei, if_pos c]
    unfold f_X13_readTangle_L16
    rw [Ok_bd1]
    refine (step_e hX h (by omega) (by omega)).mono (fun md2 h2 => ?_)
    obtain ⟨pm2, q2, hq2⟩ := h2
    refine part_c (lo := 0) (hi := 99) (md0 := md0) hX hq2 (hsc.trans pm2.1) (by omega) (by omega) (fun re4 md' v q v1 v2 hq pm hv hnm => ?_) (fun re' md' hb => ?_)
    · obtain ⟨re7, a0, a1, a2, a3, a4⟩ := adv_e hX hq
      have sc' := (hsc.trans pm2.1).trans pm.1
      unfold f_X13_eatsWord
      have ew := isWord_c hX a1 (w := 5) (by omega)
      rw [bd1_e (isWord_r hq.at wo_once), lt1_e, lt1_e, bd1_e a0, show f_X5_isWord re7 ta (5 : Int32) = _ from ew, bd1_e rfl, hv]
      cases co : isW b n q 5 with
      | true =>
        have hk5 := isW_k co
        rw [if_neg (show ¬ (bI true = 0) by decide), if_neg (show ¬ (bI true = 0) by decide), Ok_bd2, Ok_bd1]
        refine (step_e hX a1 (by omega) (by omega)).mono (fun md3 h3 => ?_)
        obtain ⟨pm3, q3, hq3⟩ := h3
        obtain ⟨re10, d0, d1, _⟩ := adv_e hX hq3
        rw [show bI true = 1 from rfl, zb_i (Or.inr rfl), Ok_some, if_neg hq3.at.n5, lt1_e, zb_i (Or.inr rfl), lt1_e, Ok_some, lt1_e, bd1_e d0, Ok_some]
        refine Or.inl ⟨rfl, P, L, X, q3, ?_, ⟨hz.1, hz.2.1, hz.2.2⟩, rfl, d1, sc'.trans pm3.1⟩
        exact hT.begin c (v := v) (by omega) 1 (Or.inr rfl) ⟨rfl, rfl, rfl, rfl, rfl, rfl, rfl⟩ ⟨rfl, rfl, rfl, rfl⟩ ⟨rfl, rfl, rfl, rfl, rfl, rfl, rfl⟩ ⟨rfl, rfl, rfl, rfl, rfl, rfl⟩
      | false =>
        have ho : To_once to = 0 := by
          rcases hh with ⟨_, _, g⟩ | ⟨g, _⟩
          · exact g.2.2.2
          · rw [c] at g; exact absurd g (by decide)
        rw [if_pos (show bI false = 0 from rfl), if_pos (show bI false = 0 from rfl), show bI false = 0 from rfl, zb_i (Or.inl rfl), bd2_e rfl, if_neg hq.at.n5, lt1_e, zb_i (Or.inl rfl), lt1_e, Ok_some, Ok_some]
        refine Or.inl ⟨rfl, P, L, X, q, ?_, ⟨hz.1, hz.2.1, hz.2.2⟩, rfl, a1, sc'⟩
        exact hT.begin c (v := v) (by omega) 0 (Or.inl rfl) ⟨rfl, rfl, ho, rfl, rfl, rfl, rfl⟩ ⟨rfl, rfl, rfl, rfl⟩ ⟨rfl, rfl, rfl, rfl, rfl, rfl, rfl⟩ ⟨rfl, rfl, rfl, rfl, rfl, rfl⟩
    · rw [bd2_e (ov_eatsWord hb.s5 14), if_pos hb.s5, Ok_some]
      exact Or.inr ⟨rfl, hb⟩
  · have hei : ¬ (Tn_height rd = -1) := by
      rcases hh with ⟨g, _⟩ | ⟨_, x, g1, _, g2⟩
      · exact absurd g c
      · rw [g2, nI_neg1 (by omega)]; exact id
    rw [if_neg hei, if_neg c, Ok_bd1]
    refine (bad_e hX h hsc 3 (k := 3) rfl (by omega) (by omega)).mono (fun md' h1 => ?_)
    obtain ⟨c, c0, c1, c2⟩ := h1
    rw [ov_tangle c2.s5, Ok_some, bd2_e (a := c.1) (b := c.2) c0, c1, zb_i (Or.inl rfl), Ok_some]
    exact Or.inr ⟨rfl, c2⟩
end LINES
