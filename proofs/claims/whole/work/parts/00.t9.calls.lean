section CALLS
variable {hk : HKS} {re : ReS} {ta : TaS} {to : ToS} {ri : RiS} {now tr : MoS} {hi : HiS} {bo sb wb : BoS} {se : SeS} {co : CoS} {ch : ChS} {md : MdS} {ot : Option TnS}
noncomputable def rr_stands (md : MdS) (ot : Option TnS) (p1 : Int32) : Option (Int32 × MdS) := match ot with
  | none => f_X13_stands_N md
  | some tn => f_X13_stands md tn p1
theorem i_stands (h : INV hk re ta ri now hi bo se co ch md ot) (p1 : Int32) : Ok (rr_stands md ot p1) (fun q => Ok (f_X11_stands hk now ri p1) (fun c => c.1 = q.1 ∧ INV c.2 re ta ri now hi bo se co ch q.2 ot)) := by
  cases ot with
  | none =>
    have ht : HK_there hk = 0 := h.2.2.2.1
    simp only [rr_stands, f_X13_stands_N, f_X11_stands, f_X11_stands_L38, f_X11_isRing, f_X11_isPerson, f_X11_isLink, f_X11_isCrossing, f_X11_isStanding, f_X11_isMove, f_X13_isRing_N, f_X13_isPerson_N, f_X13_isLink_N, f_X13_isCrossing_N, f_X13_isStanding_N, f_X13_isMove_N, ht, ↓reduceIte, lt1_e, b1s, b2s, b3s, refused_t, lost_t, denied_t, refuse_t, refuseS_t, refuseF_t, zb_i, true_or, Ok_some, true_and]
    exact h.no (by decide)
  | some tn =>
    have h7 := h.2.2.2
    exact (a_stands h7.2.1 h7.1 p1).mono (fun q hq => hq.mono (fun c hc => ⟨hc.s.1, h.an hc.s.2 h.2.2.1⟩))
noncomputable def rr_hang (md : MdS) (ot : Option TnS) (p1 : Int32) (p2 : Int32) : Option (Int32 × MdS) := match ot with
  | none => f_X13_hang_N md
  | some tn => f_X13_hang md tn p1 p2
theorem i_hang (h : INV hk re ta ri now hi bo se co ch md ot) (p1 : Int32) (p2 : Int32) : Ok (rr_hang md ot p1 p2) (fun q => Ok (f_X11_hang hk bo ri p1 p2) (fun c => c.1 = q.1 ∧ INV c.2 re ta ri now hi bo se co ch q.2 ot)) := by
  cases ot with
  | none =>
    have ht : HK_there hk = 0 := h.2.2.2.1
    simp only [rr_hang, f_X13_hang_N, f_X13_hang_N_L39, f_X11_hang, f_X11_hang_L21, f_X11_isRing, f_X11_isPerson, f_X11_isLink, f_X11_isCrossing, f_X11_isStanding, f_X11_isMove, f_X13_isRing_N, f_X13_isPerson_N, f_X13_isLink_N, f_X13_isCrossing_N, f_X13_isStanding_N, f_X13_isMove_N, ht, ↓reduceIte, lt1_e, b1s, b2s, b3s, refused_t, lost_t, denied_t, refuse_t, refuseS_t, refuseF_t, zb_i, true_or, Ok_some, true_and]
    exact h.no (by decide)
  | some tn =>
    have h7 := h.2.2.2
    exact (a_hang h7.2.1 h7.1 p1 p2).mono (fun q hq => hq.mono (fun c hc => ⟨hc.s.1, h.an hc.s.2 h.2.2.1⟩))
noncomputable def rr_twist (md : MdS) (ot : Option TnS) (p1 : Int32) : Option (Int32 × MdS) := match ot with
  | none => f_X13_twist_N md
  | some tn => f_X13_twist md tn p1
theorem i_twist (h : INV hk re ta ri now hi bo se co ch md ot) (p1 : Int32) : Ok (rr_twist md ot p1) (fun q => Ok (f_X11_twist hk bo ri p1) (fun c => c.1 = q.1 ∧ INV c.2 re ta ri now hi bo se co ch q.2 ot)) := by
  cases ot with
  | none =>
    have ht : HK_there hk = 0 := h.2.2.2.1
    simp only [rr_twist, f_X13_twist_N, f_X11_twist, f_X11_isRing, f_X11_isPerson, f_X11_isLink, f_X11_isCrossing, f_X11_isStanding, f_X11_isMove, f_X13_isRing_N, f_X13_isPerson_N, f_X13_isLink_N, f_X13_isCrossing_N, f_X13_isStanding_N, f_X13_isMove_N, ht, ↓reduceIte, lt1_e, b1s, b2s, b3s, refused_t, lost_t, denied_t, refuse_t, refuseS_t, refuseF_t, zb_i, true_or, Ok_some, true_and]
    exact h.no (by decide)
  | some tn =>
    have h7 := h.2.2.2
    exact (a_twist h7.2.1 h7.1 p1).mono (fun q hq => hq.mono (fun c hc => ⟨hc.s.1, h.an hc.s.2 h.2.2.1⟩))
noncomputable def rr_left (md : MdS) (ot : Option TnS) : Option (Int32 × MdS) := match ot with
  | none => f_X13_left_N md
  | some tn => f_X13_left md tn
theorem i_left (h : INV hk re ta ri now hi bo se co ch md ot) : Ok (rr_left md ot) (fun q => Ok (f_X11_left hk bo) (fun c => c.1 = q.1 ∧ INV c.2 re ta ri now hi bo se co ch q.2 ot)) := by
  cases ot with
  | none =>
    have ht : HK_there hk = 0 := h.2.2.2.1
    simp only [rr_left, f_X13_left_N, f_X11_left, f_X11_isRing, f_X11_isPerson, f_X11_isLink, f_X11_isCrossing, f_X11_isStanding, f_X11_isMove, f_X13_isRing_N, f_X13_isPerson_N, f_X13_isLink_N, f_X13_isCrossing_N, f_X13_isStanding_N, f_X13_isMove_N, ht, ↓reduceIte, lt1_e, b1s, b2s, b3s, refused_t, lost_t, denied_t, refuse_t, refuseS_t, refuseF_t, zb_i, true_or, Ok_some, true_and]
    exact h.no (by decide)
  | some tn =>
    have h7 := h.2.2.2
    exact (a_left h7.2.1 h7.1).mono (fun q hq => hq.mono (fun c hc => ⟨hc.s.1, h.an hc.s.2 h.2.2.1⟩))
noncomputable def rr_loose (md : MdS) (ot : Option TnS) : Option (Int32 × MdS) := match ot with
  | none => f_X13_loose_N md
  | some tn => f_X13_loose md tn
theorem i_loose (h : INV hk re ta ri now hi bo se co ch md ot) : Ok (rr_loose md ot) (fun q => Ok (f_X11_loose hk bo) (fun c => c.1 = q.1 ∧ INV c.2 re ta ri now hi bo se co ch q.2 ot)) := by
  cases ot with
  | none =>
    have ht : HK_there hk = 0 := h.2.2.2.1
    simp only [rr_loose, f_X13_loose_N, f_X11_loose, f_X11_loose_L23, f_X11_isRing, f_X11_isPerson, f_X11_isLink, f_X11_isCrossing, f_X11_isStanding, f_X11_isMove, f_X13_isRing_N, f_X13_isPerson_N, f_X13_isLink_N, f_X13_isCrossing_N, f_X13_isStanding_N, f_X13_isMove_N, ht, ↓reduceIte, lt1_e, b1s, b2s, b3s, refused_t, lost_t, denied_t, refuse_t, refuseS_t, refuseF_t, zb_i, true_or, Ok_some, true_and]
    exact h.no (by decide)
  | some tn =>
    have h7 := h.2.2.2
    exact (a_loose h7.2.1 h7.1).mono (fun q hq => hq.mono (fun c hc => ⟨hc.s.1, h.an hc.s.2 h.2.2.1⟩))
noncomputable def rr_sign (md : MdS) (ot : Option TnS) (p1 : Int32) : Option (Int32 × MdS) := match ot with
  | none => f_X13_sign_N md
  | some tn => f_X13_sign md tn p1
theorem i_sign (h : INV hk re ta ri now hi bo se co ch md ot) (p1 : Int32) : Ok (rr_sign md ot p1) (fun q => Ok (f_X11_sign hk bo ri p1) (fun c => c.1 = q.1 ∧ INV c.2 re ta ri now hi bo se co ch q.2 ot)) := by
  cases ot with
  | none =>
    have ht : HK_there hk = 0 := h.2.2.2.1
    simp only [rr_sign, f_X13_sign_N, f_X13_sign_N_L27, f_X11_sign, f_X11_isRing, f_X11_isPerson, f_X11_isLink, f_X11_isCrossing, f_X11_isStanding, f_X11_isMove, f_X13_isRing_N, f_X13_isPerson_N, f_X13_isLink_N, f_X13_isCrossing_N, f_X13_isStanding_N, f_X13_isMove_N, ht, ↓reduceIte, lt1_e, b1s, b2s, b3s, refused_t, lost_t, denied_t, refuse_t, refuseS_t, refuseF_t, zb_i, true_or, Ok_some, true_and]
    exact h.no (by decide)
  | some tn =>
    have h7 := h.2.2.2
    exact (a_sign h7.2.1 h7.1 p1).mono (fun q hq => hq.mono (fun c hc => ⟨hc.s.1, h.an hc.s.2 h.2.2.1⟩))
noncomputable def rr_place (md : MdS) (ot : Option TnS) (p1 : Int32) (p2 : Int32) : Option (Int32 × MdS) := match ot with
  | none => f_X13_place_N md
  | some tn => f_X13_place md tn p1 p2
theorem i_place (h : INV hk re ta ri now hi bo se co ch md ot) (p1 : Int32) (p2 : Int32) : Ok (rr_place md ot p1 p2) (fun q => Ok (f_X11_place hk ri p1 p2) (fun c => c.1 = q.1 ∧ INV c.2 re ta ri now hi bo se co ch q.2 ot)) := by
  cases ot with
  | none =>
    have ht : HK_there hk = 0 := h.2.2.2.1
    simp only [rr_place, f_X13_place_N, f_X13_place_N_L22, f_X11_place, f_X11_place_L17, f_X11_place_L51, f_X11_isRing, f_X11_isPerson, f_X11_isLink, f_X11_isCrossing, f_X11_isStanding, f_X11_isMove, f_X13_isRing_N, f_X13_isPerson_N, f_X13_isLink_N, f_X13_isCrossing_N, f_X13_isStanding_N, f_X13_isMove_N, ht, ↓reduceIte, lt1_e, b1s, b2s, b3s, refused_t, lost_t, denied_t, refuse_t, refuseS_t, refuseF_t, zb_i, true_or, Ok_some, true_and]
    exact h.no (by decide)
  | some tn =>
    have h7 := h.2.2.2
    exact (a_place h7.2.1 h7.1 p1 p2).mono (fun q hq => hq.mono (fun c hc => ⟨hc.s.1, h.an hc.s.2 h.2.2.1⟩))
noncomputable def rr_moves (md : MdS) (ot : Option TnS) : Option (Int32 × MdS) := match ot with
  | none => f_X13_moves_N md
  | some tn => f_X13_moves md tn
theorem i_moves (h : INV hk re ta ri now hi bo se co ch md ot) : Ok (rr_moves md ot) (fun q => Ok (f_X11_moves hk bo) (fun c => c.1 = q.1 ∧ INV c.2 re ta ri now hi bo se co ch q.2 ot)) := by
  cases ot with
  | none =>
    have ht : HK_there hk = 0 := h.2.2.2.1
    simp only [rr_moves, f_X13_moves_N, f_X11_moves, f_X11_isRing, f_X11_isPerson, f_X11_isLink, f_X11_isCrossing, f_X11_isStanding, f_X11_isMove, f_X13_isRing_N, f_X13_isPerson_N, f_X13_isLink_N, f_X13_isCrossing_N, f_X13_isStanding_N, f_X13_isMove_N, ht, ↓reduceIte, lt1_e, b1s, b2s, b3s, refused_t, lost_t, denied_t, refuse_t, refuseS_t, refuseF_t, zb_i, true_or, Ok_some, true_and]
    exact h.no (by decide)
  | some tn =>
    have h7 := h.2.2.2
    exact (a_moves h7.2.1 h7.1).mono (fun q hq => hq.mono (fun c hc => ⟨hc.s.1, h.an hc.s.2 h.2.2.1⟩))
noncomputable def rr_moveAt (md : MdS) (ot : Option TnS) (p1 : Int32) : Option (Int32 × MdS) := match ot with
  | none => f_X13_moveAt_N md
  | some tn => f_X13_moveAt md tn p1
theorem i_moveAt (h : INV hk re ta ri now hi bo se co ch md ot) (p1 : Int32) : Ok (rr_moveAt md ot p1) (fun q => Ok (f_X11_moveAt hk bo p1) (fun c => c.1 = q.1 ∧ INV c.2 re ta ri now hi bo se co ch q.2 ot)) := by
  cases ot with
  | none =>
    have ht : HK_there hk = 0 := h.2.2.2.1
    simp only [rr_moveAt, f_X13_moveAt_N, f_X11_moveAt, f_X11_moveAt_L22, f_X11_isRing, f_X11_isPerson, f_X11_isLink, f_X11_isCrossing, f_X11_isStanding, f_X11_isMove, f_X13_isRing_N, f_X13_isPerson_N, f_X13_isLink_N, f_X13_isCrossing_N, f_X13_isStanding_N, f_X13_isMove_N, ht, ↓reduceIte, lt1_e, b1s, b2s, b3s, refused_t, lost_t, denied_t, refuse_t, refuseS_t, refuseF_t, zb_i, true_or, Ok_some, true_and]
    exact h.no (by decide)
  | some tn =>
    have h7 := h.2.2.2
    exact (a_moveAt h7.2.1 h7.1 p1).mono (fun q hq => hq.mono (fun c hc => ⟨hc.s.1, h.an hc.s.2 h.2.2.1⟩))
noncomputable def rr_sees (md : MdS) (ot : Option TnS) (p1 : Int32) : Option (Int32 × MdS) := match ot with
  | none => f_X13_sees_N md
  | some tn => f_X13_sees md tn p1
theorem i_sees (h : INV hk re ta ri now hi bo se co ch md ot) (p1 : Int32) : Ok (rr_sees md ot p1) (fun q => Ok (f_X11_sees hk bo ri p1) (fun c => c.1 = q.1 ∧ INV c.2 re ta ri now hi bo se co ch q.2 ot)) := by
  cases ot with
  | none =>
    have ht : HK_there hk = 0 := h.2.2.2.1
    simp only [rr_sees, f_X13_sees_N, f_X11_sees, f_X11_isRing, f_X11_isPerson, f_X11_isLink, f_X11_isCrossing, f_X11_isStanding, f_X11_isMove, f_X13_isRing_N, f_X13_isPerson_N, f_X13_isLink_N, f_X13_isCrossing_N, f_X13_isStanding_N, f_X13_isMove_N, ht, ↓reduceIte, lt1_e, b1s, b2s, b3s, refused_t, lost_t, denied_t, refuse_t, refuseS_t, refuseF_t, zb_i, true_or, Ok_some, true_and]
    exact h.no (by decide)
  | some tn =>
    have h7 := h.2.2.2
    exact (a_sees h7.2.1 h7.1 p1).mono (fun q hq => hq.mono (fun c hc => ⟨hc.s.1, h.an hc.s.2 h.2.2.1⟩))
noncomputable def rr_own (md : MdS) (ot : Option TnS) (p1 : Int32) : Option (Int32 × MdS) := match ot with
  | none => f_X13_own_N md
  | some tn => f_X13_own md tn p1
theorem i_own (h : INV hk re ta ri now hi bo se co ch md ot) (p1 : Int32) : Ok (rr_own md ot p1) (fun q => Ok (f_X11_own hk bo ri p1) (fun c => c.1 = q.1 ∧ INV c.2 re ta ri now hi bo se co ch q.2 ot)) := by
  cases ot with
  | none =>
    have ht : HK_there hk = 0 := h.2.2.2.1
    simp only [rr_own, f_X13_own_N, f_X11_own, f_X11_isRing, f_X11_isPerson, f_X11_isLink, f_X11_isCrossing, f_X11_isStanding, f_X11_isMove, f_X13_isRing_N, f_X13_isPerson_N, f_X13_isLink_N, f_X13_isCrossing_N, f_X13_isStanding_N, f_X13_isMove_N, ht, ↓reduceIte, lt1_e, b1s, b2s, b3s, refused_t, lost_t, denied_t, refuse_t, refuseS_t, refuseF_t, zb_i, true_or, Ok_some, true_and]
    exact h.no (by decide)
  | some tn =>
    have h7 := h.2.2.2
    exact (a_own h7.2.1 h7.1 p1).mono (fun q hq => hq.mono (fun c hc => ⟨hc.s.1, h.an hc.s.2 h.2.2.1⟩))
noncomputable def rr_may (md : MdS) (ot : Option TnS) (p1 : Int32) : Option (Int32 × MdS) := match ot with
  | none => f_X13_may_N md
  | some tn => f_X13_may md tn p1
theorem i_may (h : INV hk re ta ri now hi bo se co ch md ot) (p1 : Int32) : Ok (rr_may md ot p1) (fun q => Ok (f_X11_may hk bo ri p1) (fun c => c.1 = q.1 ∧ INV c.2 re ta ri now hi bo se co ch q.2 ot)) := by
  cases ot with
  | none =>
    have ht : HK_there hk = 0 := h.2.2.2.1
    simp only [rr_may, f_X13_may_N, f_X11_may, f_X11_may_L25, f_X11_isRing, f_X11_isPerson, f_X11_isLink, f_X11_isCrossing, f_X11_isStanding, f_X11_isMove, f_X13_isRing_N, f_X13_isPerson_N, f_X13_isLink_N, f_X13_isCrossing_N, f_X13_isStanding_N, f_X13_isMove_N, ht, ↓reduceIte, lt1_e, b1s, b2s, b3s, refused_t, lost_t, denied_t, refuse_t, refuseS_t, refuseF_t, zb_i, true_or, Ok_some, true_and]
    exact h.no (by decide)
  | some tn =>
    have h7 := h.2.2.2
    exact (a_may h7.2.1 h7.1 p1).mono (fun q hq => hq.mono (fun c hc => ⟨hc.s.1, h.an hc.s.2 h.2.2.1⟩))
noncomputable def rr_goer (md : MdS) (ot : Option TnS) (p1 : Int32) : Option (Int32 × MdS) := match ot with
  | none => f_X13_goer_N md
  | some tn => f_X13_goer md tn p1
theorem i_goer (h : INV hk re ta ri now hi bo se co ch md ot) (p1 : Int32) : Ok (rr_goer md ot p1) (fun q => Ok (f_X11_goer hk bo ri p1) (fun c => c.1 = q.1 ∧ INV c.2 re ta ri now hi bo se co ch q.2 ot)) := by
  cases ot with
  | none =>
    have ht : HK_there hk = 0 := h.2.2.2.1
    simp only [rr_goer, f_X13_goer_N, f_X11_goer, f_X11_isRing, f_X11_isPerson, f_X11_isLink, f_X11_isCrossing, f_X11_isStanding, f_X11_isMove, f_X13_isRing_N, f_X13_isPerson_N, f_X13_isLink_N, f_X13_isCrossing_N, f_X13_isStanding_N, f_X13_isMove_N, ht, ↓reduceIte, lt1_e, b1s, b2s, b3s, refused_t, lost_t, denied_t, refuse_t, refuseS_t, refuseF_t, zb_i, true_or, Ok_some, true_and]
    exact h.no (by decide)
  | some tn =>
    have h7 := h.2.2.2
    exact (a_goer h7.2.1 h7.1 p1).mono (fun q hq => hq.mono (fun c hc => ⟨hc.s.1, h.an hc.s.2 h.2.2.1⟩))
noncomputable def rr_ring (md : MdS) (ot : Option TnS) (p1 : Int32) : Option (Int32 × MdS) := match ot with
  | none => f_X13_ring_N md
  | some tn => f_X13_ring md tn p1
theorem i_ring (h : INV hk re ta ri now hi bo se co ch md ot) (p1 : Int32) : Ok (rr_ring md ot p1) (fun q => Ok (f_X11_ring hk ri p1) (fun c => c.1 = q.1 ∧ INV c.2 re ta ri now hi bo se co ch q.2 ot)) := by
  cases ot with
  | none =>
    have ht : HK_there hk = 0 := h.2.2.2.1
    simp only [rr_ring, f_X13_ring_N, f_X11_ring, f_X11_isRing, f_X11_isPerson, f_X11_isLink, f_X11_isCrossing, f_X11_isStanding, f_X11_isMove, f_X13_isRing_N, f_X13_isPerson_N, f_X13_isLink_N, f_X13_isCrossing_N, f_X13_isStanding_N, f_X13_isMove_N, ht, ↓reduceIte, lt1_e, b1s, b2s, b3s, refused_t, lost_t, denied_t, refuse_t, refuseS_t, refuseF_t, zb_i, true_or, Ok_some, true_and]
    exact h.no (by decide)
  | some tn =>
    have h7 := h.2.2.2
    exact (a_ring h7.2.1 h7.2.2.2 h7.1 p1).mono (fun q hq => hq.mono (fun c hc => ⟨hc.s.1, h.an hc.s.2 h.2.2.1⟩))
noncomputable def rr_people (md : MdS) (ot : Option TnS) (p1 : Int32) : Option (Int32 × MdS) := match ot with
  | none => f_X13_people_N md
  | some tn => f_X13_people md tn p1
theorem i_people (h : INV hk re ta ri now hi bo se co ch md ot) (p1 : Int32) : Ok (rr_people md ot p1) (fun q => Ok (f_X11_people hk ri p1) (fun c => c.1 = q.1 ∧ INV c.2 re ta ri now hi bo se co ch q.2 ot)) := by
  cases ot with
  | none =>
    have ht : HK_there hk = 0 := h.2.2.2.1
    simp only [rr_people, f_X13_people_N, f_X11_people, f_X11_isRing, f_X11_isPerson, f_X11_isLink, f_X11_isCrossing, f_X11_isStanding, f_X11_isMove, f_X13_isRing_N, f_X13_isPerson_N, f_X13_isLink_N, f_X13_isCrossing_N, f_X13_isStanding_N, f_X13_isMove_N, ht, ↓reduceIte, lt1_e, b1s, b2s, b3s, refused_t, lost_t, denied_t, refuse_t, refuseS_t, refuseF_t, zb_i, true_or, Ok_some, true_and]
    exact h.no (by decide)
  | some tn =>
    have h7 := h.2.2.2
    exact (a_people h7.2.1 h7.2.2.2 h7.1 p1).mono (fun q hq => hq.mono (fun c hc => ⟨hc.s.1, h.an hc.s.2 h.2.2.1⟩))
noncomputable def rr_member (md : MdS) (ot : Option TnS) (p1 : Int32) (p2 : Int32) : Option (Int32 × MdS) := match ot with
  | none => f_X13_member_N md
  | some tn => f_X13_member md tn p1 p2
theorem i_member (h : INV hk re ta ri now hi bo se co ch md ot) (p1 : Int32) (p2 : Int32) : Ok (rr_member md ot p1 p2) (fun q => Ok (f_X11_member hk ri p1 p2) (fun c => c.1 = q.1 ∧ INV c.2 re ta ri now hi bo se co ch q.2 ot)) := by
  cases ot with
  | none =>
    have ht : HK_there hk = 0 := h.2.2.2.1
    simp only [rr_member, f_X13_member_N, f_X13_member_N_L51, f_X11_member, f_X11_member_L24, f_X11_isRing, f_X11_isPerson, f_X11_isLink, f_X11_isCrossing, f_X11_isStanding, f_X11_isMove, f_X13_isRing_N, f_X13_isPerson_N, f_X13_isLink_N, f_X13_isCrossing_N, f_X13_isStanding_N, f_X13_isMove_N, ht, ↓reduceIte, lt1_e, b1s, b2s, b3s, refused_t, lost_t, denied_t, refuse_t, refuseS_t, refuseF_t, zb_i, true_or, Ok_some, true_and]
    exact h.no (by decide)
  | some tn =>
    have h7 := h.2.2.2
    exact (a_member h7.2.1 h7.2.2.2 h7.1 p1 p2).mono (fun q hq => hq.mono (fun c hc => ⟨hc.s.1, h.an hc.s.2 h.2.2.1⟩))
noncomputable def rr_holds (md : MdS) (ot : Option TnS) (p1 : Int32) (p2 : Bool) : Option (Int32 × MdS) := match ot with
  | none => f_X13_holds_N md
  | some tn => f_X13_holds md tn p1 (bI p2)
theorem i_holds (h : INV hk re ta ri now hi bo se co ch md ot) (p1 : Int32) (p2 : Bool) : Ok (rr_holds md ot p1 p2) (fun q => Ok (f_X11_holds hk ri p1 (bI p2)) (fun c => c.1 = q.1 ∧ INV c.2 re ta ri now hi bo se co ch q.2 ot)) := by
  cases ot with
  | none =>
    have ht : HK_there hk = 0 := h.2.2.2.1
    simp only [rr_holds, f_X13_holds_N, f_X11_holds, f_X11_holds_L34, f_X11_isRing, f_X11_isPerson, f_X11_isLink, f_X11_isCrossing, f_X11_isStanding, f_X11_isMove, f_X13_isRing_N, f_X13_isPerson_N, f_X13_isLink_N, f_X13_isCrossing_N, f_X13_isStanding_N, f_X13_isMove_N, ht, ↓reduceIte, lt1_e, b1s, b2s, b3s, refused_t, lost_t, denied_t, refuse_t, refuseS_t, refuseF_t, zb_i, true_or, Ok_some, true_and]
    exact h.no (by decide)
  | some tn =>
    have h7 := h.2.2.2
    exact (a_holds h7.2.1 h7.2.2.2 h7.1 p1 p2).mono (fun q hq => hq.mono (fun c hc => ⟨hc.s.1, h.an hc.s.2 h.2.2.1⟩))
noncomputable def rr_along (md : MdS) (ot : Option TnS) (p1 : Int32) : Option (Int32 × MdS) := match ot with
  | none => f_X13_along_N md
  | some tn => f_X13_along md tn p1
theorem i_along (h : INV hk re ta ri now hi bo se co ch md ot) (p1 : Int32) : Ok (rr_along md ot p1) (fun q => Ok (f_X11_along hk ri p1) (fun c => c.1 = q.1 ∧ INV c.2 re ta ri now hi bo se co ch q.2 ot)) := by
  cases ot with
  | none =>
    have ht : HK_there hk = 0 := h.2.2.2.1
    simp only [rr_along, f_X13_along_N, f_X11_along, f_X11_isRing, f_X11_isPerson, f_X11_isLink, f_X11_isCrossing, f_X11_isStanding, f_X11_isMove, f_X13_isRing_N, f_X13_isPerson_N, f_X13_isLink_N, f_X13_isCrossing_N, f_X13_isStanding_N, f_X13_isMove_N, ht, ↓reduceIte, lt1_e, b1s, b2s, b3s, refused_t, lost_t, denied_t, refuse_t, refuseS_t, refuseF_t, zb_i, true_or, Ok_some, true_and]
    exact h.no (by decide)
  | some tn =>
    have h7 := h.2.2.2
    exact (a_along h7.2.1 h7.2.2.2 h7.1 p1).mono (fun q hq => hq.mono (fun c hc => ⟨hc.s.1, h.an hc.s.2 h.2.2.1⟩))
noncomputable def rr_caller (md : MdS) (ot : Option TnS) : Option (Int32 × MdS) := match ot with
  | none => f_X13_caller_N md
  | some tn => f_X13_caller md tn
theorem i_caller (h : INV hk re ta ri now hi bo se co ch md ot) : Ok (rr_caller md ot) (fun q => Ok (f_X11_caller hk bo wb now ri) (fun c => c.1 = q.1 ∧ INV c.2.1 re ta ri now hi bo se co ch q.2 ot)) := by
  cases ot with
  | none =>
    have ht : HK_there hk = 0 := h.2.2.2.1
    simp only [rr_caller, f_X13_caller_N, f_X11_caller, f_X11_isRing, f_X11_isPerson, f_X11_isLink, f_X11_isCrossing, f_X11_isStanding, f_X11_isMove, f_X13_isRing_N, f_X13_isPerson_N, f_X13_isLink_N, f_X13_isCrossing_N, f_X13_isStanding_N, f_X13_isMove_N, ht, ↓reduceIte, lt1_e, b1s, b2s, b3s, refused_t, lost_t, denied_t, refuse_t, refuseS_t, refuseF_t, zb_i, true_or, Ok_some, true_and]
    exact h.no (by decide)
  | some tn =>
    have h7 := h.2.2.2
    exact (a_caller h7.2.1 h7.1).mono (fun q hq => hq.mono (fun c hc => ⟨hc.s.1, h.an hc.s.2 h.2.2.1⟩))
noncomputable def rr_rounds (md : MdS) (ot : Option TnS) (p1 : Int32) : Option (Int32 × MdS) := match ot with
  | none => f_X13_rounds_N md
  | some tn => f_X13_rounds md tn p1
theorem i_rounds (h : INV hk re ta ri now hi bo se co ch md ot) (p1 : Int32) : Ok (rr_rounds md ot p1) (fun q => Ok (f_X11_rounds hk wb now ri p1) (fun c => c.1 = q.1 ∧ INV c.2.1 re ta ri now hi bo se co ch q.2 ot)) := by
  cases ot with
  | none =>
    have ht : HK_there hk = 0 := h.2.2.2.1
    simp only [rr_rounds, f_X13_rounds_N, f_X11_rounds, f_X11_rounds_L23, f_X11_isRing, f_X11_isPerson, f_X11_isLink, f_X11_isCrossing, f_X11_isStanding, f_X11_isMove, f_X13_isRing_N, f_X13_isPerson_N, f_X13_isLink_N, f_X13_isCrossing_N, f_X13_isStanding_N, f_X13_isMove_N, ht, ↓reduceIte, lt1_e, b1s, b2s, b3s, refused_t, lost_t, denied_t, refuse_t, refuseS_t, refuseF_t, zb_i, true_or, Ok_some, true_and]
    exact h.no (by decide)
  | some tn =>
    have h7 := h.2.2.2
    exact (a_rounds h7.2.1 h7.1 p1).mono (fun q hq => hq.mono (fun c hc => ⟨hc.s.1, h.an hc.s.2 h.2.2.1⟩))
noncomputable def rr_tries (md : MdS) (ot : Option TnS) (p1 : Int32) (p2 : Int32) (p3 : Int32) : Option (Int32 × MdS) := match ot with
  | none => f_X13_tries_N md
  | some tn => f_X13_tries md tn p1 p2 p3
theorem i_tries (h : INV hk re ta ri now hi bo se co ch md ot) (p1 : Int32) (p2 : Int32) (p3 : Int32) : Ok (rr_tries md ot p1 p2 p3) (fun q => Ok (f_X11_tries hk wb now ri p1 p2 p3) (fun c => c.1 = q.1 ∧ INV c.2.1 re ta ri now hi bo se co ch q.2 ot)) := by
  cases ot with
  | none =>
    have ht : HK_there hk = 0 := h.2.2.2.1
    simp only [rr_tries, f_X13_tries_N, f_X11_tries, f_X11_tries_L41, f_X11_isRing, f_X11_isPerson, f_X11_isLink, f_X11_isCrossing, f_X11_isStanding, f_X11_isMove, f_X13_isRing_N, f_X13_isPerson_N, f_X13_isLink_N, f_X13_isCrossing_N, f_X13_isStanding_N, f_X13_isMove_N, ht, ↓reduceIte, lt1_e, b1s, b2s, b3s, refused_t, lost_t, denied_t, refuse_t, refuseS_t, refuseF_t, zb_i, true_or, Ok_some, true_and]
    exact h.no (by decide)
  | some tn =>
    have h7 := h.2.2.2
    exact (a_tries h7.2.1 h7.1 p1 p2 p3).mono (fun q hq => hq.mono (fun c hc => ⟨hc.s.1, h.an hc.s.2 h.2.2.1⟩))
noncomputable def rr_fewest (md : MdS) (ot : Option TnS) (p1 : Int32) : Option (Int32 × MdS) := match ot with
  | none => f_X13_fewest_N md
  | some tn => f_X13_fewest md tn p1
theorem i_fewest (h : INV hk re ta ri now hi bo se co ch md ot) (p1 : Int32) : Ok (rr_fewest md ot p1) (fun q => Ok (f_X11_fewest hk se sb now ri p1) (fun c => c.1 = q.1 ∧ INV c.2.1 re ta ri now hi bo c.2.2.1 co ch q.2 ot)) := by
  cases ot with
  | none =>
    have ht : HK_there hk = 0 := h.2.2.2.1
    simp only [rr_fewest, f_X13_fewest_N, f_X11_fewest, f_X11_isRing, f_X11_isPerson, f_X11_isLink, f_X11_isCrossing, f_X11_isStanding, f_X11_isMove, f_X13_isRing_N, f_X13_isPerson_N, f_X13_isLink_N, f_X13_isCrossing_N, f_X13_isStanding_N, f_X13_isMove_N, ht, ↓reduceIte, lt1_e, b1s, b2s, b3s, refused_t, lost_t, denied_t, refuse_t, refuseS_t, refuseF_t, zb_i, true_or, Ok_some, true_and]
    exact h.no (by decide)
  | some tn =>
    have h7 := h.2.2.2
    exact (a_fewest h7.2.1 h7.1 h.2.2.1.1 p1).mono (fun q hq => hq.mono (fun c hc => ⟨hc.1.s.1, h.an hc.1.s.2 ⟨hc.2, h.2.2.1.2⟩⟩))
noncomputable def rr_reached (md : MdS) (ot : Option TnS) (p1 : Int32) : Option (Int32 × MdS) := match ot with
  | none => f_X13_reached_N md
  | some tn => f_X13_reached md tn p1
theorem i_reached (h : INV hk re ta ri now hi bo se co ch md ot) (p1 : Int32) : Ok (rr_reached md ot p1) (fun q => Ok (f_X11_reached hk se sb now ri p1) (fun c => c.1 = q.1 ∧ INV c.2.1 re ta ri now hi bo c.2.2.1 co ch q.2 ot)) := by
  cases ot with
  | none =>
    have ht : HK_there hk = 0 := h.2.2.2.1
    simp only [rr_reached, f_X13_reached_N, f_X11_reached, f_X11_isRing, f_X11_isPerson, f_X11_isLink, f_X11_isCrossing, f_X11_isStanding, f_X11_isMove, f_X13_isRing_N, f_X13_isPerson_N, f_X13_isLink_N, f_X13_isCrossing_N, f_X13_isStanding_N, f_X13_isMove_N, ht, ↓reduceIte, lt1_e, b1s, b2s, b3s, refused_t, lost_t, denied_t, refuse_t, refuseS_t, refuseF_t, zb_i, true_or, Ok_some, true_and]
    exact h.no (by decide)
  | some tn =>
    have h7 := h.2.2.2
    exact (a_reached h7.2.1 h7.1 h.2.2.1.1 p1).mono (fun q hq => hq.mono (fun c hc => ⟨hc.1.s.1, h.an hc.1.s.2 ⟨hc.2, h.2.2.1.2⟩⟩))
noncomputable def rr_few (md : MdS) (ot : Option TnS) (p1 : Int32) : Option (Int32 × MdS) := match ot with
  | none => f_X13_few_N md
  | some tn => f_X13_few md tn p1
theorem i_few (h : INV hk re ta ri now hi bo se co ch md ot) (p1 : Int32) : Ok (rr_few md ot p1) (fun q => Ok (f_X11_few hk se sb now ri p1) (fun c => c.1 = q.1 ∧ INV c.2.1 re ta ri now hi bo c.2.2.1 co ch q.2 ot)) := by
  cases ot with
  | none =>
    have ht : HK_there hk = 0 := h.2.2.2.1
    simp only [rr_few, f_X13_few_N, f_X11_few, f_X11_isRing, f_X11_isPerson, f_X11_isLink, f_X11_isCrossing, f_X11_isStanding, f_X11_isMove, f_X13_isRing_N, f_X13_isPerson_N, f_X13_isLink_N, f_X13_isCrossing_N, f_X13_isStanding_N, f_X13_isMove_N, ht, ↓reduceIte, lt1_e, b1s, b2s, b3s, refused_t, lost_t, denied_t, refuse_t, refuseS_t, refuseF_t, zb_i, true_or, Ok_some, true_and]
    exact h.no (by decide)
  | some tn =>
    have h7 := h.2.2.2
    exact (a_few h7.2.1 h7.1 h.2.2.1.1 p1).mono (fun q hq => hq.mono (fun c hc => ⟨hc.1.s.1, h.an hc.1.s.2 ⟨hc.2, h.2.2.1.2⟩⟩))
noncomputable def rr_next (md : MdS) (ot : Option TnS) (p1 : Int32) : Option (Int32 × MdS) := match ot with
  | none => f_X13_next_N md
  | some tn => f_X13_next md tn p1
theorem i_next (h : INV hk re ta ri now hi bo se co ch md ot) (p1 : Int32) : Ok (rr_next md ot p1) (fun q => Ok (f_X11_next hk se sb now ri p1) (fun c => c.1 = q.1 ∧ INV c.2.1 re ta ri now hi bo c.2.2.1 co ch q.2 ot)) := by
  cases ot with
  | none =>
    have ht : HK_there hk = 0 := h.2.2.2.1
    simp only [rr_next, f_X13_next_N, f_X11_next, f_X11_next_L24, f_X11_isRing, f_X11_isPerson, f_X11_isLink, f_X11_isCrossing, f_X11_isStanding, f_X11_isMove, f_X13_isRing_N, f_X13_isPerson_N, f_X13_isLink_N, f_X13_isCrossing_N, f_X13_isStanding_N, f_X13_isMove_N, ht, ↓reduceIte, lt1_e, b1s, b2s, b3s, refused_t, lost_t, denied_t, refuse_t, refuseS_t, refuseF_t, zb_i, true_or, Ok_some, true_and]
    exact h.no (by decide)
  | some tn =>
    have h7 := h.2.2.2
    exact (a_next h7.2.1 h7.1 h.2.2.1.1 p1).mono (fun q hq => hq.mono (fun c hc => ⟨hc.1.s.1, h.an hc.1.s.2 ⟨hc.2, h.2.2.1.2⟩⟩))
noncomputable def rr_part (md : MdS) (ot : Option TnS) (p1 : Int32) : Option (Int32 × MdS) := match ot with
  | none => f_X13_part_N md
  | some tn => f_X13_part md tn p1
theorem i_part (h : INV hk re ta ri now hi bo se co ch md ot) (p1 : Int32) : Ok (rr_part md ot p1) (fun q => Ok (f_X11_part hk se sb tr now ri p1) (fun c => c.1 = q.1 ∧ INV c.2.1 re ta ri now hi bo c.2.2.1 co ch q.2 ot)) := by
  cases ot with
  | none =>
    have ht : HK_there hk = 0 := h.2.2.2.1
    simp only [rr_part, f_X13_part_N, f_X11_part, f_X11_isRing, f_X11_isPerson, f_X11_isLink, f_X11_isCrossing, f_X11_isStanding, f_X11_isMove, f_X13_isRing_N, f_X13_isPerson_N, f_X13_isLink_N, f_X13_isCrossing_N, f_X13_isStanding_N, f_X13_isMove_N, ht, ↓reduceIte, lt1_e, b1s, b2s, b3s, refused_t, lost_t, denied_t, refuse_t, refuseS_t, refuseF_t, zb_i, true_or, Ok_some, true_and]
    exact h.no (by decide)
  | some tn =>
    have h7 := h.2.2.2
    exact (a_part h7.2.1 h7.1 h.2.2.1.1 p1).mono (fun q hq => hq.mono (fun c hc => ⟨hc.1.s.1, h.an hc.1.s.2 ⟨hc.2, h.2.2.1.2⟩⟩))
noncomputable def rr_lift (md : MdS) (ot : Option TnS) (p1 : Int32) : Option (Int32 × MdS) := match ot with
  | none => f_X13_lift_N md
  | some tn => f_X13_lift md tn p1
theorem i_lift (h : INV hk re ta ri now hi bo se co ch md ot) (p1 : Int32) : Ok (rr_lift md ot p1) (fun q => Ok (f_X11_lift hk se bo sb tr now ri p1) (fun c => c.1 = q.1 ∧ INV c.2.1 re ta ri now hi bo c.2.2.1 co ch q.2 ot)) := by
  cases ot with
  | none =>
    have ht : HK_there hk = 0 := h.2.2.2.1
    simp only [rr_lift, f_X13_lift_N, f_X11_lift, f_X11_isRing, f_X11_isPerson, f_X11_isLink, f_X11_isCrossing, f_X11_isStanding, f_X11_isMove, f_X13_isRing_N, f_X13_isPerson_N, f_X13_isLink_N, f_X13_isCrossing_N, f_X13_isStanding_N, f_X13_isMove_N, ht, ↓reduceIte, lt1_e, b1s, b2s, b3s, refused_t, lost_t, denied_t, refuse_t, refuseS_t, refuseF_t, zb_i, true_or, Ok_some, true_and]
    exact h.no (by decide)
  | some tn =>
    have h7 := h.2.2.2
    exact (a_lift h7.2.1 h7.1 h.2.2.1.1 p1).mono (fun q hq => hq.mono (fun c hc => ⟨hc.1.s.1, h.an hc.1.s.2 ⟨hc.2, h.2.2.1.2⟩⟩))
noncomputable def rr_colours (md : MdS) (ot : Option TnS) (p1 : Int32) : Option (Int32 × MdS) := match ot with
  | none => f_X13_colours_N md
  | some tn => f_X13_colours md tn p1
theorem i_colours (h : INV hk re ta ri now hi bo se co ch md ot) (p1 : Int32) : Ok (rr_colours md ot p1) (fun q => Ok (f_X11_colours hk co bo ri p1) (fun c => c.1 = q.1 ∧ INV c.2.1 re ta ri now hi bo se c.2.2 ch q.2 ot)) := by
  cases ot with
  | none =>
    have ht : HK_there hk = 0 := h.2.2.2.1
    simp only [rr_colours, f_X13_colours_N, f_X11_colours, f_X11_colours_L35, f_X11_isRing, f_X11_isPerson, f_X11_isLink, f_X11_isCrossing, f_X11_isStanding, f_X11_isMove, f_X13_isRing_N, f_X13_isPerson_N, f_X13_isLink_N, f_X13_isCrossing_N, f_X13_isStanding_N, f_X13_isMove_N, ht, ↓reduceIte, lt1_e, b1s, b2s, b3s, refused_t, lost_t, denied_t, refuse_t, refuseS_t, refuseF_t, zb_i, true_or, Ok_some, true_and]
    exact h.no (by decide)
  | some tn =>
    have h7 := h.2.2.2
    exact (a_colours h7.2.1 h7.1 h.2.2.1.2.1 p1).mono (fun q hq => hq.mono (fun c hc => ⟨hc.1.s.1, h.an hc.1.s.2 ⟨h.2.2.1.1, hc.2, h.2.2.1.2.2⟩⟩))
noncomputable def rr_cannot (md : MdS) (ot : Option TnS) : Option (Int32 × MdS) := match ot with
  | none => f_X13_cannot_N md
  | some tn => f_X13_cannot md tn
theorem i_cannot (h : INV hk re ta ri now hi bo se co ch md ot) : Ok (rr_cannot md ot) (fun q => Ok (f_X11_cannot hk co bo ri) (fun c => c.1 = q.1 ∧ INV c.2.1 re ta ri now hi bo se c.2.2 ch q.2 ot)) := by
  cases ot with
  | none =>
    have ht : HK_there hk = 0 := h.2.2.2.1
    simp only [rr_cannot, f_X13_cannot_N, f_X11_cannot, f_X11_cannot_L20, f_X11_isRing, f_X11_isPerson, f_X11_isLink, f_X11_isCrossing, f_X11_isStanding, f_X11_isMove, f_X13_isRing_N, f_X13_isPerson_N, f_X13_isLink_N, f_X13_isCrossing_N, f_X13_isStanding_N, f_X13_isMove_N, ht, ↓reduceIte, lt1_e, b1s, b2s, b3s, refused_t, lost_t, denied_t, refuse_t, refuseS_t, refuseF_t, zb_i, true_or, Ok_some, true_and]
    exact h.no (by decide)
  | some tn =>
    have h7 := h.2.2.2
    exact (a_cannot h7.2.1 h7.1 h.2.2.1.2.1).mono (fun q hq => hq.mono (fun c hc => ⟨hc.1.s.1, h.an hc.1.s.2 ⟨h.2.2.1.1, hc.2, h.2.2.1.2.2⟩⟩))
noncomputable def rr_arcs (md : MdS) (ot : Option TnS) : Option (Int32 × MdS) := match ot with
  | none => f_X13_arcs_N md
  | some tn => f_X13_arcs md tn
theorem i_arcs (h : INV hk re ta ri now hi bo se co ch md ot) : Ok (rr_arcs md ot) (fun q => Ok (f_X11_arcs hk co bo ri) (fun c => c.1 = q.1 ∧ INV c.2.1 re ta ri now hi bo se c.2.2 ch q.2 ot)) := by
  cases ot with
  | none =>
    have ht : HK_there hk = 0 := h.2.2.2.1
    simp only [rr_arcs, f_X13_arcs_N, f_X11_arcs, f_X11_isRing, f_X11_isPerson, f_X11_isLink, f_X11_isCrossing, f_X11_isStanding, f_X11_isMove, f_X13_isRing_N, f_X13_isPerson_N, f_X13_isLink_N, f_X13_isCrossing_N, f_X13_isStanding_N, f_X13_isMove_N, ht, ↓reduceIte, lt1_e, b1s, b2s, b3s, refused_t, lost_t, denied_t, refuse_t, refuseS_t, refuseF_t, zb_i, true_or, Ok_some, true_and]
    exact h.no (by decide)
  | some tn =>
    have h7 := h.2.2.2
    exact (a_arcs h7.2.1 h7.1).mono (fun q hq => hq.mono (fun c hc => ⟨hc.1.s.1, h.an hc.1.s.2 ⟨h.2.2.1.1, PIo.of_acore h.2.2.1.2.1 hc.2, h.2.2.1.2.2⟩⟩))
noncomputable def rr_undo (md : MdS) (ot : Option TnS) : Option (Int32 × MdS) := match ot with
  | none => f_X13_undo_N md
  | some tn => f_X13_undo md
theorem i_undo (h : INV hk re ta ri now hi bo se co ch md ot) : Ok (rr_undo md ot) (fun q => Ok (f_X11_undo hk bo hi now ri) (fun c => c.1 = q.1 ∧ INV c.2.1 re ta ri c.2.2.2.2 c.2.2.2.1 c.2.2.1 se co ch q.2 ot)) := by
  cases ot with
  | none =>
    have ht : HK_there hk = 0 := h.2.2.2.1
    have ht1 : Hi_kept hi = 0 := h.2.2.2.2.1
    have ht2 : Hi_marked hi = 0 := h.2.2.2.2.2
    simp only [rr_undo, f_X13_undo_N, f_X13_undo_N_L19, f_X11_undo, f_X3_giveLatest, f_X11_isRing, f_X11_isPerson, f_X11_isLink, f_X11_isCrossing, f_X11_isStanding, f_X11_isMove, f_X13_isRing_N, f_X13_isPerson_N, f_X13_isLink_N, f_X13_isCrossing_N, f_X13_isStanding_N, f_X13_isMove_N, ht, ht1, ↓reduceIte, lt1_e, b1s, b2s, b3s, refused_t, lost_t, denied_t, refuse_t, refuseS_t, refuseF_t, zb_i, true_or, Ok_some, true_and]
    exact h.no (by decide)
  | some tn =>
    have h7 := h.2.2.2
    exact (a_undo h7.2.1 h7.2.2.1).mono (fun q hq => hq.mono (fun c hc => h.ac hc))
noncomputable def rr_back (md : MdS) (ot : Option TnS) (p1 : Int32) : Option (Int32 × MdS) := match ot with
  | none => f_X13_back_N md
  | some tn => f_X13_back md p1
theorem i_back (h : INV hk re ta ri now hi bo se co ch md ot) (p1 : Int32) : Ok (rr_back md ot p1) (fun q => Ok (f_X11_back hk bo hi now ri p1) (fun c => c.1 = q.1 ∧ INV c.2.1 re ta ri c.2.2.2.2 c.2.2.2.1 c.2.2.1 se co ch q.2 ot)) := by
  cases ot with
  | none =>
    have ht : HK_there hk = 0 := h.2.2.2.1
    have ht1 : Hi_kept hi = 0 := h.2.2.2.2.1
    have ht2 : Hi_marked hi = 0 := h.2.2.2.2.2
    simp only [rr_back, f_X13_back_N, f_X13_back_N_L24, f_X11_back, f_X3_giveMarked, f_X11_isRing, f_X11_isPerson, f_X11_isLink, f_X11_isCrossing, f_X11_isStanding, f_X11_isMove, f_X13_isRing_N, f_X13_isPerson_N, f_X13_isLink_N, f_X13_isCrossing_N, f_X13_isStanding_N, f_X13_isMove_N, ht, ht2, ↓reduceIte, lt1_e, b1s, b2s, b3s, refused_t, lost_t, denied_t, refuse_t, refuseS_t, refuseF_t, zb_i, true_or, Ok_some, true_and]
    by_cases c : p1 < 0
    · simp only [if_pos c, b3s, b2s, ↓reduceIte, refuseF_t, zb_i, true_or, Ok_some, true_and]
      exact h.no (by decide)
    · simp only [if_neg c, ite_self, b3s, b2s, ↓reduceIte, refuseF_t, zb_i, true_or, Ok_some, true_and]
      exact h.no (by decide)
  | some tn =>
    have h7 := h.2.2.2
    exact (a_back h7.2.1 h7.2.2.1 p1).mono (fun q hq => hq.mono (fun c hc => h.ac hc))
noncomputable def rr_parts (md : MdS) (ot : Option TnS) (p1 : Int32) : Option (Int32 × MdS) := match ot with
  | none => f_X13_parts_N md
  | some tn => f_X13_parts md tn p1
theorem i_parts (h : INV hk re ta ri now hi bo se co ch md ot) (p1 : Int32) : Ok (rr_parts md ot p1) (fun q => Ok (f_X11_parts hk bo hi now ri p1) (fun c => c.1 = q.1 ∧ INV c.2.1 re ta ri c.2.2.2.2 c.2.2.2.1 c.2.2.1 se co ch q.2 ot)) := by
  cases ot with
  | none =>
    have ht : HK_there hk = 0 := h.2.2.2.1
    simp only [rr_parts, f_X13_parts_N, f_X11_parts, f_X11_isRing, f_X11_isPerson, f_X11_isLink, f_X11_isCrossing, f_X11_isStanding, f_X11_isMove, f_X13_isRing_N, f_X13_isPerson_N, f_X13_isLink_N, f_X13_isCrossing_N, f_X13_isStanding_N, f_X13_isMove_N, ht, ↓reduceIte, lt1_e, b1s, b2s, b3s, refused_t, lost_t, denied_t, refuse_t, refuseS_t, refuseF_t, zb_i, true_or, Ok_some, true_and]
    exact h.no (by decide)
  | some tn =>
    have h7 := h.2.2.2
    exact (a_parts h7.2.1 h7.2.2.1 h7.1 p1).mono (fun q hq => hq.mono (fun c hc => h.ac hc))
noncomputable def rr_lifts (md : MdS) (ot : Option TnS) (p1 : Int32) : Option (Int32 × MdS) := match ot with
  | none => f_X13_lifts_N md
  | some tn => f_X13_lifts md tn p1
theorem i_lifts (h : INV hk re ta ri now hi bo se co ch md ot) (p1 : Int32) : Ok (rr_lifts md ot p1) (fun q => Ok (f_X11_lifts hk bo hi now ri p1) (fun c => c.1 = q.1 ∧ INV c.2.1 re ta ri c.2.2.2.2 c.2.2.2.1 c.2.2.1 se co ch q.2 ot)) := by
  cases ot with
  | none =>
    have ht : HK_there hk = 0 := h.2.2.2.1
    simp only [rr_lifts, f_X13_lifts_N, f_X11_lifts, f_X11_isRing, f_X11_isPerson, f_X11_isLink, f_X11_isCrossing, f_X11_isStanding, f_X11_isMove, f_X13_isRing_N, f_X13_isPerson_N, f_X13_isLink_N, f_X13_isCrossing_N, f_X13_isStanding_N, f_X13_isMove_N, ht, ↓reduceIte, lt1_e, b1s, b2s, b3s, refused_t, lost_t, denied_t, refuse_t, refuseS_t, refuseF_t, zb_i, true_or, Ok_some, true_and]
    exact h.no (by decide)
  | some tn =>
    have h7 := h.2.2.2
    exact (a_lifts h7.2.1 h7.2.2.1 h7.1 p1).mono (fun q hq => hq.mono (fun c hc => h.ac hc))
noncomputable def rr_move (md : MdS) (ot : Option TnS) (p1 : Int32) : Option (Int32 × MdS) := match ot with
  | none => f_X13_move_N md
  | some tn => f_X13_move md tn p1
theorem i_move (h : INV hk re ta ri now hi bo se co ch md ot) (p1 : Int32) : Ok (rr_move md ot p1) (fun q => Ok (f_X11_move hk bo hi now ri p1) (fun c => c.1 = q.1 ∧ INV c.2.1 re ta ri c.2.2.2.2 c.2.2.2.1 c.2.2.1 se co ch q.2 ot)) := by
  cases ot with
  | none =>
    have ht : HK_there hk = 0 := h.2.2.2.1
    simp only [rr_move, f_X13_move_N, f_X11_move, f_X11_isRing, f_X11_isPerson, f_X11_isLink, f_X11_isCrossing, f_X11_isStanding, f_X11_isMove, f_X13_isRing_N, f_X13_isPerson_N, f_X13_isLink_N, f_X13_isCrossing_N, f_X13_isStanding_N, f_X13_isMove_N, ht, ↓reduceIte, lt1_e, b1s, b2s, b3s, refused_t, lost_t, denied_t, refuse_t, refuseS_t, refuseF_t, zb_i, true_or, Ok_some, true_and]
    exact h.no (by decide)
  | some tn =>
    have h7 := h.2.2.2
    exact (a_move h7.2.1 h7.2.2.1 h7.1 p1).mono (fun q hq => hq.mono (fun c hc => h.ac hc))
noncomputable def rr_lot (md : MdS) (ot : Option TnS) : Option (Int32 × MdS) := match ot with
  | none => f_X13_lot_N md
  | some tn => f_X13_lot md tn
theorem i_lot (h : INV hk re ta ri now hi bo se co ch md ot) : Ok (rr_lot md ot) (fun q => Ok (f_X11_lot hk bo hi now ri) (fun c => c.1 = q.1 ∧ INV c.2.1 re ta ri c.2.2.2.2 c.2.2.2.1 c.2.2.1 se co ch q.2 ot)) := by
  cases ot with
  | none =>
    have ht : HK_there hk = 0 := h.2.2.2.1
    simp only [rr_lot, f_X13_lot_N, f_X11_lot, f_X11_isRing, f_X11_isPerson, f_X11_isLink, f_X11_isCrossing, f_X11_isStanding, f_X11_isMove, f_X13_isRing_N, f_X13_isPerson_N, f_X13_isLink_N, f_X13_isCrossing_N, f_X13_isStanding_N, f_X13_isMove_N, ht, ↓reduceIte, lt1_e, b1s, b2s, b3s, refused_t, lost_t, denied_t, refuse_t, refuseS_t, refuseF_t, zb_i, true_or, Ok_some, true_and]
    exact h.no (by decide)
  | some tn =>
    have h7 := h.2.2.2
    exact (a_lot h7.2.1 h7.2.2.1 h7.1).mono (fun q hq => hq.mono (fun c hc => h.ac hc))
noncomputable def rr_call (md : MdS) (ot : Option TnS) : Option (Int32 × MdS) := match ot with
  | none => f_X13_call_N md
  | some tn => f_X13_call md tn
theorem i_call (h : INV hk re ta ri now hi bo se co ch md ot) : Ok (rr_call md ot) (fun q => Ok (f_X11_call hk bo wb hi now ri) (fun c => c.1 = q.1 ∧ INV c.2.1 re ta ri c.2.2.2.2.2 c.2.2.2.2.1 c.2.2.1 se co ch q.2 ot)) := by
  cases ot with
  | none =>
    have ht : HK_there hk = 0 := h.2.2.2.1
    simp only [rr_call, f_X13_call_N, f_X11_call, f_X11_isRing, f_X11_isPerson, f_X11_isLink, f_X11_isCrossing, f_X11_isStanding, f_X11_isMove, f_X13_isRing_N, f_X13_isPerson_N, f_X13_isLink_N, f_X13_isCrossing_N, f_X13_isStanding_N, f_X13_isMove_N, ht, ↓reduceIte, lt1_e, b1s, b2s, b3s, refused_t, lost_t, denied_t, refuse_t, refuseS_t, refuseF_t, zb_i, true_or, Ok_some, true_and]
    exact h.no (by decide)
  | some tn =>
    have h7 := h.2.2.2
    exact (a_call h7.2.1 h7.2.2.1 h7.1).mono (fun q hq => hq.mono (fun c hc => h.ac hc))
noncomputable def rr_mark (md : MdS) (ot : Option TnS) : Option (Int32 × MdS) := match ot with
  | none => f_X13_mark_N md
  | some tn => f_X13_mark md
theorem i_mark (h : INV hk re ta ri now hi bo se co ch md ot) : Ok (rr_mark md ot) (fun q => Ok (f_X11_mark hk hi now) (fun c => c.1 = q.1 ∧ INV c.2.1 re ta ri now c.2.2 bo se co ch q.2 ot)) := by
  cases ot with
  | none =>
    have ht : HK_there hk = 0 := h.2.2.2.1
    simp only [rr_mark, f_X13_mark_N, f_X11_mark, f_X11_isRing, f_X11_isPerson, f_X11_isLink, f_X11_isCrossing, f_X11_isStanding, f_X11_isMove, f_X13_isRing_N, f_X13_isPerson_N, f_X13_isLink_N, f_X13_isCrossing_N, f_X13_isStanding_N, f_X13_isMove_N, ht, ↓reduceIte, lt1_e, b1s, b2s, b3s, refused_t, lost_t, denied_t, refuse_t, refuseS_t, refuseF_t, zb_i, true_or, Ok_some, true_and]
    exact h.no (by decide)
  | some tn =>
    have h7 := h.2.2.2
    exact (a_mark h7.2.1 h7.2.2.1 h7.1).mono (fun q hq => hq.mono (fun c hc => h.ac hc))
noncomputable def rr_seed (md : MdS) (ot : Option TnS) (p1 : Int32) : Option (Int32 × MdS) := match ot with
  | none => f_X13_seed_N md
  | some tn => f_X13_seed md p1
theorem i_seed (h : INV hk re ta ri now hi bo se co ch md ot) (p1 : Int32) : Ok (rr_seed md ot p1) (fun q => Ok (f_X11_seed hk now p1) (fun c => c.1 = q.1 ∧ INV c.2.1 re ta ri c.2.2 hi bo se co ch q.2 ot)) := by
  cases ot with
  | none =>
    have ht : HK_there hk = 0 := h.2.2.2.1
    simp only [rr_seed, f_X13_seed_N, f_X11_seed, f_X11_isRing, f_X11_isPerson, f_X11_isLink, f_X11_isCrossing, f_X11_isStanding, f_X11_isMove, f_X13_isRing_N, f_X13_isPerson_N, f_X13_isLink_N, f_X13_isCrossing_N, f_X13_isStanding_N, f_X13_isMove_N, ht, ↓reduceIte, lt1_e, b1s, b2s, b3s, refused_t, lost_t, denied_t, refuse_t, refuseS_t, refuseF_t, zb_i, true_or, Ok_some, true_and]
    exact h.no (by decide)
  | some tn =>
    have h7 := h.2.2.2
    exact (a_seed h7.2.1 h7.2.2.1 h7.1 p1).mono (fun q hq => hq.mono (fun c hc => h.ac hc))
theorem i_ways (h : INV hk re ta ri now hi bo se co ch md ot) (p1 : Int32) (p2 : Int32) (p3 : Bool) : Ok (f_X13_ways md p1 p2 (bI p3)) (fun q => Ok (f_X11_ways hk ch p1 p2 (bI p3)) (fun c => c.1 = q.1 ∧ INV c.2.1 re ta ri now hi bo se co c.2.2 q.2 ot)) :=
  (a_ways h.2.2.1.2.2 p1 p2 p3).mono (fun q hq => hq.mono (fun c hc => ⟨hc.1, h.an hc.2.1 ⟨h.2.2.1.1, h.2.2.1.2.1, hc.2.2⟩⟩))
theorem i_odds (h : INV hk re ta ri now hi bo se co ch md ot) (p1 : Int32) (p2 : Int32) (p3 : Bool) (p4 : Bool) : Ok (f_X13_odds md p1 p2 (bI p3) (bI p4)) (fun q => Ok (f_X11_odds hk ch p1 p2 (bI p3) (bI p4)) (fun c => c.1 = q.1 ∧ INV c.2.1 re ta ri now hi bo se co c.2.2 q.2 ot)) :=
  (a_odds h.2.2.1.2.2 p1 p2 p3 p4).mono (fun q hq => hq.mono (fun c hc => ⟨hc.1, h.an hc.2.1 ⟨h.2.2.1.1, h.2.2.1.2.1, hc.2.2⟩⟩))
theorem i_mean (h : INV hk re ta ri now hi bo se co ch md ot) (p1 : Int32) (p2 : Bool) (p3 : Bool) : Ok (f_X13_mean md p1 (bI p2) (bI p3)) (fun q => Ok (f_X11_mean hk ch p1 (bI p2) (bI p3)) (fun c => c.1 = q.1 ∧ INV c.2.1 re ta ri now hi bo se co c.2.2 q.2 ot)) :=
  (a_mean h.2.2.1.2.2 p1 p2 p3).mono (fun q hq => hq.mono (fun c hc => ⟨hc.1, h.an hc.2.1 ⟨h.2.2.1.1, h.2.2.1.2.1, hc.2.2⟩⟩))
theorem i_fault (h : INV hk re ta ri now hi bo se co ch md ot) : Ok (f_X13_fault md) (fun q => Ok (f_X11_fault re) (fun c => c = q.1 ∧ INV hk re ta ri now hi bo se co ch q.2 ot)) := by
  unfold f_X13_fault f_X11_fault
  rw [lt1_e, Ok_some, Ok_some]
  exact ⟨h.thr.1.2.2, h.thr⟩
theorem i_where (h : INV hk re ta ri now hi bo se co ch md ot) : Ok (f_X13_where md) (fun q => Ok (f_X11_where hk re) (fun c => c = q.1 ∧ INV hk re ta ri now hi bo se co ch q.2 ot)) := by
  have h1 := h.thr
  unfold f_X13_where f_X11_where
  rw [lt1_e, Ok_some, h1.1.1]
  by_cases c : Md_trouble (Md_thrown' md 0) = 4
  · rw [if_pos c, Ok_some]
    exact ⟨by rw [h1.1.2.1, if_pos c], h1⟩
  · rw [if_neg c, Ok_some]
    exact ⟨by rw [h1.1.2.1, if_neg c], h1⟩
theorem i_trouble (h : INV hk re ta ri now hi bo se co ch md ot) : Ok (f_X13_trouble md) (fun q => Ok (f_X11_trouble hk) (fun c => c = q.1 ∧ INV hk re ta ri now hi bo se co ch q.2 ot)) := by
  unfold f_X13_trouble f_X11_trouble
  rw [lt1_e, Ok_some, Ok_some]
  exact ⟨h.thr.1.1, h.thr⟩
theorem i_feed (h : INV hk re ta ri now hi bo se co ch md ot) (a b c d e : Int32) : Ok (f_X13_feed md a b c d e) (fun q => Ok (f_X11_feed ta a b c d e) (fun r => r.1 = q.1 ∧ INV hk re r.2 ri now hi bo se co ch q.2 ot)) := by
  refine (a_feed h.2.1.1 a b c d e).mono (fun q hq => hq.mono (fun r hr => ⟨hr.1, ?_⟩))
  obtain ⟨f, k, e1⟩ := hr.2.2.2
  have h1 := h.thr
  have s : SAME (Md_thrown' md 0) q.2 ∧ Md_trouble q.2 = Md_trouble (Md_thrown' md 0) ∧ Md_where q.2 = Md_where (Md_thrown' md 0) ∧ Md_fault q.2 = Md_fault (Md_thrown' md 0) := by
    rw [e1]
    unfold SAME
    simp only [GW_taped, GW_tape, and_self]
  refine h1.stay s.1 rfl ⟨?_, ?_, ?_⟩ ⟨hr.2.1, fun i hi => by rw [hr.2.2.1]; exact h.2.1.2 i hi⟩ h.2.2.1
  · rw [s.2.1]; exact h1.1.1
  · rw [s.2.1, s.2.2.1]; exact h1.1.2.1
  · rw [s.2.2.2]; exact h1.1.2.2
noncomputable def rr_size (md : MdS) (ot : Option TnS) (v : Int32) : Option (Int32 × MdS) := match ot with
  | none => f_X13_size_N md v
  | some tn => f_X13_size md tn v
theorem i_size (h : INV hk re ta ri now hi bo se co ch md ot) (v : Int32) : Ok (rr_size md ot v) (fun q => Ok (f_X11_size hk ta hi now ri v) (fun c => c = q.1 ∧ INV hk re ta ri now hi bo se co ch q.2 ot)) := by
  obtain ⟨n0, hn0, t1, t2, t3⟩ := id h.2.1.1
  cases ot with
  | none =>
    have ht : HK_there hk = 0 := h.2.2.2.1
    have e2 : Md_taped (Md_thrown' md 0) = nI n0 := t2
    unfold rr_size f_X13_size_N f_X11_size
    simp only [lt1_e, ht, ↓reduceIte, t1, e2]
    by_cases c : v = 11
    · subst c
      rw [if_pos rfl, Ok_some, if_neg (by decide), if_pos (by decide), if_pos rfl, Ok_some]
      exact ⟨rfl, h.thr⟩
    · rw [if_neg c, if_neg c]
      rcases b_in v 0 10 (by omega) (by omega) with ⟨j, _, j2, rfl, e⟩ | e
      · rw [bd1_e (show f_X13_in (nI j) (0 : Int32) (10 : Int32) = some 1 from e), if_neg (by decide), Ok_some, if_neg (show ¬ (nI j < (0 : Int32)) from nI_nlt (b := 0) (by omega) (by omega)), if_pos (show nI j ≤ (11 : Int32) from nI_le (b := 11) (by omega) (by omega)), Ok_some]
        exact ⟨rfl, h.thr⟩
      · rw [bd1_e (show f_X13_in v (0 : Int32) (10 : Int32) = some 0 from e), if_pos rfl, Ok_some]
        by_cases d : v < 0
        · rw [if_pos d, Ok_some]; exact ⟨rfl, h.thr⟩
        · rw [if_neg d]
          obtain ⟨j, h1, rfl⟩ := nI_of d
          by_cases f : nI j ≤ 11
          · exfalso
            have hj : ¬ 11 < j := fun g => nI_ge (a := 11) g h1 f
            have h11 : j ≠ 11 := fun g => c (by rw [g]; rfl)
            have e' : f_X13_in (nI j) (nI 0) (nI 10) = some 1 := by
              unfold f_X13_in
              rw [if_neg (nI_nlt (by omega) (by omega)), if_neg (nI_nlt (by omega) (by omega))]
            rw [e'] at e
            cases e
          · rw [if_neg f, Ok_some]; exact ⟨rfl, h.thr⟩
  | some tn =>
    have h7 := h.2.2.2
    exact (a_size h7.2.1 h7.2.2.1 h7.2.2.2 h7.1 (t1.trans t2.symm) v).mono (fun q hq => hq.mono (fun c hc => ⟨hc.1, by rw [hc.2]; exact h.thr⟩))
noncomputable def rr_led (md : MdS) (ot : Option TnS) (v : Int32) : Option (Int32 × MdS) := match ot with
  | none => f_X13_led_N md
  | some tn => f_X13_led md tn v
theorem i_led (h : INV hk re ta ri now hi bo se co ch md ot) (v : Int32) : Ok (rr_led md ot v) (fun q => Ok (f_X11_led hk bo ri v) (fun c => INV hk re ta ri now hi bo se co ch q.2 ot ∧ ((c = some q.1 ∧ Md_thrown q.2 = 0) ∨ (c = none ∧ Md_thrown q.2 = 1)))) := by
  cases ot with
  | none =>
    have ht : HK_there hk = 0 := h.2.2.2.1
    unfold rr_led f_X13_led_N f_X11_led
    rw [show FU = 99999 + 1 from rfl]
    unfold f_X13_led_N_L9 f_X11_led_L4 f_X13_led_N_L54
    simp only [lt1_e, ht, ↓reduceIte, Ok_some]
    exact ⟨h.thr.thr1 1, Or.inr ⟨trivial, rfl⟩⟩
  | some tn =>
    have h7 := h.2.2.2
    refine (a_led h7.2.1 h7.1 v).mono (fun q hq => hq.mono (fun c hc => ?_))
    obtain ⟨md1, h1, ⟨x, h2, h3⟩ | ⟨h2, h3⟩⟩ := hc
    · rw [h3]
      exact ⟨h.sc h1, Or.inl ⟨h2, h1.thrown⟩⟩
    · rw [h3]
      exact ⟨(h.sc h1).thr1 1, Or.inr ⟨h2, rfl⟩⟩
end CALLS
