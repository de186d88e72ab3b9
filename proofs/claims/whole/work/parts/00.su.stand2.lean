def plc (al : Bool) (k : Nat) : Nat := if al then k else 10 - k
/-- the passes of a link, as they are come to, from the k-th place on -/
def stL (to : ToS) (l : Nat) (al : Bool) (k : Nat) : List Nat := (List.range' k (10 - k)).filterMap (fun k => pv to l (plc al k))
def SWc (W : List (Nat × Nat)) (ri : RiS) : Prop := Ri_standings ri = nI W.length ∧ (∀ s l v, W[s]? = some (l, v) → Ri_standingLink ri s = nI l ∧ nib (Ri_key ri) s = v + 1) ∧ ∀ s, W.length ≤ s → s < 16 → nib (Ri_key ri) s = 0
def SWr (W : List (Nat × Nat)) (g : Nat → Int32) (tn : TnS) : Prop := Tn_standings tn = nI W.length ∧ (∀ s l v, W[s]? = some (l, v) → Tn_standLink tn s = nI l ∧ nib (Tn_first tn) s = v ∧ Tn_standRing tn s = g l) ∧ ∀ s, W.length ≤ s → s < 16 → nib (Tn_first tn) s = 0
def rkc (ri : RiS) := ((Ri_people ri, Ri_links ri, Ri_crossings ri, Ri_count ri, Ri_tall ri, Ri_once ri, Ri_plus ri), (Ri_members ri, Ri_firstMember ri, Ri_firstStanding ri, Ri_partner ri, Ri_linkIn ri), (Ri_along ri, Ri_linkRing ri, Ri_linkStart ri, Ri_linkGoer ri, Ri_linkFits ri))
def tkc (tn : TnS) := ((Tn_height tn, Tn_people tn, Tn_links tn, Tn_crossings tn, Tn_rings tn, Tn_once tn, Tn_tall tn), (Tn_one tn, Tn_oneHand tn, Tn_two tn, Tn_twoHand tn, Tn_linkOf tn), (Tn_over tn, Tn_overAt tn, Tn_under tn, Tn_underAt tn, Tn_sign tn), (Tn_ringOf tn, Tn_linkRing tn, Tn_linkRow tn, Tn_member tn, Tn_size tn, Tn_along tn))
theorem SWr.ext {W : List (Nat × Nat)} {g g' : Nat → Int32} {tn : TnS} (h : SWr W g tn) (hg : ∀ (s l v : Nat), W[s]? = some (l, v) → g' l = g l) : SWr W g' tn := ⟨h.1, fun s l v e => ⟨(h.2.1 s l v e).1, (h.2.1 s l v e).2.1, by rw [(h.2.1 s l v e).2.2, hg s l v e]⟩, h.2.2⟩
section STAND2
variable {to : ToS} {rd tn : TnS} {P L X : Nat} {ri : RiS} {W : List (Nat × Nat)}
theorem stL_10 {l : Nat} {al : Bool} : stL to l al 10 = [] := rfl
theorem stL_s {l k v : Nat} {al : Bool} (hk : k ≤ 9) (h : pv to l (plc al k) = some v) : stL to l al k = v :: stL to l al (k + 1) := by
  unfold stL
  rw [show 10 - k = (10 - (k + 1)) + 1 by omega, List.range'_succ, List.filterMap_cons, h]
theorem stL_n {l k : Nat} {al : Bool} (hk : k ≤ 9) (h : pv to l (plc al k) = none) : stL to l al k = stL to l al (k + 1) := by
  unfold stL
  rw [show 10 - k = (10 - (k + 1)) + 1 by omega, List.range'_succ, List.filterMap_cons, h]
theorem nib_put {t : Int64} {S v s : Nat} (hS : S < 16) (hs : s < 16) (hv : v < 16) (h0 : nib t S = 0) : nib (t ||| ((Int32.toInt64 (nI v)) <<< (Int32.toInt64 ((4 : Int32) * nI S) &&& 63))) s = if s = S then v else nib t s := by
  rw [nib_or, nib_shl v S s hv hS hs]
  by_cases c : s = S
  · rw [if_pos c, if_pos c, c, h0, Nat.zero_or]
  · rw [if_neg c, if_neg c, Nat.or_zero]
theorem getE_snoc {α : Type} {l : List α} {x y : α} {i : Nat} (h : (l ++ [x])[i]? = some y) : (i < l.length ∧ l[i]? = some y) ∨ (i = l.length ∧ y = x) := by
  by_cases c : i < l.length
  · rw [List.getElem?_append_left c] at h
    exact Or.inl ⟨c, h⟩
  · have hl : i = l.length := by
      have := (List.getElem?_eq_some_iff.mp h).1
      rw [List.length_append, List.length_singleton] at this
      omega
    rw [hl, List.getElem?_append_right (by omega), Nat.sub_self] at h
    simp at h
    exact Or.inr ⟨hl, h.symm⟩
theorem SWr.put {g : Nat → Int32} (h : SWr W g tn) (hl : W.length < 14) {l v : Nat} (hv : v < 16) (hg : g l = Tn_rings tn) : SWr (W ++ [(l, v)]) g (stS tn W.length l v) := by
  obtain ⟨h1, h2, h3⟩ := h
  unfold stS
  refine ⟨?_, fun s l' v' e => ?_, fun s hs h16 => ?_⟩
  · simp only [GT_standings, List.length_append, List.length_singleton]
  · simp only [GT_standings, GT_first, GT_standLink, GT_standRing]
    rcases getE_snoc e with ⟨c, e⟩ | ⟨c, e⟩
    · obtain ⟨a1, a2, a3⟩ := h2 s l' v' e
      rw [upd_ne (by omega), upd_ne (by omega), nib_put (by omega) (by omega) hv (h3 _ (Nat.le_refl _) (by omega)), if_neg (by omega)]
      exact ⟨a1, a2, a3⟩
    · cases e
      subst c
      rw [upd_at, upd_at, nib_put (by omega) (by omega) hv (h3 _ (Nat.le_refl _) (by omega)), if_pos rfl]
      exact ⟨rfl, rfl, hg.symm⟩
  · rw [List.length_append, List.length_singleton] at hs
    simp only [GT_standings, GT_first]
    rw [nib_put (by omega) h16 hv (h3 _ (Nat.le_refl _) (by omega)), if_neg (by omega)]
    exact h3 s (by omega) h16
theorem stS_k {S l v : Nat} : tkc (stS tn S l v) = tkc tn := by
  unfold tkc stS
  simp only [GT_standings, GT_first, GT_standLink, GT_standRing]
theorem ls_L (hT : TB to rd P L X) {l : Nat} (hl : l < 8) {al : Bool} {g : Nat → Int32} {tn0 : TnS} (ha : (Tn_along tn0 l = 0 ↔ al = false)) (hO : OVF rd tn0 X) (hg : g l = Tn_rings tn0) :
    ∀ rem f k W tn, k + rem = 10 → rem < f → 1 ≤ k → W.length + (stL to l al k).length ≤ 14 → SWr W g tn → tkc tn = tkc tn0 → Ok (f_X12_laysStandings_L2 f (nI l) (nI k) tn) (fun tn' => SWr (W ++ (stL to l al k).map (fun v => (l, v))) g tn' ∧ tkc tn' = tkc tn0) := by
  have hn := hT.1.1
  intro rem
  induction rem with
  | zero =>
    intro f k W tn hk hf hk1 hlen hS hkc
    cases f with
    | zero => omega
    | succ f =>
      have e : k = 10 := by omega
      subst e
      rw [f_X12_laysStandings_L2, if_pos (by decide), Ok_some, stL_10, List.map_nil, List.append_nil]
      exact ⟨hS, hkc⟩
  | succ rem ih =>
    intro f k W tn hk hf hk1 hlen hS hkc
    cases f with
    | zero => omega
    | succ f =>
      have q9 : ¬ (nI 9 < nI k) := nI_nlt (by omega) (by omega)
      have hal : Tn_along tn = Tn_along tn0 := congrArg (fun z => z.2.2.2.2.2.2.2.2) hkc
      have hO' : OVF rd tn X := by
        obtain ⟨o0, o1, o2, o3, o4⟩ := hO
        exact ⟨(congrArg (fun z => z.1.2.2.2.1) hkc).trans o0, (congrArg (fun z => z.2.2.1.1) hkc).trans o1, (congrArg (fun z => z.2.2.1.2.1) hkc).trans o2, (congrArg (fun z => z.2.2.1.2.2.1) hkc).trans o3, (congrArg (fun z => z.2.2.1.2.2.2.1) hkc).trans o4⟩
      have hrg : g l = Tn_rings tn := hg.trans (congrArg (fun z => z.1.2.2.2.2.1) hkc).symm
      rw [f_X12_laysStandings_L2, if_neg (show ¬ ((9 : Int32) < nI k) from q9), ckI hl (by decide), nI_clamp (by omega), hal]
      unfold f_X12_laysStandings_L25
      have go : Ok (f_X12_laysStandings_L29 FU (nI l) (nI k) (nI (plc al k)) (0 : Int32) tn (fun y0 y1 y2 => f_X12_laysStandings_L2 f y0 y1 y2)) (fun tn' => SWr (W ++ (stL to l al k).map (fun v => (l, v))) g tn' ∧ tkc tn' = tkc tn0) := by
        have hpl : plc al k < 10 := by unfold plc; split <;> omega
        have hs14 : ∀ v, pv to l (plc al k) = some v → W.length < 14 := by
          intro v e
          rw [stL_s (by omega) e, List.length_cons] at hlen
          omega
        refine ls29 hT hl hpl hs14 _ _ X FU 0 tn (by omega) (by rw [FU_e]; omega) hO' (Or.inl hS.1) (fun tn' e => ?_)
        cases ep : pv to l (plc al k) with
        | none =>
          rw [ep] at e
          rw [show tn' = tn from e, stL_n (by omega) ep]
          rw [stL_n (by omega) ep] at hlen
          exact ih f (k + 1) W tn (by omega) (by omega) (by omega) hlen hS hkc
        | some v =>
          have hv := pv_lt hT hl hpl ep
          rw [ep] at e
          have e : tn' = stS tn W.length l v := by
            rw [e]; show (if 0 ≤ v / 2 then _ else _) = _; rw [if_pos (by omega)]
          rw [e, stL_s (by omega) ep, List.map_cons]
          rw [stL_s (by omega) ep, List.length_cons] at hlen
          have := ih f (k + 1) (W ++ [(l, v)]) (stS tn W.length l v) (by omega) (by omega) (by omega) (by rw [List.length_append, List.length_singleton]; omega) (hS.put (by omega) (by omega) hrg) (stS_k.trans hkc)
          rw [List.append_assoc] at this
          exact this
      cases al with
      | false =>
        rw [if_pos (ha.mpr rfl)]
        rw [show (10 : Int32) - nI k = nI (plc false k) by rw [li_10, nI_sub (by omega)]; rfl]
        exact go
      | true =>
        rw [if_neg (fun e => by have := ha.mp e; cases this)]
        exact go
def putC (ri : RiS) (S l v : Nat) : RiS := Ri_standings' (Ri_standingLink' (Ri_key' ri (Ri_key ri ||| ((Int32.toInt64 (nI (v + 1))) <<< (Int32.toInt64 ((4 : Int32) * nI S) &&& 63)))) (upd (Ri_standingLink ri) S (nI l))) (nI (S + 1))
theorem SWc.put (h : SWc W ri) (hl : W.length < 14) {l v : Nat} (hv : v + 1 < 16) : SWc (W ++ [(l, v)]) (putC ri W.length l v) := by
  obtain ⟨h1, h2, h3⟩ := h
  unfold putC
  refine ⟨?_, fun s l' v' e => ?_, fun s hs h16 => ?_⟩
  · simp only [GR_standings, List.length_append, List.length_singleton]
  · simp only [GR_standings, GR_standingLink, GR_key]
    rcases getE_snoc e with ⟨c, e⟩ | ⟨c, e⟩
    · obtain ⟨a1, a2⟩ := h2 s l' v' e
      rw [upd_ne (by omega), nib_put (by omega) (by omega) hv (h3 _ (Nat.le_refl _) (by omega)), if_neg (by omega)]
      exact ⟨a1, a2⟩
    · cases e
      subst c
      rw [upd_at, nib_put (by omega) (by omega) hv (h3 _ (Nat.le_refl _) (by omega)), if_pos rfl]
      exact ⟨rfl, rfl⟩
  · rw [List.length_append, List.length_singleton] at hs
    simp only [GR_standings, GR_standingLink, GR_key]
    rw [nib_put (by omega) h16 hv (h3 _ (Nat.le_refl _) (by omega)), if_neg (by omega)]
    exact h3 s (by omega) h16
theorem putC_k {S l v : Nat} : rkc (putC ri S l v) = rkc ri := by
  unfold rkc putC
  simp only [GR_standings, GR_standingLink, GR_key]
theorem lt_L (hT : TB to rd P L X) {l : Nat} (hl : l < 8) {al : Bool} {x3 : Int32} (ha : x3 = 0 ↔ al = false) {ri0 : RiS} :
    ∀ rem f k W ri, k + rem = 10 → rem < f → 1 ≤ k → W.length + (stL to l al k).length ≤ 14 → SWc W ri → rkc ri = rkc ri0 → Ok (f_X6_traceLink_L38 f (nI l) x3 (nI k) ri to) (fun ri' => SWc (W ++ (stL to l al k).map (fun v => (l, v))) ri' ∧ rkc ri' = rkc ri0) := by
  have hn := hT.1.1
  intro rem
  induction rem with
  | zero =>
    intro f k W ri hk hf hk1 hlen hS hkc
    cases f with
    | zero => omega
    | succ f =>
      have e : k = 10 := by omega
      subst e
      rw [f_X6_traceLink_L38, if_pos (by decide), Ok_some, stL_10, List.map_nil, List.append_nil]
      exact ⟨hS, hkc⟩
  | succ rem ih =>
    intro f k W ri hk hf hk1 hlen hS hkc
    cases f with
    | zero => omega
    | succ f =>
      have q9 : ¬ (nI 9 < nI k) := nI_nlt (by omega) (by omega)
      have hpl : plc al k < 10 := by unfold plc; split <;> omega
      rw [f_X6_traceLink_L38, if_neg (show ¬ ((9 : Int32) < nI k) from q9)]
      have go : Ok (f_X6_traceLink_L61 (nI l) x3 (nI k) (nI l) (nI (plc al k)) ri to (fun y0 y1 y2 y3 y4 => f_X6_traceLink_L38 f y0 y1 y2 y3 y4)) (fun ri' => SWc (W ++ (stL to l al k).map (fun v => (l, v))) ri' ∧ rkc ri' = rkc ri0) := by
        unfold f_X6_traceLink_L61 f_X6_traceLink_L121
        rw [bd1_e (passOn_e hl hpl), lt1_e, lt1_e, lt1_e, nI_1]
        cases ep : pv to l (plc al k) with
        | none =>
          have z : To_passes to (10 * l + plc al k) = 0 := by
            unfold pv at ep
            by_cases c : To_passes to (10 * l + plc al k) = 0
            · exact c
            · rw [if_neg c] at ep; cases ep
          rw [z, if_pos (by decide), stL_n (by omega) ep]
          rw [stL_n (by omega) ep] at hlen
          exact ih f (k + 1) W ri (by omega) (by omega) (by omega) hlen hS hkc
        | some v =>
          have hv := pv_lt hT hl hpl ep
          rw [stL_s (by omega) ep, List.length_cons] at hlen
          have q14 : ¬ (nI 14 ≤ nI W.length) := nI_ge (by omega) (by omega)
          rw [hv.2, if_neg (fun e => by
            have := lg0.mp e
            rw [nI_l (by omega), show (0 : Int64) = lN 0 from rfl, lN_eq (by omega) (by omega)] at this
            omega), hS.1, if_neg (show ¬ ((14 : Int32) ≤ nI W.length) from q14)]
          simp only [lt1_e, GR_key, GR_standingLink, hS.1, ckI (show W.length < 16 by omega) (show 16 < 2 ^ 31 by decide), nI_clamp (show W.length < 2 ^ 31 by omega), nI_1]
          rw [stL_s (by omega) ep, List.map_cons]
          have := ih f (k + 1) (W ++ [(l, v)]) (putC ri W.length l v) (by omega) (by omega) (by omega) (by rw [List.length_append, List.length_singleton]; omega) (hS.put (by omega) (by omega)) (putC_k.trans hkc)
          rw [List.append_assoc] at this
          exact this
      cases al with
      | false =>
        rw [if_pos (ha.mpr rfl)]
        rw [show (10 : Int32) - nI k = nI (plc false k) by rw [li_10, nI_sub (by omega)]; rfl]
        exact go
      | true =>
        rw [if_neg (fun e => by have := ha.mp e; cases this)]
        exact go
end STAND2
