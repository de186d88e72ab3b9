section RS3
variable {tn : TnS} {pt : Option Nat} {lf : Int32} {t t0 : Int64}
theorem start_RS (hT : TW tn) {md : MdS} (hz : ∀ s, s < 16384 → Md_table md s = 0) (hD : DW tn pt t0) (hp : Md_parted md = ptv pt) (hl : Md_lifted md = lf) : Ok (f_X13_comes (Md_many' md 0) t0) (fun q => RD tn pt lf q.2 [t0] ∧ Sc md q.2) := by
  have hS : RS tn (Md_many' md 0) [] := by
    refine ⟨gs_many _ _, by simp, List.nodup_nil, fun i u hi => (by cases hi), fun u hu => (by cases hu), ?_⟩
    refine Lpr.empty (fun s hs => ?_)
    unfold rtb
    rw [gn_table_many, if_pos (hz s hs)]
  refine (comes_e hT.s14 hS hD.1).mono (fun q hq => ?_)
  rcases hq with ⟨_, q2, _⟩ | ⟨_, _, q3, _⟩ | ⟨q1, q2, q3, q4, f, g, k, q5⟩
  · cases q2
  · cases q3
  · have hsc : Sc md q.2 := by rw [q5]; exact (Sc.u_many _ _).trans (sc3 _ f g k)
    exact ⟨⟨q4, fun u hu => by rw [List.mem_singleton.mp hu]; exact hD, hsc.parted.trans hp, hsc.lifted.trans hl⟩, hsc⟩
theorem few_clear (hT : TW tn) {d : Nat} (hd : d ≤ 8) (hD : DW tn pt t0) {md0 : MdS} : ∀ n k md, 16384 - k < n → k ≤ 16384 → (∀ s, s < k → Md_table md s = 0) → Md_parted md = ptv pt → Md_lifted md = lf → Sc md0 md → Ok (f_X13_fewestFrom_L3 n t0 (nI d) (nI k) md tn) (fun q => q.1 = fewG tn pt lf t0 d 0 ∧ Sc md0 q.2) := by
  intro n
  induction n with
  | zero => intro k md h; omega
  | succ n ih =>
    intro k md hn hk hz hp hl hsc
    rw [f_X13_fewestFrom_L3, li_16384]
    by_cases c : k = 16384
    · rw [if_pos (by rw [c]; decide), lt1_e, Ok_bd2]
      subst c
      refine (start_RS hT hz hD hp hl).mono (fun q hq => ?_)
      exact few_L hT hd d FU 0 q.2 [t0] 0 (by omega) (by rw [FU_e]; omega) rfl (by omega) hq.1 (hsc.trans hq.2)
    · rw [if_neg (nI_ge (show k < 16384 by omega) (by omega)), ckI (by omega) (by omega), lt1_e, lt1_e, nI_clamp (by omega), nI_1]
      refine ih (k + 1) _ (by omega) (by omega) (fun s hs => ?_) ((Sc.u_table _ _).parted.trans hp) ((Sc.u_table _ _).lifted.trans hl) (hsc.trans (Sc.u_table _ _))
      rw [gs_table, updL_if]
      by_cases e : s = k
      · rw [if_pos e]
      · rw [if_neg e]; exact hz s (by omega)
theorem few_e (hT : TW tn) {d : Nat} (hd : d ≤ 8) (hD : DW tn pt t0) {md : MdS} (hp : Md_parted md = ptv pt) (hl : Md_lifted md = lf) : Ok (f_X13_fewestFrom md tn t0 (nI d)) (fun q => q.1 = fewG tn pt lf t0 d 0 ∧ Sc md q.2) := by
  unfold f_X13_fewestFrom
  exact few_clear hT hd hD FU 0 md (by rw [FU_e]; omega) (by omega) (fun s h => by omega) hp hl (Sc.refl md)
theorem expA_L (hT : TW tn) {d k : Int32} {seen : List Int64} (K : Int32 → Int32 → Int32 → MdS → TnS → Option (Int32 × MdS)) (Q : Int32 × MdS → Prop) :
    ∀ n q md cur, seen.length - q < n → q ≤ seen.length → (∃ e, cur = seen ++ e) → RD tn pt lf md cur →
    (∀ md' s', addAll cur ((seen.drop q).flatMap (SUC tn pt lf)) = some s' → RD tn pt lf md' s' → Sc md md' → Ok (K d (nI seen.length) (k + 1) md' tn) Q) →
    (∀ md', addAll cur ((seen.drop q).flatMap (SUC tn pt lf)) = none → Sc md md' → Q (0, md')) →
    Ok (f_X13_comesAll_L54 n d k (nI seen.length) (nI q) md tn K) Q := by
  intro n
  induction n with
  | zero => intro q md cur h; omega
  | succ n ih =>
    intro q md cur hn hq he hR hK hN
    have hlen : seen.length ≤ 4000 := by
      obtain ⟨e, he⟩ := he
      have := hR.1.2.1
      rw [he, List.length_append] at this
      omega
    rw [f_X13_comesAll_L54]
    by_cases c : q = seen.length
    · rw [if_pos (by rw [c]; exact nI_le (Nat.le_refl _) (by omega)), lt1_e]
      rw [c, List.drop_length] at hK
      exact hK md cur rfl hR (Sc.refl md)
    · have hq2 : q < seen.length := by omega
      obtain ⟨u, hu⟩ : ∃ u, seen[q]? = some u := ⟨seen[q], List.getElem?_eq_getElem hq2⟩
      have hcome : Md_come md q = u := hR.1.2.2.2.1 q u (by
        obtain ⟨e, he⟩ := he
        rw [he, List.getElem?_append_left hq2]; exact hu)
      have hmem : u ∈ cur := by
        obtain ⟨e, he⟩ := he
        rw [he]
        exact List.mem_append_left _ (List.mem_of_getElem? hu)
      have hdrop : seen.drop q = u :: seen.drop (q + 1) := by
        rw [List.drop_eq_getElem_cons hq2]
        congr 1
        rw [List.getElem?_eq_getElem hq2] at hu
        exact Option.some.inj hu
      have hDu := hR.2.1 u hmem
      rw [if_neg (nI_ge hq2 (by omega)), ckI (by omega) (by decide), nI_clamp (by omega), hcome, Ok_bd2]
      rw [hdrop, List.flatMap_cons, addAll_append] at hK hN
      refine (goes_e hT hDu hR.2.2.1 hR.2.2.2 hR.1).mono (fun z hz => ?_)
      obtain ⟨z1, z2⟩ := hz
      cases ha : addAll cur (SUC tn pt lf u) with
      | none =>
        rw [ha] at z2 hN
        rw [if_pos z2, Ok_some]
        exact hN z.2 rfl z1
      | some s' =>
        rw [ha] at z2 hN hK
        rw [if_neg (by rw [z2.1]; decide), lt1_e, nI_1]
        have hR' := RD.add (seen := seen) hT hR hDu ha z2.2 z1
        refine ih (q + 1) z.2 s' (by omega) (by omega) ?_ hR' (fun md' s2 h1 h2 h3 => hK md' s2 h1 h2 (z1.trans h3)) (fun md' h1 h2 => hN md' h1 (z1.trans h2))
        obtain ⟨e, he⟩ := he
        obtain ⟨e2, he2⟩ := (addAll_nd _ _ _ ha hR.1.2.2.1 hR.1.2.1).2.2.2
        exact ⟨e ++ e2, by rw [he2, he, List.append_assoc]⟩
theorem lvl_none : ∀ j k, k ≤ j → lvl tn pt lf t0 k = none → lvl tn pt lf t0 j = none := by
  intro j
  induction j with
  | zero => intro k hk h; rw [show k = 0 by omega] at h; exact h
  | succ j ih =>
    intro k hk h
    by_cases e : k = j + 1
    · rw [← e]; exact h
    · rw [lvl, ih k (by omega) h]
def pstC (tn : TnS) (md : MdS) (o : Option (List Int64 × Nat)) (q : Int32 × MdS) : Prop := Sc md q.2 ∧ match o with
  | none => q.1 = 0
  | some (s', _) => q.1 = 1 ∧ RS tn q.2 s'
theorem all_L (hT : TW tn) {d : Nat} (hd : d ≤ 8) {md0 : MdS} :
    ∀ rem n k md seen fr, k + rem = d → rem + 1 < n → lvl tn pt lf t0 k = some (seen, fr) → fr ≤ seen.length → RD tn pt lf md seen → Sc md0 md → Ok (f_X13_comesAll_L40 n (nI d) (nI fr) (nI k) md tn) (pstC tn md0 (lvl tn pt lf t0 d)) := by
  intro rem
  induction rem with
  | zero =>
    intro n k md seen fr hk hn hl hfr hR hsc
    cases n with
    | zero => omega
    | succ n =>
      rw [f_X13_comesAll_L40, if_pos (nI_le (by omega) (by omega)), Ok_some, show d = k by omega, hl]
      exact ⟨hsc, rfl, hR.1⟩
  | succ rem ih =>
    intro n k md seen fr hk hn hl hfr hR hsc
    cases n with
    | zero => omega
    | succ n =>
      have hlen := hR.1.2.1
      rw [f_X13_comesAll_L40, if_neg (nI_ge (show k < d by omega) (by omega)), lt1_e, hR.1.1]
      refine expA_L hT _ _ FU fr md seen (by rw [FU_e]; omega) hfr ⟨[], by simp⟩ hR (fun md' s' h3 h4 h5 => ?_) (fun md' h3 h5 => ?_)
      · have hl2 : lvl tn pt lf t0 (k + 1) = some (s', seen.length) := by
          rw [lvl, hl]
          show (match addAll seen ((seen.drop fr).flatMap (SUC tn pt lf)) with | none => none | some s' => some (s', seen.length)) = _
          rw [h3]
        have hle : seen.length ≤ s'.length := by
          obtain ⟨e, he⟩ := (addAll_nd _ _ _ h3 hR.1.2.2.1 hR.1.2.1).2.2.2
          rw [he, List.length_append]; omega
        rw [nI_1]
        exact ih n (k + 1) md' s' seen.length (by omega) (by omega) hl2 hle h4 (hsc.trans h5)
      · have hl2 : lvl tn pt lf t0 (k + 1) = none := by
          rw [lvl, hl]
          show (match addAll seen ((seen.drop fr).flatMap (SUC tn pt lf)) with | none => none | some s' => some (s', seen.length)) = _
          rw [h3]
        rw [lvl_none d (k + 1) (by omega) hl2]
        exact ⟨hsc.trans h5, rfl⟩
theorem all_clear (hT : TW tn) {d : Nat} (hd : d ≤ 8) (hD : DW tn pt t0) {md0 : MdS} : ∀ n k md, 16384 - k < n → k ≤ 16384 → (∀ s, s < k → Md_table md s = 0) → Md_parted md = ptv pt → Md_lifted md = lf → Md_now md = t0 → Sc md0 md → Ok (f_X13_comesAll_L2 n (nI d) (nI k) md tn) (pstC tn md0 (lvl tn pt lf t0 d)) := by
  intro n
  induction n with
  | zero => intro k md h; omega
  | succ n ih =>
    intro k md hn hk hz hp hl hno hsc
    rw [f_X13_comesAll_L2, li_16384]
    by_cases c : k = 16384
    · rw [if_pos (by rw [c]; decide), lt1_e, Ok_bd2, (Sc.u_many md 0).now, hno]
      subst c
      refine (start_RS hT hz hD hp hl).mono (fun q hq => ?_)
      exact all_L hT hd d FU 0 q.2 [t0] 0 (by omega) (by rw [FU_e]; omega) rfl (by omega) hq.1 (hsc.trans hq.2)
    · rw [if_neg (nI_ge (show k < 16384 by omega) (by omega)), ckI (by omega) (by omega), lt1_e, lt1_e, nI_clamp (by omega), nI_1]
      refine ih (k + 1) _ (by omega) (by omega) (fun s hs => ?_) ((Sc.u_table _ _).parted.trans hp) ((Sc.u_table _ _).lifted.trans hl) ((Sc.u_table _ _).now.trans hno) (hsc.trans (Sc.u_table _ _))
      rw [gs_table, updL_if]
      by_cases e : s = k
      · rw [if_pos e]
      · rw [if_neg e]; exact hz s (by omega)
theorem all_e (hT : TW tn) {d : Nat} (hd : d ≤ 8) {md : MdS} (hD : DW tn pt (Md_now md)) (hp : Md_parted md = ptv pt) (hl : Md_lifted md = lf) : Ok (f_X13_comesAll md tn (nI d)) (pstC tn md (lvl tn pt lf (Md_now md) d)) := by
  unfold f_X13_comesAll
  exact all_clear hT hd hD FU 0 md (by rw [FU_e]; omega) (by omega) (fun s h => by omega) hp hl rfl (Sc.refl md)
end RS3
