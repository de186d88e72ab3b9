def chash (k : Int64) : Nat := cl (Int64.toInt32 ((Int64.toUInt64 (k * (-7046029254386353131 : Int64)) >>> ((Int32.toInt64 (51 : Int32)).toUInt64 &&& Int64.toUInt64 63)).toInt64))
theorem chash_e (k : Int64) : chash k < 8192 ∧ Int64.toInt32 ((Int64.toUInt64 (k * (-7046029254386353131 : Int64)) >>> ((Int32.toInt64 (51 : Int32)).toUInt64 &&& Int64.toUInt64 63)).toInt64) = nI (chash k) := by
  obtain ⟨n, h1, h2⟩ := hash_e (x := k * (-7046029254386353131 : Int64)) (b := 51) (n := 8192) (by decide) (by decide) (by decide +kernel) (by decide)
  have h2' : Int64.toInt32 ((Int64.toUInt64 (k * (-7046029254386353131 : Int64)) >>> ((Int32.toInt64 (51 : Int32)).toUInt64 &&& Int64.toUInt64 63)).toInt64) = nI n := h2
  unfold chash
  rw [h2', cl_I (by omega)]
  exact ⟨h1, rfl⟩
def ctb (se : SeS) (s : Nat) : Option Int64 := if Se_table se s = 0 then none else some (Se_keys se (cl (Se_table se s - 1)))
/-- the class's table and row -/
def CT1 (se : SeS) (ks : List Int64) : Prop :=
  Se_count se = nI ks.length ∧ ks.length ≤ 4000 ∧ ks.Nodup ∧ (∀ i k, ks[i]? = some k → Se_keys se i = k) ∧
  (∀ s, s < 8192 → Se_table se s = 0 ∨ ∃ i, i < ks.length ∧ Se_table se s = nI (i + 1) ∧ Se_slots se i = nI s) ∧
  (∀ i, i < ks.length → ∃ s, s < 8192 ∧ Se_slots se i = nI s ∧ Se_table se s = nI (i + 1)) ∧ Lpr 8192 chash (ctb se) ks
section CS
variable {se : SeS} {ks : List Int64} {k : Int64}
theorem ctb_at (h : CT1 se ks) {s : Nat} (hs : s < 8192) : (Se_table se s = 0 ∧ ctb se s = none) ∨ (∃ i k, ks[i]? = some k ∧ Se_table se s = nI (i + 1) ∧ ctb se s = some k ∧ i < ks.length) := by
  obtain ⟨_, h2, _, h4, h5, _⟩ := h
  rcases h5 s hs with e | ⟨i, hi, e, _⟩
  · exact Or.inl ⟨e, by unfold ctb; rw [if_pos e]⟩
  · obtain ⟨k, hk⟩ : ∃ k, ks[i]? = some k := ⟨ks[i], List.getElem?_eq_getElem hi⟩
    refine Or.inr ⟨i, k, hk, e, ?_, hi⟩
    unfold ctb
    rw [e, if_neg (nI_ne0 (by omega) (by omega)), nI_pred, cl_I (by omega), h4 i k hk]
theorem slot_L (h : CT1 se ks) {d : Nat} (hd : d < 8192) (hpath : ∀ e, e < d → ∃ k', ctb se ((chash k + e) % 8192) = some k' ∧ k' ≠ k) (hend : (ctb se ((chash k + d) % 8192) = some k ∧ k ∈ ks) ∨ (ctb se ((chash k + d) % 8192) = none ∧ k ∉ ks)) :
    ∀ n e, e ≤ d → d - e < n → f_X7_slotFor_L13 n k (nI ((chash k + e) % 8192)) (nI e) se = some (nI ((chash k + d) % 8192)) := by
  intro n
  induction n with
  | zero => intro e _ h; omega
  | succ n ih =>
    intro e he hn
    have hm : (chash k + e) % 8192 < 8192 := Nat.mod_lt _ (by decide)
    have hlen := h.2.1
    rw [f_X7_slotFor_L13, li_8192, if_neg (nI_ge (show e < 8192 by omega) (by decide)), ckI hm (by decide), nI_clamp (by omega), lt1_e]
    rcases ctb_at h hm with ⟨z, c⟩ | ⟨i, k1, hk1, z, c, hi⟩
    · rw [z, if_pos (by decide)]
      by_cases e1 : e = d
      · rw [e1]
      · obtain ⟨k', q1, _⟩ := hpath e (by omega)
        rw [c] at q1; cases q1
    · rw [z, nI_pred, if_neg (nI_pos (by omega)), ckI (by omega) (by decide), nI_clamp (by omega), h.2.2.2.1 i k1 hk1]
      by_cases e2 : k1 = k
      · rw [if_pos (lg0.mpr e2)]
        by_cases e1 : e = d
        · rw [e1]
        · obtain ⟨k', q1, q2⟩ := hpath e (by omega)
          rw [c] at q1
          injection q1 with q1
          exact absurd (q1.symm.trans e2) q2
      · rw [if_neg (fun h => e2 (lg0.mp h)), lt1_e, lt1_e, nI_1, nI_1, nI_mask13]
        have hed : e ≠ d := fun e1 => by
          subst e1
          rcases hend with ⟨q, _⟩ | ⟨q, _⟩
          · rw [c] at q; injection q with q; exact e2 q
          · rw [c] at q; cases q
        have e1 : ((chash k + e) % 8192 + 1) % 8192 = (chash k + (e + 1)) % 8192 := by omega
        rw [e1]
        exact ih (e + 1) (by omega) (by omega)
theorem slot_e (h : CT1 se ks) (k : Int64) : ∃ d, d < 8192 ∧ f_X7_slotFor se k = some (nI ((chash k + d) % 8192)) ∧ (∀ e, e < d → ∃ k', ctb se ((chash k + e) % 8192) = some k' ∧ k' ≠ k) ∧ ((ctb se ((chash k + d) % 8192) = some k ∧ k ∈ ks) ∨ (ctb se ((chash k + d) % 8192) = none ∧ k ∉ ks)) := by
  have hlen := h.2.1
  obtain ⟨d, hd, hpath, hend⟩ := h.2.2.2.2.2.2.probe (by omega) k (chash_e k).1
  refine ⟨d, hd, ?_, hpath, hend⟩
  unfold f_X7_slotFor
  rw [lt1_e, (chash_e k).2]
  have e1 := slot_L h hd hpath hend FU 0 (by omega) (by rw [FU_e]; omega)
  rw [Nat.add_zero, Nat.mod_eq_of_lt (chash_e k).1] at e1
  exact e1
theorem add_e (h : CT1 se ks) (k : Int64) (f : Int32) : Ok (f_X7_add se k f) (fun se' =>
    (k ∈ ks ∧ se' = se) ∨ (k ∉ ks ∧ ks.length = 4000 ∧ se' = Se_over' se 1) ∨
    (k ∉ ks ∧ ks.length < 4000 ∧ CT1 se' (ks ++ [k]) ∧ Se_firsts se' = upd (Se_firsts se) ks.length f ∧ Se_over se' = Se_over se ∧ Se_looseAt se' = if k = 0 then nI ks.length else Se_looseAt se)) := by
  have hh := h
  obtain ⟨h1, h2, h3, h4, h5, h6, h7⟩ := h
  obtain ⟨d, hd, e1, hpath, hend⟩ := slot_e hh k
  have hm : (chash k + d) % 8192 < 8192 := Nat.mod_lt _ (by decide)
  generalize hsl : (chash k + d) % 8192 = sl at *
  unfold f_X7_add
  rw [bd1_e e1, ckI hm (by decide), nI_clamp (by omega)]
  rcases ctb_at hh hm with ⟨z, c⟩ | ⟨i, k1, hk1, z, c, hi⟩
  · have hnk : k ∉ ks := by
      rcases hend with ⟨q, _⟩ | ⟨_, q⟩
      · rw [c] at q; cases q
      · exact q
    rw [if_pos z, h1]
    by_cases c2 : ks.length = 4000
    · rw [li_4000, if_neg (nI_nlt (by omega) (by omega)), lt1_e, Ok_some]
      exact Or.inr (Or.inl ⟨hnk, c2, rfl⟩)
    · have hlt : ks.length < 4000 := by omega
      have fin : ∀ la : Int32, (la = if k = 0 then nI ks.length else Se_looseAt se) →
          Ok (f_X7_add_L81 (nI sl) (Se_looseAt' (Se_slots' (Se_firsts' (Se_keys' se (vp_updL (Se_keys se) ks.length k)) (upd (Se_firsts se) ks.length f)) (upd (Se_slots se) ks.length (nI sl))) la)) (fun se' =>
            (k ∈ ks ∧ se' = se) ∨ (k ∉ ks ∧ ks.length = 4000 ∧ se' = Se_over' se 1) ∨
            (k ∉ ks ∧ ks.length < 4000 ∧ CT1 se' (ks ++ [k]) ∧ Se_firsts se' = upd (Se_firsts se) ks.length f ∧ Se_over se' = Se_over se ∧ Se_looseAt se' = if k = 0 then nI ks.length else Se_looseAt se)) := by
        intro la hla
        unfold f_X7_add_L81
        rw [lt1_e, ckI hm (by decide), lt1_e, nI_clamp (by omega), Ok_some]
        refine Or.inr (Or.inr ⟨hnk, hlt, ⟨?_, by simp; omega, ?_, fun i k1 hi => ?_, fun s hs => ?_, fun i hi => ?_, ?_⟩, rfl, rfl, hla⟩)
        · show Se_count se + 1 = _
          rw [h1, nI_1, List.length_append]; rfl
        · rw [List.nodup_append]
          exact ⟨h3, by simp, fun a ha b hb e => hnk (by rw [List.mem_singleton.mp hb] at e; rw [← e]; exact ha)⟩
        · show vp_updL (Se_keys se) ks.length k i = k1
          rw [updL_if]
          by_cases e : i = ks.length
          · subst e
            rw [List.getElem?_append_right (Nat.le_refl _), Nat.sub_self] at hi
            cases hi
            rw [if_pos rfl]
          · rw [if_neg e]
            by_cases q : i < ks.length
            · rw [List.getElem?_append_left q] at hi
              exact h4 i k1 hi
            · rw [List.getElem?_append_right (by omega), List.getElem?_eq_none (by simp; omega)] at hi
              cases hi
        · show upd (Se_table se) sl (Se_count se + 1) s = 0 ∨ ∃ i, i < (ks ++ [k]).length ∧ upd (Se_table se) sl (Se_count se + 1) s = nI (i + 1) ∧ upd (Se_slots se) ks.length (nI sl) i = nI s
          by_cases e : s = sl
          · subst e
            refine Or.inr ⟨ks.length, by simp, ?_, ?_⟩
            · rw [upd_at, h1, nI_1]
            · rw [upd_at]
          · rw [upd_ne e]
            rcases h5 s hs with q | ⟨i, q1, q2, q3⟩
            · exact Or.inl q
            · exact Or.inr ⟨i, by simp; omega, q2, by rw [upd_ne (by omega)]; exact q3⟩
        · show ∃ s, s < 8192 ∧ upd (Se_slots se) ks.length (nI sl) i = nI s ∧ upd (Se_table se) sl (Se_count se + 1) s = nI (i + 1)
          by_cases e : i = ks.length
          · subst e
            exact ⟨sl, hm, upd_at, by rw [upd_at, h1, nI_1]⟩
          · have hi2 : i < ks.length := by simp at hi; omega
            obtain ⟨s, q1, q2, q3⟩ := h6 i hi2
            refine ⟨s, q1, by rw [upd_ne e]; exact q2, ?_⟩
            rw [upd_ne (fun e2 => by rw [e2, z] at q3; exact nI_ne0 (by omega) (by omega) q3.symm)]
            exact q3
        · refine h7.insert (d := d) (by decide) hd hpath (by rw [hsl]; exact c) hnk (fun s hs => ?_)
          rw [hsl]
          unfold ctb
          show (if upd (Se_table se) sl (Se_count se + 1) s = 0 then none else some (vp_updL (Se_keys se) ks.length k (cl (upd (Se_table se) sl (Se_count se + 1) s - 1)))) = _
          by_cases e : s = sl
          · subst e
            rw [upd_at, h1, nI_1, if_neg (nI_ne0 (by omega) (by omega)), nI_pred, cl_I (by omega), updL_if, if_pos rfl, if_pos rfl]
          · rw [upd_ne e, if_neg e]
            by_cases q : Se_table se s = 0
            · rw [if_pos q, if_pos q]
            · rw [if_neg q, if_neg q]
              rcases h5 s hs with q2 | ⟨i, q1, q2, q3⟩
              · exact absurd q2 q
              · rw [q2, nI_pred, cl_I (by omega), updL_if, if_neg (by omega)]
      rw [li_4000, if_pos (nI_lt hlt (by omega)), ckI hlt (by decide), lt1_e, nI_clamp (by omega)]
      show Ok (ck (Se_count se) 4000 (lt1 _ (fun _ => ck (Se_count se) 4000 _))) _
      rw [h1, ckI hlt (by decide), lt1_e]
      show Ok (ck (nI ks.length) 4000 (lt1 (Se_slots' (Se_firsts' (Se_keys' se (vp_updL (Se_keys se) ks.length k)) (upd (Se_firsts se) (Int32.toNatClampNeg (Se_count se)) f)) (upd (Se_slots se) (Int32.toNatClampNeg (Se_count se)) (nI sl))) _)) _
      rw [ckI hlt (by decide), lt1_e, h1, nI_clamp (by omega)]
      by_cases c3 : k = 0
      · rw [if_pos (lg0.mpr c3), lt1_e]
        have := fin (nI ks.length) (by rw [if_pos c3])
        have e3 : Se_count (Se_slots' (Se_firsts' (Se_keys' se (vp_updL (Se_keys se) ks.length k)) (upd (Se_firsts se) ks.length f)) (upd (Se_slots se) ks.length (nI sl))) = nI ks.length := h1
        rw [e3]
        exact this
      · rw [if_neg (fun h => c3 (lg0.mp h))]
        exact fin (Se_looseAt se) (by rw [if_neg c3])
  · have hk2 : k ∈ ks := by
      rcases hend with ⟨_, q⟩ | ⟨q, _⟩
      · exact q
      · rw [c] at q; cases q
    rw [if_neg (by rw [z]; exact nI_ne0 (by omega) (by omega)), Ok_some]
    exact Or.inl ⟨hk2, rfl⟩
theorem forget_e (h : CT1 se ks) : Ok (f_X7_forget se) (fun se' => CT1 se' [] ∧ Se_over se' = 0 ∧ Se_looseAt se' = -1) := by
  obtain ⟨h1, h2, h3, h4, h5, h6, h7⟩ := h
  have key : ∀ n i (s1 : SeS), ks.length - i < n → i ≤ ks.length → Se_count s1 = nI ks.length → (∀ j, j < ks.length → Se_slots s1 j = Se_slots se j) → (∀ s, s < 8192 → Se_table s1 s = 0 ∨ ∃ j, i ≤ j ∧ j < ks.length ∧ Se_slots se j = nI s) → Ok (f_X7_forget_L2 n (nI i) s1) (fun se' => CT1 se' [] ∧ Se_over se' = 0 ∧ Se_looseAt se' = -1) := by
    intro n
    induction n with
    | zero => intro i s1 h; omega
    | succ n ih =>
      intro i s1 hn hi hc hs ht
      rw [f_X7_forget_L2, hc]
      by_cases e : i = ks.length
      · rw [if_pos (by rw [e]; exact nI_le (Nat.le_refl _) (by omega)), lt1_e, lt1_e, lt1_e, Ok_some]
        have hz : ∀ s, s < 8192 → Se_table s1 s = 0 := fun s q => by
          rcases ht s q with q2 | ⟨j, q2, q3, _⟩
          · exact q2
          · omega
        refine ⟨⟨rfl, by simp, List.nodup_nil, fun i k hi => (by cases hi), fun s q => Or.inl (hz s q), fun i hi => (by cases hi), ?_⟩, rfl, rfl⟩
        refine Lpr.empty (fun s q => ?_)
        unfold ctb
        exact if_pos (hz s q)
      · have hi2 : i < ks.length := by omega
        obtain ⟨s, q1, q2, q3⟩ := h6 i hi2
        rw [if_neg (nI_ge hi2 (by omega)), ckI (by omega) (by decide), nI_clamp (by omega), hs i hi2, q2, ckI q1 (by decide), lt1_e, lt1_e, nI_clamp (by omega), nI_1]
        refine ih (i + 1) _ (by omega) (by omega) hc hs (fun s' hs' => ?_)
        show upd (Se_table s1) s 0 s' = 0 ∨ _
        by_cases e2 : s' = s
        · exact Or.inl (by rw [e2, upd_at])
        · rw [upd_ne e2]
          rcases ht s' hs' with q4 | ⟨j, q4, q5, q6⟩
          · exact Or.inl q4
          · refine Or.inr ⟨j, ?_, q5, q6⟩
            have : j ≠ i := fun e3 => by
              rw [e3, q2] at q6
              exact e2 (nI_inj q6 (by omega) (by omega)).symm
            omega
  unfold f_X7_forget
  refine key FU 0 se (by rw [FU_e]; omega) (by omega) h1 (fun _ _ => rfl) (fun s hs => ?_)
  rcases h5 s hs with q | ⟨i, q1, _, q3⟩
  · exact Or.inl q
  · exact Or.inr ⟨i, by omega, q1, q3⟩
end CS
