/-! what can be come to, put by one behind the other -/
def addAll : List Int64 → List Int64 → Option (List Int64)
  | seen, [] => some seen
  | seen, x :: xs => if x ∈ seen then addAll seen xs else if seen.length = 4000 then none else addAll (seen ++ [x]) xs
theorem addAll_append : ∀ (a b seen : List Int64), addAll seen (a ++ b) = (addAll seen a).bind (fun s => addAll s b) := by
  intro a
  induction a with
  | nil => intro b seen; rfl
  | cons x xs ih =>
    intro b seen
    rw [List.cons_append, addAll, addAll]
    by_cases h : x ∈ seen
    · rw [if_pos h, if_pos h]; exact ih b seen
    · rw [if_neg h, if_neg h]
      by_cases h2 : seen.length = 4000
      · rw [if_pos h2, if_pos h2]; rfl
      · rw [if_neg h2, if_neg h2]; exact ih b _
theorem addAll_nd : ∀ (a seen s' : List Int64), addAll seen a = some s' → seen.Nodup → seen.length ≤ 4000 → s'.Nodup ∧ s'.length ≤ 4000 ∧ (∀ x, x ∈ s' ↔ x ∈ seen ∨ x ∈ a) ∧ ∃ e, s' = seen ++ e := by
  intro a
  induction a with
  | nil =>
    intro seen s' h hn hl
    cases h
    exact ⟨hn, hl, fun x => by simp, [], by simp⟩
  | cons y ys ih =>
    intro seen s' h hn hl
    rw [addAll] at h
    by_cases c : y ∈ seen
    · rw [if_pos c] at h
      obtain ⟨h1, h2, h3, h4⟩ := ih seen s' h hn hl
      refine ⟨h1, h2, fun x => ?_, h4⟩
      rw [h3 x]
      constructor
      · rintro (h | h)
        · exact Or.inl h
        · exact Or.inr (List.mem_cons_of_mem _ h)
      · rintro (h | h)
        · exact Or.inl h
        · rcases List.mem_cons.mp h with rfl | h
          · exact Or.inl c
          · exact Or.inr h
    · rw [if_neg c] at h
      by_cases c2 : seen.length = 4000
      · rw [if_pos c2] at h; cases h
      · rw [if_neg c2] at h
        have hn2 : (seen ++ [y]).Nodup := by
          rw [List.nodup_append]
          exact ⟨hn, by simp, fun a ha b hb e => c (by rw [List.mem_singleton.mp hb] at e; rw [← e]; exact ha)⟩
        obtain ⟨h1, h2, h3, e, h4⟩ := ih (seen ++ [y]) s' h hn2 (by simp; omega)
        refine ⟨h1, h2, fun x => ?_, y :: e, by rw [h4]; simp⟩
        rw [h3 x]
        simp only [List.mem_append, List.mem_cons, List.not_mem_nil, or_false]
        constructor
        · rintro ((h | h) | h)
          · exact Or.inl h
          · exact Or.inr (Or.inl h)
          · exact Or.inr (Or.inr h)
        · rintro (h | h | h)
          · exact Or.inl (Or.inl h)
          · exact Or.inl (Or.inr h)
          · exact Or.inr h
/-- the key that the reference's table holds -/
def tk (t : Int64) : Int64 := t ||| (1152921504606846976 : Int64)
theorem nib_2_60 : ∀ s : Nat, s < 16 → nib (1152921504606846976 : Int64) s = if s = 15 then 1 else 0 := by decide +kernel
theorem tk_inj {tn : TnS} {t u : Int64} (h14 : nS tn ≤ 14) (ht : CW tn t) (hu : CW tn u) : tk t = tk u ↔ t = u := by
  constructor
  · intro e
    refine i64_ext (fun s hs => ?_)
    by_cases c : s < nS tn
    · have := congrArg (fun z => nib z s) e
      simp only [tk, nib_or, nib_2_60 s hs, if_neg (show ¬ s = 15 by omega), Nat.or_zero] at this
      exact this
    · rw [ht.2.2.1 s (by omega) hs, hu.2.2.1 s (by omega) hs]
  · intro e; rw [e]
theorem tk_ne0 {t : Int64} : ¬ tk t = 0 := by
  intro e
  have := congrArg (fun z => nib z 15) e
  simp only [tk, nib_or, nib_2_60 15 (by decide), nib_0, if_pos] at this
  have h2 : ∀ a, a < 16 → ¬ (a ||| 1 = 0) := by decide
  exact h2 _ (nib_lt t 15) this
def rhash (k : Int64) : Nat := cl (Int64.toInt32 ((Int64.toUInt64 (k * (-7046029254386353131 : Int64)) >>> ((Int32.toInt64 (50 : Int32)).toUInt64 &&& Int64.toUInt64 63)).toInt64))
theorem rhash_e (k : Int64) : rhash k < 16384 ∧ Int64.toInt32 ((Int64.toUInt64 (k * (-7046029254386353131 : Int64)) >>> ((Int32.toInt64 (50 : Int32)).toUInt64 &&& Int64.toUInt64 63)).toInt64) = nI (rhash k) := by
  obtain ⟨n, h1, h2⟩ := hash_e (x := k * (-7046029254386353131 : Int64)) (b := 50) (n := 16384) (by decide) (by decide) (by decide +kernel) (by decide)
  have h2' : Int64.toInt32 ((Int64.toUInt64 (k * (-7046029254386353131 : Int64)) >>> ((Int32.toInt64 (50 : Int32)).toUInt64 &&& Int64.toUInt64 63)).toInt64) = nI n := h2
  unfold rhash
  rw [h2', cl_I (by omega)]
  exact ⟨h1, rfl⟩
def rtb (md : MdS) (s : Nat) : Option Int64 := if Md_table md s = 0 then none else some (Md_table md s)
/-- the reference's row of what was come to -/
def RS (tn : TnS) (md : MdS) (seen : List Int64) : Prop :=
  Md_many md = nI seen.length ∧ seen.length ≤ 4000 ∧ seen.Nodup ∧ (∀ i t, seen[i]? = some t → Md_come md i = t) ∧ (∀ t, t ∈ seen → CW tn t) ∧ Lpr 16384 rhash (rtb md) (seen.map tk)
/-- alike but for the table, the row and what was looked at -/
def hcore (s : MdS) : MdS := lcore (Md_many' (Md_table' (Md_come' s (fun _ => 0)) (fun _ => 0)) 0)
section RSEARCH
variable {tn : TnS} {pt : Option Nat} {lf : Int32} {md : MdS} {seen : List Int64} {t : Int64}
theorem lg0 {x y : Int64} : (lg_cmp x y = 0) ↔ x = y := lg_cmp_eq x y
theorem comes_L (h14 : nS tn ≤ 14) (hS : RS tn md seen) (ht : CW tn t) {d : Nat} (hd : d < 16384) (hpath : ∀ e, e < d → ∃ k', rtb md ((rhash (tk t) + e) % 16384) = some k' ∧ k' ≠ tk t) (hend : (rtb md ((rhash (tk t) + d) % 16384) = some (tk t) ∧ tk t ∈ seen.map tk) ∨ (rtb md ((rhash (tk t) + d) % 16384) = none ∧ tk t ∉ seen.map tk)) :
    ∀ n e, e ≤ d → d - e < n → f_X13_comes_L17 n t (tk t) (nI ((rhash (tk t) + e) % 16384)) md = f_X13_comes_L54 t (tk t) (nI ((rhash (tk t) + d) % 16384)) md := by
  intro n
  induction n with
  | zero => intro e _ h; omega
  | succ n ih =>
    intro e he hn
    have hm : (rhash (tk t) + e) % 16384 < 16384 := Nat.mod_lt _ (by decide)
    rw [f_X13_comes_L17, ckI hm (by decide), nI_clamp (by omega), ckI hm (by decide)]
    by_cases c : e = d
    · subst c
      rcases hend with ⟨h1, _⟩ | ⟨h1, _⟩
      · unfold rtb at h1
        by_cases z : Md_table md ((rhash (tk t) + e) % 16384) = 0
        · rw [if_pos z] at h1; cases h1
        · rw [if_neg z] at h1
          injection h1 with h1
          rw [if_neg (fun h => z (lg0.mp h)), if_pos (lg0.mpr h1)]
      · unfold rtb at h1
        by_cases z : Md_table md ((rhash (tk t) + e) % 16384) = 0
        · rw [if_pos (lg0.mpr z)]
        · rw [if_neg z] at h1; cases h1
    · obtain ⟨k', h1, h2⟩ := hpath e (by omega)
      unfold rtb at h1
      by_cases z : Md_table md ((rhash (tk t) + e) % 16384) = 0
      · rw [if_pos z] at h1; cases h1
      · rw [if_neg z] at h1
        injection h1 with h1
        rw [if_neg (fun h => z (lg0.mp h)), if_neg (fun h => h2 (by rw [← h1]; exact lg0.mp h)), lt1_e, nI_1, nI_mask14]
        have e1 : ((rhash (tk t) + e) % 16384 + 1) % 16384 = (rhash (tk t) + (e + 1)) % 16384 := by omega
        rw [e1]
        exact ih (e + 1) (by omega) (by omega)
theorem comes_e (h14 : nS tn ≤ 14) (hS : RS tn md seen) (ht : CW tn t) : Ok (f_X13_comes md t) (fun q => (q.1 = 1 ∧ t ∈ seen ∧ q.2 = md) ∨ (q.1 = 0 ∧ t ∉ seen ∧ seen.length = 4000 ∧ q.2 = md) ∨ (q.1 = 1 ∧ t ∉ seen ∧ seen.length < 4000 ∧ RS tn q.2 (seen ++ [t]) ∧ ∃ f g k, q.2 = Md_many' (Md_come' (Md_table' md f) g) k)) := by
  obtain ⟨s1, s2, s3, s4, s5, s6⟩ := hS
  have hmem : tk t ∈ seen.map tk ↔ t ∈ seen := by
    constructor
    · intro h
      obtain ⟨u, hu, e⟩ := List.mem_map.mp h
      rw [← (tk_inj h14 (s5 u hu) ht).mp e]
      exact hu
    · intro h; exact List.mem_map.mpr ⟨t, h, rfl⟩
  obtain ⟨d, hd, hpath, hend⟩ := s6.probe (by rw [List.length_map]; omega) (tk t) (rhash_e _).1
  have hm : (rhash (tk t) + d) % 16384 < 16384 := Nat.mod_lt _ (by decide)
  unfold f_X13_comes
  rw [lt1_e, lt1_e]
  have e0 : t ||| (1152921504606846976 : Int64) = tk t := rfl
  rw [e0, (rhash_e (tk t)).2]
  have e1 := comes_L (md := md) h14 ⟨s1, s2, s3, s4, s5, s6⟩ ht hd hpath hend FU 0 (by omega) (by rw [FU_e]; omega)
  rw [Nat.add_zero, Nat.mod_eq_of_lt (rhash_e (tk t)).1] at e1
  rw [e1]
  unfold f_X13_comes_L54
  rw [ckI hm (by decide), nI_clamp (by omega)]
  rcases hend with ⟨h1, h2⟩ | ⟨h1, h2⟩
  · unfold rtb at h1
    by_cases z : Md_table md ((rhash (tk t) + d) % 16384) = 0
    · rw [if_pos z] at h1; cases h1
    · rw [if_neg z] at h1
      injection h1 with h1
      rw [if_pos (lg0.mpr h1), Ok_some]
      exact Or.inl ⟨rfl, hmem.mp h2, rfl⟩
  · have hz : Md_table md ((rhash (tk t) + d) % 16384) = 0 := by
      unfold rtb at h1
      by_cases z : Md_table md ((rhash (tk t) + d) % 16384) = 0
      · exact z
      · rw [if_neg z] at h1; cases h1
    have ht2 : t ∉ seen := fun h => h2 (hmem.mpr h)
    rw [if_neg (fun h => by rw [lg0.mp h] at hz; exact tk_ne0 hz), s1]
    by_cases c : seen.length = 4000
    · rw [if_pos (by rw [c]; rfl), Ok_some]
      exact Or.inr (Or.inl ⟨rfl, ht2, c, rfl⟩)
    · have hne : ¬ nI seen.length = 4000 := fun h => c (nI_inj h (by omega) (by omega))
      rw [if_neg hne, ckI hm (by decide), lt1_e, gn_many_table, s1, ckI (by omega) (by decide), lt1_e, lt1_e, gn_many_come, gn_many_table, s1, nI_clamp (by omega), nI_1, Ok_some]
      refine Or.inr (Or.inr ⟨rfl, ht2, by omega, ⟨?_, by simp; omega, ?_, fun i u hi => ?_, fun u hu => ?_, ?_⟩, _, _, _, rfl⟩)
      · rw [gs_many, List.length_append]; rfl
      · rw [List.nodup_append]
        exact ⟨s3, by simp, fun a ha b hb e => ht2 (by rw [List.mem_singleton.mp hb] at e; rw [← e]; exact ha)⟩
      · rw [gn_come_many, gs_come, gn_come_table, updL_if]
        by_cases e : i = seen.length
        · subst e
          rw [List.getElem?_append_right (Nat.le_refl _), Nat.sub_self] at hi
          cases hi
          rw [if_pos rfl]
        · rw [if_neg e]
          by_cases h3 : i < seen.length
          · rw [List.getElem?_append_left h3] at hi
            exact s4 i u hi
          · rw [List.getElem?_append_right (by omega), List.getElem?_eq_none (by simp; omega)] at hi
            cases hi
      · rcases List.mem_append.mp hu with h | h
        · exact s5 u h
        · rw [List.mem_singleton.mp h]; exact ht
      · rw [List.map_append]
        refine s6.insert (by decide) hd hpath h1 h2 (fun s hs => ?_)
        unfold rtb
        rw [gn_table_many, gn_table_come, gs_table, updL_if]
        by_cases e : s = (rhash (tk t) + d) % 16384
        · rw [if_pos e, if_pos e, if_neg tk_ne0]
        · rw [if_neg e, if_neg e]
end RSEARCH
