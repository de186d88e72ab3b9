/-! by which move first -/
section NEXT2
variable {tn : TnS} {pt : Option Nat} {lf : Int32} {t0 : Int64}
theorem addL_spec : ∀ (xs L L' : List (Int64 × Int32)), addL L xs = some L' → ∃ E, L' = L ++ E ∧ E.Sublist xs ∧ ∀ x, x ∈ E → x.1 ∉ L.map Prod.fst ∧ ∃ x1 x2, xs = x1 ++ x :: x2 ∧ x.1 ∉ x1.map Prod.fst := by
  intro xs
  induction xs with
  | nil => intro L L' h; cases h; exact ⟨[], by simp, List.Sublist.refl _, fun x hx => by cases hx⟩
  | cons y ys ih =>
    intro L L' h
    rw [addL] at h
    by_cases c : y.1 ∈ L.map Prod.fst
    · rw [if_pos c] at h
      obtain ⟨E, h1, h2, h3⟩ := ih L L' h
      refine ⟨E, h1, h2.cons _, fun x hx => ?_⟩
      obtain ⟨q1, x1, x2, q2, q3⟩ := h3 x hx
      refine ⟨q1, y :: x1, x2, by rw [q2]; rfl, ?_⟩
      rw [List.map_cons, List.mem_cons]
      rintro (e | e)
      · rw [e] at q1; exact q1 c
      · exact q3 e
    · rw [if_neg c] at h
      by_cases c2 : L.length = 4000
      · rw [if_pos c2] at h; cases h
      · rw [if_neg c2] at h
        obtain ⟨E, h1, h2, h3⟩ := ih _ L' h
        refine ⟨y :: E, by rw [h1]; simp, h2.cons₂ _, fun x hx => ?_⟩
        rcases List.mem_cons.mp hx with rfl | hx
        · exact ⟨c, [], ys, rfl, by simp⟩
        · obtain ⟨q1, x1, x2, q2, q3⟩ := h3 x hx
          rw [List.map_append, List.mem_append] at q1
          refine ⟨fun h => q1 (Or.inl h), y :: x1, x2, by rw [q2]; rfl, ?_⟩
          rw [List.map_cons, List.mem_cons]
          rintro (e | e)
          · exact q1 (Or.inr (by rw [e]; simp))
          · exact q3 e
noncomputable def MM (tn : TnS) (pt : Option Nat) (lf : Int32) (t0 : Int64) : List Nat := MR (mayB tn pt lf t0) 0
/-- the first move by which one of a level was come to -/
def FA (tn : TnS) (pt : Option Nat) (lf : Int32) (t0 : Int64) (k : Nat) (x : Int64 × Int32) : Prop := ∃ m, m ∈ MM tn pt lf t0 ∧ x.2 = nI m ∧ RK tn pt lf k (bh tn t0 m) x.1 ∧ ∀ m', m' ∈ MM tn pt lf t0 → m' < m → ¬ RK tn pt lf k (bh tn t0 m') x.1
def leI (x y : Int64 × Int32) : Prop := cl x.2 ≤ cl y.2
theorem MM_lt {m : Nat} (h : m ∈ MM tn pt lf t0) : m < 2000 := (MR_mem.mp h).2.1
theorem MM_sorted : (MM tn pt lf t0).Pairwise (fun a b => a < b) := by
  unfold MM MR
  exact (List.pairwise_lt_range' (s := 0) (n := 2000 - 0)).filter _
theorem MM_suc {m : Nat} (h : m ∈ MM tn pt lf t0) : bh tn t0 m ∈ SUC tn pt lf t0 := List.mem_map.mpr ⟨m, h, rfl⟩
theorem pw_mid {α : Type} {R : α → α → Prop} {l x1 x2 : List α} {x y : α} (h : l.Pairwise R) (e : l = x1 ++ x :: x2) (hy : y ∈ x2) : R x y := by
  subst e
  have := (List.pairwise_append.mp h).2.1
  exact (List.pairwise_cons.mp this).1 y hy
theorem lvlL_lab : ∀ k L fr, lvlL tn pt lf t0 (k + 1) = some (L, fr) → (∀ x, x ∈ L.drop fr → FA tn pt lf t0 k x) ∧ (L.drop fr).Pairwise leI := by
  intro k
  induction k with
  | zero =>
    intro L fr h
    have h' : (match addL [(t0, -1)] (([(t0, (-1 : Int32))].drop 0).flatMap (sucL tn pt lf)) with | none => none | some s' => some (s', 1)) = some (L, fr) := h
    cases ha : addL [(t0, -1)] (([(t0, (-1 : Int32))].drop 0).flatMap (sucL tn pt lf)) with
    | none => rw [ha] at h'; cases h'
    | some L2 =>
      rw [ha] at h'
      cases h'
      have ex : ([(t0, (-1 : Int32))].drop 0).flatMap (sucL tn pt lf) = (MM tn pt lf t0).map (fun m => (bh tn t0 m, nI m)) := by
        rw [List.drop_zero, List.flatMap_cons, List.flatMap_nil, List.append_nil]
        unfold sucL MM
        simp
      rw [ex] at ha
      obtain ⟨E, h1, h2, h3⟩ := addL_spec _ _ _ ha
      have ed : L.drop 1 = E := by rw [h1]; rfl
      rw [ed]
      have hs : ((MM tn pt lf t0).map (fun m => (bh tn t0 m, nI m))).Pairwise leI := by
        refine List.pairwise_map.mpr (MM_sorted.imp_of_mem (fun {a b} ha hb hab => ?_))
        have := MM_lt ha
        have := MM_lt hb
        show cl (nI a) ≤ cl (nI b)
        rw [cl_I (by omega), cl_I (by omega)]
        omega
      refine ⟨fun x hx => ?_, hs.sublist h2⟩
      obtain ⟨q1, x1, x2, q2, q3⟩ := h3 x hx
      have hxm : x ∈ (MM tn pt lf t0).map (fun m => (bh tn t0 m, nI m)) := by rw [q2]; simp
      obtain ⟨m, hm, rfl⟩ := List.mem_map.mp hxm
      refine ⟨m, hm, rfl, rfl, fun m' hm' hlt hr => ?_⟩
      have hr : bh tn t0 m' = bh tn t0 m := hr
      have hm2 : (bh tn t0 m', nI m') ∈ (MM tn pt lf t0).map (fun m => (bh tn t0 m, nI m)) := List.mem_map.mpr ⟨m', hm', rfl⟩
      have l1 := MM_lt hm
      have l2 := MM_lt hm'
      rw [q2] at hm2
      rcases List.mem_append.mp hm2 with h4 | h4
      · exact q3 (List.mem_map.mpr ⟨_, h4, hr⟩)
      · rcases List.mem_cons.mp h4 with h5 | h5
        · injection h5 with _ h6
          have := nI_inj h6 (by omega) (by omega)
          omega
        · have := pw_mid hs q2 h5
          unfold leI at this
          rw [cl_I (by omega), cl_I (by omega)] at this
          omega
  | succ k ih =>
    intro L fr h
    rw [lvlL] at h
    cases hl : lvlL tn pt lf t0 (k + 1) with
    | none => rw [hl] at h; cases h
    | some q =>
      obtain ⟨L0, f0⟩ := q
      rw [hl] at h
      replace h : (match addL L0 ((L0.drop f0).flatMap (sucL tn pt lf)) with | none => none | some s' => some (s', L0.length)) = some (L, fr) := h
      cases ha : addL L0 ((L0.drop f0).flatMap (sucL tn pt lf)) with
      | none => rw [ha] at h; cases h
      | some L2 =>
        rw [ha] at h
        cases h
        obtain ⟨i1, i2⟩ := ih L0 f0 hl
        have hI := lvl_I (k + 1) _ _ (lvl_of hl)
        obtain ⟨E, h1, h2, h3⟩ := addL_spec _ _ _ ha
        have ed : L.drop L0.length = E := by rw [h1, List.drop_append_of_le_length (Nat.le_refl _), List.drop_length, List.nil_append]
        rw [ed]
        -- every successor of one of the front has its mark
        have lab : ∀ u x, u ∈ L0.drop f0 → x ∈ sucL tn pt lf u → x.2 = u.2 ∧ x.1 ∈ SUC tn pt lf u.1 := by
          intro u x hu hx
          obtain ⟨m, hm, e, _⟩ := i1 u hu
          have hne : ¬ u.2 = -1 := by rw [e, nI_neg1 (by have := MM_lt hm; omega)]; exact fun h => h
          unfold sucL at hx
          obtain ⟨m', hm', rfl⟩ := List.mem_map.mp hx
          exact ⟨if_neg hne, List.mem_map.mpr ⟨m', hm', rfl⟩⟩
        have hs : ((L0.drop f0).flatMap (sucL tn pt lf)).Pairwise leI := by
          have : ∀ l : List (Int64 × Int32), (∀ u, u ∈ l → u ∈ L0.drop f0) → l.Pairwise leI → (l.flatMap (sucL tn pt lf)).Pairwise leI := by
            intro l
            induction l with
            | nil => intro _ _; exact List.Pairwise.nil
            | cons u l ihl =>
              intro hsub hp
              rw [List.flatMap_cons, List.pairwise_append]
              have hp := List.pairwise_cons.mp hp
              refine ⟨?_, ihl (fun v hv => hsub v (List.mem_cons_of_mem _ hv)) hp.2, fun x hx y hy => ?_⟩
              · refine List.pairwise_of_forall_mem_list (fun x hx y hy => ?_)
                unfold leI
                rw [(lab u x (hsub u (by simp)) hx).1, (lab u y (hsub u (by simp)) hy).1]
                exact Nat.le_refl _
              · obtain ⟨w, hw, hy⟩ := List.mem_flatMap.mp hy
                unfold leI
                rw [(lab u x (hsub u (by simp)) hx).1, (lab w y (hsub w (List.mem_cons_of_mem _ hw)) hy).1]
                exact hp.1 w hw
          exact this _ (fun u hu => hu) i2
        refine ⟨fun x hx => ?_, hs.sublist h2⟩
        obtain ⟨q1, x1, x2, q2, q3⟩ := h3 x hx
        have hxm : x ∈ (L0.drop f0).flatMap (sucL tn pt lf) := by rw [q2]; simp
        obtain ⟨u, hu, hxu⟩ := List.mem_flatMap.mp hxm
        obtain ⟨e1, e2⟩ := lab u x hu hxu
        obtain ⟨m, hm, em, hr, hmin⟩ := i1 u hu
        have hnot : ¬ RK tn pt lf (k + 1) t0 x.1 := fun h => q1 ((hI.2.2.2.1 x.1).mpr h)
        have l1 := MM_lt hm
        refine ⟨m, hm, e1.trans em, Or.inr ⟨u.1, hr, e2⟩, fun m' hm' hlt hr' => ?_⟩
        have l2 := MM_lt hm'
        rcases hr' with hr' | ⟨w, hw1, hw2⟩
        · exact hnot (RK_left (MM_suc hm') k x.1 hr')
        · have hwk : RK tn pt lf (k + 1) t0 w := RK_left (MM_suc hm') k w hw1
          have hwn : ¬ RK tn pt lf k t0 w := fun h => hnot (Or.inr ⟨w, h, hw2⟩)
          have hwm := (hI.2.2.2.1 w).mpr hwk
          have hwd : w ∈ (L0.map Prod.fst).drop f0 := by
            rw [← List.take_append_drop f0 (L0.map Prod.fst)] at hwm
            rcases List.mem_append.mp hwm with h | h
            · obtain ⟨j, hj, hjr⟩ := hI.2.2.2.2.2.2 w h
              exact absurd (RK_mono k j (by omega) hjr) hwn
            · exact h
          rw [← List.map_drop] at hwd
          obtain ⟨y, hy, rfl⟩ := List.mem_map.mp hwd
          obtain ⟨mw, hmw, ew, _, hminw⟩ := i1 y hy
          have l3 := MM_lt hmw
          have hle : ¬ m' < mw := fun h => hminw m' hm' h hw1
          -- so it stood ahead
          have hz : ∃ z, z ∈ (L0.drop f0).flatMap (sucL tn pt lf) ∧ z.1 = x.1 ∧ z.2 = nI mw := by
            obtain ⟨mz, hmz, ez⟩ := List.mem_map.mp hw2
            refine ⟨(bh tn y.1 mz, if y.2 = -1 then nI mz else y.2), List.mem_flatMap.mpr ⟨y, hy, List.mem_map.mpr ⟨mz, hmz, rfl⟩⟩, ez, ?_⟩
            have hne : ¬ y.2 = -1 := by rw [ew, nI_neg1 (by omega)]; exact fun h => h
            show (if y.2 = -1 then nI mz else y.2) = _
            rw [if_neg hne, ew]
          obtain ⟨z, hz1, hz2, hz3⟩ := hz
          rw [q2] at hz1
          rcases List.mem_append.mp hz1 with h4 | h4
          · exact q3 (List.mem_map.mpr ⟨z, h4, hz2⟩)
          · rcases List.mem_cons.mp h4 with h5 | h5
            · rw [h5, e1, em] at hz3
              have := nI_inj hz3 (by omega) (by omega)
              omega
            · have := pw_mid hs q2 h5
              unfold leI at this
              rw [e1, em, hz3, cl_I (by omega), cl_I (by omega)] at this
              omega
end NEXT2
