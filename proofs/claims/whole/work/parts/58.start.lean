/-! what holds at the law's entry -/
theorem nest_in : ∀ q ∈ nestF, Cond.fieldLinkNest q.1 q.2.1 q.2.2.1 q.2.2.2.1 q.2.2.2.2.1 q.2.2.2.2.2 ∈ lw_tbl := by decide +kernel
theorem str_in : ∀ q ∈ strE, Cond.stringRef q.1 q.2.1 q.2.2 ∈ lw_tbl := by decide +kernel
theorem decl_in : ∀ y ∈ declL, Cond.declares y ∈ lw_tbl := by decide +kernel
theorem cast_in : ∀ q ∈ castL, Cond.castable q.1 q.2 ∈ lw_tbl := by decide +kernel
abbrev stT (i : Nat) : Term := .string (strE.getD i ("", 0, "")).1 (strE.getD i ("", 0, "")).2.1
abbrev stV (i : Nat) : Term := .field (stT i) "java/lang/String" "value" "[B"
theorem st_ex : ∀ i ∈ List.range 23, Cond.exactly (stT i) "java/lang/String" ∈ flatC (Jvm.Cond.and given_1 narrow_1) := by decide +kernel
theorem st_co : ∀ i ∈ List.range 23, Cond.eq (.field (stT i) "java/lang/String" "coder" "B") (.int 0) ∈ flatC (Jvm.Cond.and given_1 narrow_1) := by decide +kernel
theorem st_ar : ∀ i ∈ List.range 23, Cond.arrayOf (stV i) .byte ∈ flatC (Jvm.Cond.and given_1 narrow_1) := by decide +kernel
theorem st_le : ∀ i ∈ List.range 23, Cond.eq (.length (stV i)) (.int (Int32.ofNat (byL.getD i []).length)) ∈ flatC (Jvm.Cond.and given_1 narrow_1) := by decide +kernel
theorem st_el : ∀ i ∈ List.range 23, ∀ j ∈ List.range (byL.getD i []).length, Cond.eq (.elem (stV i) (.int (Int32.ofNat j))) (.int ((byL.getD i []).getD j 0)) ∈ flatC (Jvm.Cond.and given_1 narrow_1) := by decide +kernel
theorem st_sz : ∀ i ∈ List.range 23, (byL.getD i []).length < 2 ^ 31 := by decide +kernel
theorem of_of {args : Array Value} {s : State} {t : Term} {a : Nat} {o n d : String} {v : Value} {A : Nat → Prop} (ht : t.eval args s none [] s = some (.ref a)) (hv : (Term.field t o n d).eval args s none [] s = some v) (hA : ∀ a : Nat, a < s.heap.size → ¬ A a) : va_OF o n d v a A s s.heap := by
  cases hfo : s.fieldFound? o n d with
  | none =>
    rw [va_fe ht] at hv
    simp [State.fieldOf?, State.fieldNamed?, hfo] at hv
  | some x =>
    obtain ⟨cf, k, fi, f⟩ := x
    obtain ⟨g1, cell, g2, g3, -, -, g6⟩ := Term.field_spec hfo ht hv
    exact ⟨cf, k, fi, f, cell, hfo, g1, g2, g3, g6, hA _ (Array.getElem?_eq_some_iff.mp g2).1⟩
/-- one constant text -/
theorem st_one {args : Array Value} {s : State} {A : Nat → Prop} (hn : ∀ w ∈ flatC (Jvm.Cond.and given_1 narrow_1), w.before args s = true) (hA : ∀ a : Nat, a < s.heap.size → ¬ A a) {i : Nat} (hi : i ∈ List.range 23) : ∃ q : Nat × Nat, (stT i).eval args s none [] s = some (.ref q.1) ∧ va_O "java/lang/String" q.1 A s s.heap ∧ va_OF "java/lang/String" "coder" "B" (.int 0) q.1 A s s.heap ∧ va_OF "java/lang/String" "value" "[B" (.ref q.2) q.1 A s s.heap ∧ va_T .byte q.2 (byL.getD i []).length (fun j => .int ((byL.getD i []).getD j 0)) A s s.heap := by
  obtain ⟨a, c, cell, k, q1, -⟩ := Cond.exactly_spec (hn _ (st_ex i hi))
  obtain ⟨t, ht, hT⟩ := va_Tof (A := A) (f := fun j => .int ((byL.getD i []).getD j 0)) (st_sz i hi) (hn _ (st_ar i hi)) (va_eqt (hn _ (st_le i hi))) (fun j hj => va_eqt (hn _ (st_el i hi j (List.mem_range.mpr hj)))) hA
  exact ⟨(a, t), q1, va_Oof (hn _ (st_ex i hi)) q1 hA, of_of q1 (va_eqt (hn _ (st_co i hi))) hA, of_of q1 ht hA, hT⟩
theorem arr_of {args : Array Value} {s : State} {ty : FieldType} (h : (Cond.arrayClass ty).before args s = true) : ∃ c : ClassId, ArrOfT s c ty ∧ s.vm.findClass ("[" ++ ty.toString) = some c := by
  obtain ⟨c, k, comp, h1, h2, h3⟩ := Cond.arrayClass_spec h
  exact ⟨c, fun n z => ⟨fun k h => (by cases h), k, h2, comp, h3⟩, h1⟩
theorem x_inst11 : Cond.instantiable RX11 12 ∈ tblG := tgm (in_t1 _ (List.mem_of_getElem? (i := 27) rfl)) rfl
theorem x_inst13 : Cond.instantiable RX13 41 ∈ tblG := tgm (in_t7 _ (List.mem_of_getElem? (i := 0) rfl)) rfl
theorem x_over4 : Cond.arrayOver (.object "HandKnot$Moment") ∈ lw_tbl := in_t2 _ (List.mem_of_getElem? (i := 133) rfl)
theorem x_over5 : Cond.arrayOver (.array .int) ∈ lw_tbl := in_t3 _ (List.mem_of_getElem? (i := 25) rfl)
theorem x_mln : Cond.methodLinkNest "HandKnotModel" 306 ⟨"HandKnotModel$Tangle", "<init>", "()V"⟩ "HandKnotModel" ∈ lw_tbl := in_t7 _ (List.mem_of_getElem? (i := 147) rfl)
theorem x_cs : Cond.laysStatic "java/lang/String" "COMPACT_STRINGS" "Z" ∈ lw_tbl := in_t1 _ (List.mem_of_getElem? (i := 59) rfl)
theorem x_str : Cond.initialized "java/lang/String" ∈ lw_tbl := in_t1 _ (List.mem_of_getElem? (i := 4) rfl)
theorem x_sf : Cond.laysStatic "jdk/internal/util/Preconditions" "SIOOBE_FORMATTER" "Ljava/util/function/BiFunction;" ∈ lw_tbl := in_t1 _ (List.mem_of_getElem? (i := 75) rfl)
theorem x_pre : Cond.initialized "jdk/internal/util/Preconditions" ∈ lw_tbl := by decide +kernel
theorem x_thr : Cond.initialized Bundle.tN ∈ lw_tbl := in_t1 _ (List.mem_of_getElem? (i := 22) rfl)
theorem x_us : Cond.laysStatic Bundle.tN "UNASSIGNED_STACK" Bundle.steD ∈ lw_tbl := in_t6 _ (List.mem_of_getElem? (i := 201) rfl)
theorem x_ss : Cond.laysStatic Bundle.tN "SUPPRESSED_SENTINEL" Bundle.listD ∈ lw_tbl := in_t6 _ (List.mem_of_getElem? (i := 203) rfl)
theorem n_cs : Cond.eq (.static "java/lang/String" "COMPACT_STRINGS" "Z") (.int 1) ∈ flatC (Jvm.Cond.and given_1 narrow_1) := by decide +kernel
theorem n_sf : Cond.isRef (.static "jdk/internal/util/Preconditions" "SIOOBE_FORMATTER" "Ljava/util/function/BiFunction;") ∈ flatC (Jvm.Cond.and given_1 narrow_1) := by decide +kernel
theorem n_us : Cond.isRef (.static Bundle.tN "UNASSIGNED_STACK" Bundle.steD) ∈ flatC (Jvm.Cond.and given_1 narrow_1) := by decide +kernel
theorem n_ss : Cond.isRef (.static Bundle.tN "SUPPRESSED_SENTINEL" Bundle.listD) ∈ flatC (Jvm.Cond.and given_1 narrow_1) := by decide +kernel
theorem start_K {s : State} {args : Array Value} (ht : ∀ w ∈ lw_tbl, w.before args s = true) : ∃ (D : va_G) (cA : Nat → ClassId), ∀ f h : Nat → Nat, va_K D vwCl (tyL ((D, f, h), cA)) s := by
  have hG : ∀ w ∈ tblG, w.before args s = true := fun w hw => ht w (List.mem_filter.mp hw).1
  obtain ⟨c0, i0, k0⟩ := u_known hG inG0 (hG _ x_532)
  obtain ⟨c1, i1, k1⟩ := u_known hG inG1 (hG _ x_661)
  obtain ⟨c2, i2, k2⟩ := u_known hG inG2 (hG _ x_637)
  obtain ⟨c3, i3, k3⟩ := u_known hG inG3 (hG _ x_505)
  obtain ⟨c4, i4, k4⟩ := u_known hG inG4 (hG _ x_475)
  obtain ⟨c5, i5, k5⟩ := u_known hG inG5 (hG _ x_173)
  obtain ⟨c6, i6, k6⟩ := u_known hG inG6 (hG _ x_379)
  obtain ⟨c7, i7, k7⟩ := u_known hG inG7 (hG _ x_589)
  obtain ⟨c8, i8, k8⟩ := u_known hG inG8 (hG _ x_179)
  obtain ⟨c9, i9, k9⟩ := u_known hG inG9 (hG _ x_284)
  obtain ⟨c10, i10, k10⟩ := u_known hG inG10 (hG _ x_622)
  obtain ⟨c11, i11, k11⟩ := u_known hG inG11 (hG _ x_inst11)
  obtain ⟨c12, i12, k12⟩ := u_known hG inG12 (hG _ x_1724)
  obtain ⟨c13, i13, k13⟩ := u_known hG inG13 (hG _ x_inst13)
  obtain ⟨a0, b0, d0⟩ := arr_of (hG _ w_280)
  obtain ⟨a1, b1, d1⟩ := arr_of (hG _ w_281)
  obtain ⟨a2, b2, d2⟩ := arr_of (hG _ w_473)
  obtain ⟨a3, b3, d3⟩ := arr_of (hG _ w_282)
  obtain ⟨comp4, a4, kA4, e1, -, e3, e4, e5⟩ := Cond.arrayOver_spec (ht _ x_over4)
  obtain ⟨comp5, a5, kA5, f3, -, f1, f2, f4⟩ := arrayOverA_spec (ht _ x_over5)
  refine ⟨(fun k => [c0, c1, c2, c3, c4, c5, c6, c7, c8, c9, c10, c11, c12, c13].getD k c0, fun k => [i0, i1, i2, i3, i4, i5, i6, i7, i8, i9, i10, i11, i12, i13].getD k i0), fun k => [a0, a1, a2, a3, a4, a5].getD k a0, fun f h => ⟨fun k q hq => ?_, fun k q hq => ?_⟩⟩
  · match k, hq with
    | 0, hq => cases hq; exact k0
    | 1, hq => cases hq; exact k1
    | 2, hq => cases hq; exact k2
    | 3, hq => cases hq; exact k3
    | 4, hq => cases hq; exact k4
    | 5, hq => cases hq; exact k5
    | 6, hq => cases hq; exact k6
    | 7, hq => cases hq; exact k7
    | 8, hq => cases hq; exact k8
    | 9, hq => cases hq; exact k9
    | 10, hq => cases hq; exact k10
    | 11, hq => cases hq; exact k11
    | 12, hq => cases hq; exact k12
    | 13, hq => cases hq; exact k13
    | k + 14, hq => simp [vwCl] at hq
  · match k, hq with
    | 0, hq => cases hq; exact ⟨b0, d0⟩
    | 1, hq => cases hq; exact ⟨b1, d1⟩
    | 2, hq => cases hq; exact ⟨b2, d2⟩
    | 3, hq => cases hq; exact ⟨b3, d3⟩
    | 4, hq => cases hq; exact ⟨fun n z => ⟨fun k h => (by cases h), kA4, e3, comp4, e4⟩, kA4, comp4, e3, e4, e1, e5⟩
    | 5, hq => cases hq; exact ⟨fun n z => ⟨fun k h => (by cases h), kA5, f1, comp5, f2⟩, f4⟩
    | k + 6, hq => simp [tyL] at hq
theorem start_G {p : Program} {s : State} {m : MethodId} {meth : Method} {c : Code} {b L : Nat} {xs : Nat → Int32} (C0 : lw_At p s m meth c b L xs) : ∃ g : GT, In g (Ah s) s.heap s [] s.heap [] := by
  obtain ⟨hx, hb, hr, hml, hown, hts, hX, hbl, hlocks, hgv⟩ := C0
  have hn := flat_of_before _ hgv
  have hA : ∀ a : Nat, a < s.heap.size → ¬ Ah s a := fun a h => Nat.not_le.mpr h
  obtain ⟨D, cA, hK⟩ := start_K hts
  have h0 : ∀ i : Nat, ∃ q : Nat × Nat, i ∈ List.range 23 → (stT i).eval #[.ref b] s none [] s = some (.ref q.1) ∧ va_O "java/lang/String" q.1 (Ah s) s s.heap ∧ va_OF "java/lang/String" "coder" "B" (.int 0) q.1 (Ah s) s s.heap ∧ va_OF "java/lang/String" "value" "[B" (.ref q.2) q.1 (Ah s) s s.heap ∧ va_T .byte q.2 (byL.getD i []).length (fun j => .int ((byL.getD i []).getD j 0)) (Ah s) s s.heap := by
    intro i
    by_cases hi : i ∈ List.range 23
    · obtain ⟨q, hq⟩ := st_one hn hA hi
      exact ⟨q, fun _ => hq⟩
    · exact ⟨(0, 0), fun h => absurd h hi⟩
  obtain ⟨ad, had⟩ := Classical.axiomOfChoice h0
  refine ⟨((D, fun i => (ad i).1, fun i => (ad i).2), cA), ⟨hK _ _, fun q hq => va_Nw.of rfl (hts _ (nest_in q hq)), ?_, ?_, ?_, ?_, ?_, ?_⟩, fun k q h => (by simp at h), ⟨fun i j p q h => (by simp at h), fun k q h => (by simp at h)⟩, va_S.rf, fun q h => h, ?_, ?_, ?_, ?_, ?_⟩
  · exact over_moved (a := #[.ref b]) (Vm.Alike.refl s.vm) (hts _ x_over5)
  · exact va_AO.of (hts _ x_over4)
  · intro i q hq
    have hi : i ∈ List.range 23 := List.mem_range.mpr (List.getElem?_eq_some_iff.mp hq).1
    have e : strE.getD i ("", 0, "") = q := by rw [List.getD_eq_getElem?_getD, hq]; rfl
    have h1 := (had i hi).1
    rw [stT, e] at h1
    exact vk_R.of (A := #[.ref b]) (hts _ (str_in q (List.mem_of_getElem? hq))) h1
  · exact fun y hy => va_Nw.of rfl (hts _ (decl_in y hy))
  · exact fun q hq => va_Nw.of rfl (hts _ (cast_in q hq))
  · exact va_Nw.of rfl (hts _ x_mln)
  · intro i hi
    obtain ⟨-, g1, g2, g3, g4⟩ := had i (List.mem_range.mpr hi)
    exact ⟨g1, g2, g3, g4⟩
  · exact va_Zof (hts _ x_cs) (hts _ x_str) (va_eqt (hn _ n_cs)) hA
  · exact va_Zqof (hts _ x_sf) (hts _ x_pre) (hn _ n_sf) hA
  · exact vx_Zqof (hts _ x_us) (hts _ x_thr) (hn _ n_us) hA
  · exact vx_Zqof (hts _ x_ss) (hts _ x_thr) (hn _ n_ss) hA
