theorem bd0_some {β : Type} {x : Option Unit} {K : Option β} {r : β} (h : bd0 x K = some r) : x = some () ∧ K = some r := by
  cases x with
  | none => cases h
  | some a => exact ⟨rfl, h⟩
theorem bd1_some {α β : Type} {x : Option α} {K : α → Option β} {r : β} (h : bd1 x K = some r) : ∃ a, x = some a ∧ K a = some r := by
  cases x with
  | none => cases h
  | some a => exact ⟨a, rfl, h⟩
theorem bd2_some {α γ β : Type} {x : Option (α × γ)} {K : α → γ → Option β} {r : β} (h : bd2 x K = some r) : ∃ a b, x = some (a, b) ∧ K a b = some r := by
  cases x with
  | none => cases h
  | some a => exact ⟨a.1, a.2, rfl, h⟩
theorem bd3_some {α γ δ β : Type} {x : Option (α × γ × δ)} {K : α → γ → δ → Option β} {r : β} (h : bd3 x K = some r) : ∃ a b c, x = some (a, b, c) ∧ K a b c = some r := by
  cases x with
  | none => cases h
  | some a => exact ⟨a.1, a.2.1, a.2.2, rfl, h⟩
theorem bd4_some {α γ δ ε β : Type} {x : Option (α × γ × δ × ε)} {K : α → γ → δ → ε → Option β} {r : β} (h : bd4 x K = some r) : ∃ a b c d, x = some (a, b, c, d) ∧ K a b c d = some r := by
  cases x with
  | none => cases h
  | some a => exact ⟨a.1, a.2.1, a.2.2.1, a.2.2.2, rfl, h⟩
theorem bd0_at {β : Type} {x : Option Unit} {K : Option β} (h : x = some ()) : bd0 x K = K := by rw [h]; rfl
theorem bd1_at {α β : Type} {x : Option α} {K : α → Option β} {a : α} (h : x = some a) : bd1 x K = K a := by rw [h]; rfl
theorem bd2_at {α γ β : Type} {x : Option (α × γ)} {K : α → γ → Option β} {a : α} {b : γ} (h : x = some (a, b)) : bd2 x K = K a b := by rw [h]; rfl
theorem bd3_at {α γ δ β : Type} {x : Option (α × γ × δ)} {K : α → γ → δ → Option β} {a : α} {b : γ} {c : δ} (h : x = some (a, b, c)) : bd3 x K = K a b c := by rw [h]; rfl
theorem bd4_at {α γ δ ε β : Type} {x : Option (α × γ × δ × ε)} {K : α → γ → δ → ε → Option β} {a : α} {b : γ} {c : δ} {d : ε} (h : x = some (a, b, c, d)) : bd4 x K = K a b c d := by rw [h]; rfl
theorem sw_ne {x k : Int32} {j : Int} (h : ¬ x = k) (e : k.toInt = j) : x.toInt ≠ j := fun q => h (Int32.toInt_inj.mp (q.trans e.symm))
theorem Cj.up {ws ws' : va_W} {x x' : Nat × va_E} (h : Ups ws ws' x x') : Cj ws ws' [x] [x'] := by
  obtain ⟨k, h1, h2⟩ := h
  obtain ⟨hk, e⟩ := List.getElem?_eq_some_iff.mp h1
  refine ⟨ws.take k ++ ws.drop (k + 1), ?_, ?_⟩
  · have e1 : ws = ws.take k ++ x :: ws.drop (k + 1) := by
      rw [← e, List.getElem_cons_drop, List.take_append_drop]
    exact (List.Perm.of_eq e1).trans List.perm_middle
  · rw [← h2, List.set_eq_take_append_cons_drop, if_pos hk]
    exact List.perm_middle
theorem Cj.has {ws : va_W} {x : Nat × va_E} (h : Has ws x) : Cj ws ws [x] [x] := by
  obtain ⟨k, h1⟩ := h
  obtain ⟨hk, e⟩ := List.getElem?_eq_some_iff.mp h1
  exact Cj.up ⟨k, h1, by rw [← e, List.set_getElem_self]⟩
theorem start2 {l : Launch} {y : MethodName} {cc : ByteArray} {n : Nat} {ret : Option FieldType} {rm : Room} {g : GT} {av : List Value} {ws : va_W} {Qc : Nat → Array Value → State → Outcome → State → Prop} (hy : plainName y.cls = true) (hn : Nat.ble (lg_sl av).length n = true)
    (k : ∀ (p : Program) (e : Env) (s : State) (m : MethodId) (args : Array Value) (below : List Frame) (meth : Method) (c : Code) (ls : Array Slot) (Q : State → Prop) (A : Nat → Prop), args = av.toArray → Q = MQ below (Qc s.heap.size) args s rm.cells rm.slots (va_A ws s.heap.size) → A = va_A ws s.heap.size → Cx p s m args meth c cc n y.cls ret → lv_has ls n (lv_args 0 av) → In g A s.heap s ws s.heap [] → (y.name = "<init>" → meth.name = "<init>") →
      W p l e rm s m args below meth c s.heap [] 0 0 Q (F0 m 0 ls [])) (sz : Nat) :
    Met l y (Wl y cc n ret) rm (va_Pc av (CPre g ws sz)) (Qc sz) rm.cells rm.slots (va_A ws sz) :=
  start_any hy hn (fun p e s m below meth c ls X hl hI hin => k p e s m _ below meth c ls _ _ rfl rfl rfl X hl hI hin) sz
section WALK3
variable {p : Program} {l : Launch} {e : Env} {R : Room} {s : State} {m : MethodId} {args : Array Value} {below : List Frame} {meth : Method} {c : Code} {H : Heap} {locs : List Loc} {cells slots : Nat} {Q : State → Prop}
variable {cc : ByteArray} {pc n : Nat} {ls : Array Slot} {rest : List Value} {own : String} {g : GT} {A : Nat → Prop} {H0 : Heap} {ws ws' w w' : va_W} {ret : Option FieldType}
theorem end_i {r : Int32} (hQ : Q = MQ below (QI g ws ws' r s.heap.size) args s cells slots (va_A ws s.heap.size)) (hA : A = va_A ws s.heap.size) (C : Cx p s m args meth c cc n own (some .int)) (hI : In g A s.heap s ws' H locs) (hd : decode cc pc = .ok (.ireturn, 1)) : W p l e R s m args below meth c H locs cells slots Q (F0 m pc ls [.int r]) := by
  subst hA hQ
  exact ret_i C hI hd
theorem end_z {r : Int32} (hQ : Q = MQ below (QI g ws ws' r s.heap.size) args s cells slots (va_A ws s.heap.size)) (hA : A = va_A ws s.heap.size) (C : Cx p s m args meth c cc n own (some .boolean)) (hI : In g A s.heap s ws' H locs) (hn : narrow .boolean (.int r) = .int r) (hd : decode cc pc = .ok (.ireturn, 1)) : W p l e R s m args below meth c H locs cells slots Q (F0 m pc ls [.int r]) := by
  subst hA hQ
  exact ret_z C hI hn hd
theorem end_l {r : Int64} (hQ : Q = MQ below (QL g ws ws' r s.heap.size) args s cells slots (va_A ws s.heap.size)) (hA : A = va_A ws s.heap.size) (C : Cx p s m args meth c cc n own (some .long)) (hI : In g A s.heap s ws' H locs) (hd : decode cc pc = .ok (.lreturn, 1)) : W p l e R s m args below meth c H locs cells slots Q (F0 m pc ls [.long r]) := by
  subst hA hQ
  exact ret_l C hI hd
theorem end_v (hQ : Q = MQ below (QV g ws ws' s.heap.size) args s cells slots (va_A ws s.heap.size)) (hA : A = va_A ws s.heap.size) (C : Cx p s m args meth c cc n own none) (hI : In g A s.heap s ws' H locs) (hd : decode cc pc = .ok (.return_, 1)) : W p l e R s m args below meth c H locs cells slots Q (F0 m pc ls []) := by
  subst hA hQ
  exact ret_v C hI hd
variable {rm : Room} {index k maxL ci a : Nat} {y : MethodName} {bytes : ByteArray} {As : List Value} {Cn : String} {T : u_T} {N : Nat} {fs : List Value} {ret' : Option FieldType} {st0 : List Value} {lv : List (Nat × Value)}
theorem call_Vi {r : Int32} (X : Cx p s m args meth c cc n own ret) (hI : In g A H0 s ws H locs) (hj : Cj ws ws' w w') (hC : CI l y bytes maxL ret' rm g (.ref a :: As) w w' r) (hz : rm.cells = 0 ∧ rm.slots = 0) (hk : Lkm s args own index y bytes maxL k ret') (hi : Cond.instanceMethod y ∈ tblG) (hs : Cond.selects Cn y y ∈ tblG) (hw0 : w[0]? = some (a, .inr (ci, fs))) (hc : vwCl[ci]? = some (Cn, T, N))
    (hn : As.length = k) (hl : lv_has ls n lv) (hst : st0 = As.reverse ++ .ref a :: rest) (hr : Nat.ble ((rest.map fun v => v.category).sum) 8 = true) (hd : decode cc pc = .ok (.invokevirtual index, 3)) (hf : Nat.ble (rm.frames + 1) R.frames = true) (hlo : Nat.ble (8 + (maxL + 11) + rm.locals) R.locals = true) (hm : Nat.ble cells R.cells = true) (hm2 : Nat.ble slots R.slots = true)
    (kk : ∀ (H1 : Heap) (locs1 : List Loc), In g A H0 s ws' H1 locs1 → W p l e R s m args below meth c H1 locs1 cells slots Q (F0 m (pc + 3) ls (.int r :: rest))) : W p l e R s m args below meth c H locs cells slots Q (F0 m pc ls st0) := by
  obtain ⟨z1, z2⟩ := hz
  refine go_i hI hj (run_V (S := Unit) X hI hj (hC H.size) hk hi hs hw0 hc hn hl.1 hst hr hd hf hlo (by rw [z1]; exact hm) (by rw [z2]; exact hm2)) (fun H1 locs1 h1 => ?_)
  rw [z1, z2]
  exact kk H1 locs1 h1
theorem call_Vl {r : Int64} (X : Cx p s m args meth c cc n own ret) (hI : In g A H0 s ws H locs) (hj : Cj ws ws' w w') (hC : CL l y bytes maxL ret' rm g (.ref a :: As) w w' r) (hz : rm.cells = 0 ∧ rm.slots = 0) (hk : Lkm s args own index y bytes maxL k ret') (hi : Cond.instanceMethod y ∈ tblG) (hs : Cond.selects Cn y y ∈ tblG) (hw0 : w[0]? = some (a, .inr (ci, fs))) (hc : vwCl[ci]? = some (Cn, T, N))
    (hn : As.length = k) (hl : lv_has ls n lv) (hst : st0 = As.reverse ++ .ref a :: rest) (hr : Nat.ble ((rest.map fun v => v.category).sum) 8 = true) (hd : decode cc pc = .ok (.invokevirtual index, 3)) (hf : Nat.ble (rm.frames + 1) R.frames = true) (hlo : Nat.ble (8 + (maxL + 11) + rm.locals) R.locals = true) (hm : Nat.ble cells R.cells = true) (hm2 : Nat.ble slots R.slots = true)
    (kk : ∀ (H1 : Heap) (locs1 : List Loc), In g A H0 s ws' H1 locs1 → W p l e R s m args below meth c H1 locs1 cells slots Q (F0 m (pc + 3) ls (.long r :: rest))) : W p l e R s m args below meth c H locs cells slots Q (F0 m pc ls st0) := by
  obtain ⟨z1, z2⟩ := hz
  refine go_l hI hj (run_V (S := Unit) X hI hj (hC H.size) hk hi hs hw0 hc hn hl.1 hst hr hd hf hlo (by rw [z1]; exact hm) (by rw [z2]; exact hm2)) (fun H1 locs1 h1 => ?_)
  rw [z1, z2]
  exact kk H1 locs1 h1
theorem call_Vv (X : Cx p s m args meth c cc n own ret) (hI : In g A H0 s ws H locs) (hj : Cj ws ws' w w') (hC : CV l y bytes maxL ret' rm g (.ref a :: As) w w') (hz : rm.cells = 0 ∧ rm.slots = 0) (hk : Lkm s args own index y bytes maxL k ret') (hi : Cond.instanceMethod y ∈ tblG) (hs : Cond.selects Cn y y ∈ tblG) (hw0 : w[0]? = some (a, .inr (ci, fs))) (hc : vwCl[ci]? = some (Cn, T, N))
    (hn : As.length = k) (hl : lv_has ls n lv) (hst : st0 = As.reverse ++ .ref a :: rest) (hr : Nat.ble ((rest.map fun v => v.category).sum) 8 = true) (hd : decode cc pc = .ok (.invokevirtual index, 3)) (hf : Nat.ble (rm.frames + 1) R.frames = true) (hlo : Nat.ble (8 + (maxL + 11) + rm.locals) R.locals = true) (hm : Nat.ble cells R.cells = true) (hm2 : Nat.ble slots R.slots = true)
    (kk : ∀ (H1 : Heap) (locs1 : List Loc), In g A H0 s ws' H1 locs1 → W p l e R s m args below meth c H1 locs1 cells slots Q (F0 m (pc + 3) ls rest)) : W p l e R s m args below meth c H locs cells slots Q (F0 m pc ls st0) := by
  obtain ⟨z1, z2⟩ := hz
  refine go_v hI hj (run_V (S := Unit) X hI hj (hC H.size) hk hi hs hw0 hc hn hl.1 hst hr hd hf hlo (by rw [z1]; exact hm) (by rw [z2]; exact hm2)) (fun H1 locs1 h1 => ?_)
  rw [z1, z2]
  exact kk H1 locs1 h1
theorem call_Si {r : Int32} (X : Cx p s m args meth c cc n own ret) (hI : In g A H0 s ws H locs) (hj : Cj ws ws' w w') (hC : CI l y bytes maxL ret' rm g As w w' r) (hz : rm.cells = 0 ∧ rm.slots = 0) (hk : Lkm s args own index y bytes maxL k ret') (hi : Cond.static y ∈ tblG)
    (hn : As.length = k) (hl : lv_has ls n lv) (hst : st0 = As.reverse ++ rest) (hr : Nat.ble ((rest.map fun v => v.category).sum) 8 = true) (hd : decode cc pc = .ok (.invokestatic index, 3)) (hf : Nat.ble (rm.frames + 1) R.frames = true) (hlo : Nat.ble (8 + (maxL + 11) + rm.locals) R.locals = true) (hm : Nat.ble cells R.cells = true) (hm2 : Nat.ble slots R.slots = true)
    (kk : ∀ (H1 : Heap) (locs1 : List Loc), In g A H0 s ws' H1 locs1 → W p l e R s m args below meth c H1 locs1 cells slots Q (F0 m (pc + 3) ls (.int r :: rest))) : W p l e R s m args below meth c H locs cells slots Q (F0 m pc ls st0) := by
  obtain ⟨z1, z2⟩ := hz
  refine go_i hI hj (run_S (S := Unit) X hI hj (hC H.size) hk hi hn hl.1 hst hr hd hf hlo (by rw [z1]; exact hm) (by rw [z2]; exact hm2)) (fun H1 locs1 h1 => ?_)
  rw [z1, z2]
  exact kk H1 locs1 h1
theorem call_Sl {r : Int64} (X : Cx p s m args meth c cc n own ret) (hI : In g A H0 s ws H locs) (hj : Cj ws ws' w w') (hC : CL l y bytes maxL ret' rm g As w w' r) (hz : rm.cells = 0 ∧ rm.slots = 0) (hk : Lkm s args own index y bytes maxL k ret') (hi : Cond.static y ∈ tblG)
    (hn : As.length = k) (hl : lv_has ls n lv) (hst : st0 = As.reverse ++ rest) (hr : Nat.ble ((rest.map fun v => v.category).sum) 8 = true) (hd : decode cc pc = .ok (.invokestatic index, 3)) (hf : Nat.ble (rm.frames + 1) R.frames = true) (hlo : Nat.ble (8 + (maxL + 11) + rm.locals) R.locals = true) (hm : Nat.ble cells R.cells = true) (hm2 : Nat.ble slots R.slots = true)
    (kk : ∀ (H1 : Heap) (locs1 : List Loc), In g A H0 s ws' H1 locs1 → W p l e R s m args below meth c H1 locs1 cells slots Q (F0 m (pc + 3) ls (.long r :: rest))) : W p l e R s m args below meth c H locs cells slots Q (F0 m pc ls st0) := by
  obtain ⟨z1, z2⟩ := hz
  refine go_l hI hj (run_S (S := Unit) X hI hj (hC H.size) hk hi hn hl.1 hst hr hd hf hlo (by rw [z1]; exact hm) (by rw [z2]; exact hm2)) (fun H1 locs1 h1 => ?_)
  rw [z1, z2]
  exact kk H1 locs1 h1
theorem call_Sv (X : Cx p s m args meth c cc n own ret) (hI : In g A H0 s ws H locs) (hj : Cj ws ws' w w') (hC : CV l y bytes maxL ret' rm g As w w') (hz : rm.cells = 0 ∧ rm.slots = 0) (hk : Lkm s args own index y bytes maxL k ret') (hi : Cond.static y ∈ tblG)
    (hn : As.length = k) (hl : lv_has ls n lv) (hst : st0 = As.reverse ++ rest) (hr : Nat.ble ((rest.map fun v => v.category).sum) 8 = true) (hd : decode cc pc = .ok (.invokestatic index, 3)) (hf : Nat.ble (rm.frames + 1) R.frames = true) (hlo : Nat.ble (8 + (maxL + 11) + rm.locals) R.locals = true) (hm : Nat.ble cells R.cells = true) (hm2 : Nat.ble slots R.slots = true)
    (kk : ∀ (H1 : Heap) (locs1 : List Loc), In g A H0 s ws' H1 locs1 → W p l e R s m args below meth c H1 locs1 cells slots Q (F0 m (pc + 3) ls rest)) : W p l e R s m args below meth c H locs cells slots Q (F0 m pc ls st0) := by
  obtain ⟨z1, z2⟩ := hz
  refine go_v hI hj (run_S (S := Unit) X hI hj (hC H.size) hk hi hn hl.1 hst hr hd hf hlo (by rw [z1]; exact hm) (by rw [z2]; exact hm2)) (fun H1 locs1 h1 => ?_)
  rw [z1, z2]
  exact kk H1 locs1 h1
end WALK3
