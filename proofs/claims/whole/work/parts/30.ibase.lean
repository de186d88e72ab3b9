/-! constructors: what is made lies behind new addresses -/
def CN (l : Launch) (y : MethodName) (cc : ByteArray) (n : Nat) (rm : Room) (g : GT) (av : List Value) (ws : va_W) (h : Nat) (mk : (Nat → Nat → Nat) → va_W) : Prop :=
  ∀ sz : Nat, Met l y (Wl y cc n none) rm (va_Pc av (CPre g ws sz)) (va_Qv (fun B : Nat → Nat → Nat => B 0 0 = h) (fun B t => CB g ws (mk B) sz t) (va_A ws sz)) rm.cells rm.slots (va_A ws sz)
theorem w_oiM : Cond.instanceMethod Lib.objectInit ∈ tblG := tgm (in_t1 _ (List.mem_of_getElem? (i := 32) rfl)) rfl
theorem w_oiC : Cond.code Lib.objectInit ⟨#[0xb1]⟩ 1 none ∈ tblG := tgm (in_t1 _ (List.mem_of_getElem? (i := 33) rfl)) rfl
theorem w_280 : Cond.arrayClass .int ∈ tblG := tgm (in_t1 _ (List.mem_of_getElem? (i := 142) rfl)) rfl
theorem w_281 : Cond.arrayClass .long ∈ tblG := tgm (in_t1 _ (List.mem_of_getElem? (i := 143) rfl)) rfl
theorem w_282 : Cond.arrayClass .byte ∈ tblG := tgm (in_t1 _ (List.mem_of_getElem? (i := 144) rfl)) rfl
theorem w_473 : Cond.arrayClass .boolean ∈ tblG := tgm (in_t2 _ (List.mem_of_getElem? (i := 95) rfl)) rfl
section IB
variable {p : Program} {l : Launch} {e : Env} {R : Room} {s : State} {m : MethodId} {args : Array Value} {below : List Frame} {meth : Method} {c : Code} {H : Heap} {locs : List Loc} {cells slots : Nat} {Q : State → Prop}
variable {cc : ByteArray} {pc n : Nat} {ls : Array Slot} {rest : List Value} {own : String} {g : GT} {A : Nat → Prop} {H0 : Heap} {ws ws' w w' : va_W} {ret : Option FieldType}
theorem end_N {h mc ms : Nat} {mk : (Nat → Nat → Nat) → va_W} (B : Nat → Nat → Nat) (hB : B 0 0 = h) (hQ : Q = MQ below (va_Qv (fun B : Nat → Nat → Nat => B 0 0 = h) (fun B t => CB g ws (mk B) s.heap.size t) (va_A ws s.heap.size)) args s mc ms (va_A ws s.heap.size)) (hA : A = va_A ws s.heap.size) (C : Cx p s m args meth c cc n own none) (hI : In g A s.heap s (mk B) H locs) (hc : Nat.ble cells mc = true) (hs : Nat.ble slots ms = true) (hd : decode cc pc = .ok (.return_, 1)) : W p l e R s m args below meth c H locs cells slots Q (F0 m pc ls []) := by
  subst hA hQ
  refine W.widen (k := mc) (n := ms) (Nat.le_of_ble_eq_true hc) (Nat.le_of_ble_eq_true hs) ?_
  exact W.vret C.1 C.2.1 C.2.2.2.2.2.1 (fun t ht hW => ⟨⟨B, rfl, hB, by rw [ht]; exact hI.2.1, hI.2.2.1⟩, hI.2.2.2.1.F ht⟩) hI.2.2.2.1.2.2 hd C.2.2.2.2.2.2
theorem oi {idx a : Nat} {lv : List (Nat × Value)} (X : Cx p s m args meth c cc n own ret) (hl : lv_has ls n lv) (hk : Cond.methodLink own idx Lib.objectInit ∈ tblG) (hd : decode cc pc = .ok (.invokespecial idx, 3)) (hf : Nat.ble 1 R.frames = true) (hlo : Nat.ble ((rest.map fun v => v.category).sum + 12) R.locals = true)
    (kk : W p l e R s m args below meth c H locs cells slots Q (F0 m (pc + 3) ls rest)) : W p l e R s m args below meth c H locs cells slots Q (F0 m pc ls (.ref a :: rest)) := by
  refine W.objInit X.1 X.2.1 X.2.2.2.1 (X.2.2.2.2.1 _ hk) (X.2.2.2.2.1 _ w_oiM) (X.2.2.2.2.1 _ w_oiC) rfl (by rw [X.2.2.1]; exact hl.1) rfl hd (Nat.le_of_ble_eq_true hf) ?_ kk
  have h0 : 2 * (F0 m pc ls (.ref a :: rest)).monitorRoom = 0 := rfl
  rw [h0, Nat.zero_add]
  exact Nat.le_of_ble_eq_true hlo
theorem new_I {i : Int32} {N : Nat} (X : Cx p s m args meth c cc n own ret) (hI : In g A H0 s ws H locs) (hn : ¬ i < 0) (hN : i.toNatClampNeg = N) (hb : Nat.ble (N * 4) 536870912 = true) (hc : Nat.ble (cells + 1) R.cells = true) (hs : Nat.ble (slots + N) R.slots = true) (hd : decode cc pc = .ok (.newarray .int, 2))
    (kk : ∀ (q : Nat) (H1 : Heap), In g A H0 s (ws ++ [(q, .inl (g.2 0, N, .inl (fun _ => 0)))]) H1 locs → W p l e R s m args below meth c H1 locs (cells + 1) (slots + N) Q (F0 m (pc + 2) ls (.ref q :: rest))) : W p l e R s m args below meth c H locs cells slots Q (F0 m pc ls (.int i :: rest)) := by
  refine va_newa (atype := .int) (ty := .int) (a0 := (N, .inl (fun _ => 0))) X.1 X.2.1 (X.2.2.2.2.1 _ w_280) rfl hI.1.1 hI.2.1 hI.2.2.1 hI.2.2.2.1 hI.2.2.2.2.1 (fun cA => rfl) hn hN (Nat.le_of_ble_eq_true hb) (Nat.le_of_ble_eq_true hc) (Nat.le_of_ble_eq_true hs) hd (fun q cA H1 hK1 h1 h2 h3 => ?_)
  have e : cA = g.2 0 := Option.some.inj ((hK1.2 6 (cA, .int) rfl).2.symm.trans (hI.1.1.2 0 _ (show (tyL g)[0]? = some (g.2 0, .int) from rfl)).2)
  subst e
  exact kk q H1 ⟨hI.1, h1, h2, h3, hI.2.2.2.2⟩
theorem new_J {i : Int32} {N : Nat} (X : Cx p s m args meth c cc n own ret) (hI : In g A H0 s ws H locs) (hn : ¬ i < 0) (hN : i.toNatClampNeg = N) (hb : Nat.ble (N * 8) 536870912 = true) (hc : Nat.ble (cells + 1) R.cells = true) (hs : Nat.ble (slots + N) R.slots = true) (hd : decode cc pc = .ok (.newarray .long, 2))
    (kk : ∀ (q : Nat) (H1 : Heap), In g A H0 s (ws ++ [(q, .inl (g.2 1, N, .inr (.inl (fun _ => 0))))]) H1 locs → W p l e R s m args below meth c H1 locs (cells + 1) (slots + N) Q (F0 m (pc + 2) ls (.ref q :: rest))) : W p l e R s m args below meth c H locs cells slots Q (F0 m pc ls (.int i :: rest)) := by
  refine va_newa (atype := .long) (ty := .long) (a0 := (N, .inr (.inl (fun _ => 0)))) X.1 X.2.1 (X.2.2.2.2.1 _ w_281) rfl hI.1.1 hI.2.1 hI.2.2.1 hI.2.2.2.1 hI.2.2.2.2.1 (fun cA => rfl) hn hN (Nat.le_of_ble_eq_true hb) (Nat.le_of_ble_eq_true hc) (Nat.le_of_ble_eq_true hs) hd (fun q cA H1 hK1 h1 h2 h3 => ?_)
  have e : cA = g.2 1 := Option.some.inj ((hK1.2 6 (cA, .long) rfl).2.symm.trans (hI.1.1.2 1 _ (show (tyL g)[1]? = some (g.2 1, .long) from rfl)).2)
  subst e
  exact kk q H1 ⟨hI.1, h1, h2, h3, hI.2.2.2.2⟩
theorem new_Z {i : Int32} {N : Nat} (X : Cx p s m args meth c cc n own ret) (hI : In g A H0 s ws H locs) (hn : ¬ i < 0) (hN : i.toNatClampNeg = N) (hb : Nat.ble (N * 1) 536870912 = true) (hc : Nat.ble (cells + 1) R.cells = true) (hs : Nat.ble (slots + N) R.slots = true) (hd : decode cc pc = .ok (.newarray .boolean, 2))
    (kk : ∀ (q : Nat) (H1 : Heap), In g A H0 s (ws ++ [(q, .inl (g.2 2, N, .inl (fun _ => 0)))]) H1 locs → W p l e R s m args below meth c H1 locs (cells + 1) (slots + N) Q (F0 m (pc + 2) ls (.ref q :: rest))) : W p l e R s m args below meth c H locs cells slots Q (F0 m pc ls (.int i :: rest)) := by
  refine va_newa (atype := .boolean) (ty := .boolean) (a0 := (N, .inl (fun _ => 0))) X.1 X.2.1 (X.2.2.2.2.1 _ w_473) rfl hI.1.1 hI.2.1 hI.2.2.1 hI.2.2.2.1 hI.2.2.2.2.1 (fun cA => rfl) hn hN (Nat.le_of_ble_eq_true hb) (Nat.le_of_ble_eq_true hc) (Nat.le_of_ble_eq_true hs) hd (fun q cA H1 hK1 h1 h2 h3 => ?_)
  have e : cA = g.2 2 := Option.some.inj ((hK1.2 6 (cA, .boolean) rfl).2.symm.trans (hI.1.1.2 2 _ (show (tyL g)[2]? = some (g.2 2, .boolean) from rfl)).2)
  subst e
  exact kk q H1 ⟨hI.1, h1, h2, h3, hI.2.2.2.2⟩
theorem new_B {i : Int32} {N : Nat} (X : Cx p s m args meth c cc n own ret) (hI : In g A H0 s ws H locs) (hn : ¬ i < 0) (hN : i.toNatClampNeg = N) (hb : Nat.ble (N * 1) 536870912 = true) (hc : Nat.ble (cells + 1) R.cells = true) (hs : Nat.ble (slots + N) R.slots = true) (hd : decode cc pc = .ok (.newarray .byte, 2))
    (kk : ∀ (q : Nat) (H1 : Heap), In g A H0 s (ws ++ [(q, .inl (g.2 3, N, .inl (fun _ => 0)))]) H1 locs → W p l e R s m args below meth c H1 locs (cells + 1) (slots + N) Q (F0 m (pc + 2) ls (.ref q :: rest))) : W p l e R s m args below meth c H locs cells slots Q (F0 m pc ls (.int i :: rest)) := by
  refine va_newa (atype := .byte) (ty := .byte) (a0 := (N, .inl (fun _ => 0))) X.1 X.2.1 (X.2.2.2.2.1 _ w_282) rfl hI.1.1 hI.2.1 hI.2.2.1 hI.2.2.2.1 hI.2.2.2.2.1 (fun cA => rfl) hn hN (Nat.le_of_ble_eq_true hb) (Nat.le_of_ble_eq_true hc) (Nat.le_of_ble_eq_true hs) hd (fun q cA H1 hK1 h1 h2 h3 => ?_)
  have e : cA = g.2 3 := Option.some.inj ((hK1.2 6 (cA, .byte) rfl).2.symm.trans (hI.1.1.2 3 _ (show (tyL g)[3]? = some (g.2 3, .byte) from rfl)).2)
  subst e
  exact kk q H1 ⟨hI.1, h1, h2, h3, hI.2.2.2.2⟩
theorem putF_f {ci k N idx a : Nat} {T : u_T} {Cn : String} {v : Value} {fs fs' : List Value} {ty0 : Nat → FieldType} {ty : FieldType} (X : Cx p s m args meth c cc n own ret) (hI : In g A H0 s ws H locs) (hm : Ups ws ws' (a, .inr (ci, fs)) (a, .inr (ci, fs'))) (hin : ∀ w ∈ u_ws Cn T N, w ∈ tblG) (hty : ∀ k, k < N → parseFieldDescriptor (T k).2.2.1 = some (ty0 k)) (hnm : ∀ a, a < N → ∀ b, b < N → a ≠ b → (T a).2.1 ≠ (T b).2.1) (hc : vwCl[ci]? = some (Cn, T, N)) (hk : Nat.blt k N = true) (hl : Cond.fieldLink own idx (T k).1 (T k).2.1 (T k).2.2.1 ∈ tblG) (hfin : (T k).2.2.2 = true) (hin2 : meth.name = "<init>") (hdecl : (T k).1 = own) (hdk : parseFieldDescriptor (T k).2.2.1 = some ty) (hn : narrow ty v = v) (hfit : fits ty v = true) (hln : Nat.blt k fs.length = true) (hfs : fs.set k v = fs') (hd : decode cc pc = .ok (.putfield idx, 3))
    (kk : ∀ (H1 : Heap) (locs1 : List Loc), In g A H0 s ws' H1 locs1 → W p l e R s m args below meth c H1 locs1 cells slots Q (F0 m (pc + 3) ls rest)) : W p l e R s m args below meth c H locs cells slots Q (F0 m pc ls (v :: .ref a :: rest)) := by
  obtain ⟨q0, hm, hu⟩ := hm
  have hk : k < N := Nat.le_of_ble_eq_true hk
  have hln : k < fs.length := Nat.le_of_ble_eq_true hln
  subst hfs
  refine va_putF X.1 X.2.1 X.2.2.2.2.1 hin ty0 hty hnm X.2.2.2.1 hI.1.1 hI.2.1 hI.2.2.1 hI.2.2.2.1 q0 hm hc k hk (X.2.2.2.2.1 _ hl) (fun _ h9 => h9) hfin hin2 hdecl hdk hn hfit hln hd (fun H1 locs1 h1 h2 h3 => ?_)
  rw [hu] at h1 h2
  exact kk H1 locs1 ⟨hI.1, h1, h2, h3, hI.2.2.2.2⟩
theorem new_O {ci N idx : Nat} {T : u_T} {Cn : String} {fs : List Value} {ty0 : Nat → FieldType} (X : Cx p s m args meth c cc n own ret) (hI : In g A H0 s ws H locs) (hin : ∀ w ∈ u_ws Cn T N, w ∈ tblG) (hty : ∀ k, k < N → parseFieldDescriptor (T k).2.2.1 = some (ty0 k)) (hc : vwCl[ci]? = some (Cn, T, N)) (hcl : Cond.classLink own idx Cn ∈ tblG) (hinst : Cond.instantiable Cn N ∈ tblG) (hini : Cond.initialized Cn ∈ tblG) (hfs : (List.range N).all (fun j => decide (defaultValue (ty0 j) = vp_V fs j)) = true) (hce : Nat.ble (cells + 1) R.cells = true) (hsl : Nat.ble (slots + N) R.slots = true) (hd : decode cc pc = .ok (.new idx, 3))
    (kk : ∀ (q : Nat) (H1 : Heap), In g A H0 s (ws ++ [(q, .inr (ci, fs))]) H1 locs → W p l e R s m args below meth c H1 locs (cells + 1) (slots + N) Q (F0 m (pc + 3) ls (.ref q :: rest))) : W p l e R s m args below meth c H locs cells slots Q (F0 m pc ls rest) :=
  va_new X.1 X.2.1 X.2.2.2.2.1 hin ty0 hty X.2.2.2.1 (X.2.2.2.2.1 _ hcl) (X.2.2.2.2.1 _ hinst) (X.2.2.2.2.1 _ hini) hI.1.1 hI.2.1 hI.2.2.1 hI.2.2.2.1 hI.2.2.2.2.1 hc (fun j hj => of_decide_eq_true (List.all_eq_true.mp hfs j (List.mem_range.mpr hj))) (Nat.le_of_ble_eq_true hce) (Nat.le_of_ble_eq_true hsl) hd (fun q H1 h1 h2 h3 => kk q H1 ⟨hI.1, h1, h2, h3, hI.2.2.2.2⟩)
theorem In.eq (hI : In g A H0 s ws H locs) (h : ws = ws') : In g A H0 s ws' H locs := h ▸ hI
theorem In.perm (hI : In g A H0 s ws H locs) (h : ws.Perm ws') : In g A H0 s ws' H locs :=
  ⟨hI.1, va_P_mem.mpr (fun q hq => va_P_mem.mp hI.2.1 q (h.mem_iff.mpr hq)), va_D_nd.mpr ⟨(h.map Prod.fst).nodup_iff.mp (va_D_nd.mp hI.2.2.1).1, fun q hq => (va_D_nd.mp hI.2.2.1).2 q (h.mem_iff.mpr hq)⟩, hI.2.2.2⟩
variable {rm : Room} {index k maxL ci a : Nat} {y : MethodName} {bytes : ByteArray} {As : List Value} {st0 : List Value} {lv : List (Nat × Value)} {mk : (Nat → Nat → Nat) → va_W} {f : (Nat → Nat → Nat) → va_W}
theorem call_N (X : Cx p s m args meth c cc n own ret) (hI : In g A H0 s ws H locs) (hj : ∀ B, Cj ws (f B) w (mk B)) (hC : CN l y bytes maxL rm g (.ref a :: As) w a mk) (hk : Lkm s args own index y bytes maxL k none) (hi : Cond.instanceMethod y ∈ tblG) (hy : y.name = "<init>")
    (hn : As.length = k) (hl : lv_has ls n lv) (hst : st0 = As.reverse ++ .ref a :: rest) (hr : Nat.ble ((rest.map fun v => v.category).sum) 8 = true) (hd : decode cc pc = .ok (.invokespecial index, 3)) (hf : Nat.ble (rm.frames + 1) R.frames = true) (hlo : Nat.ble (8 + (maxL + 11) + rm.locals) R.locals = true) (hm : Nat.ble (cells + rm.cells) R.cells = true) (hm2 : Nat.ble (slots + rm.slots) R.slots = true)
    (kk : ∀ (B : Nat → Nat → Nat) (H1 : Heap) (locs1 : List Loc), B 0 0 = a → In g A H0 s (f B) H1 locs1 → W p l e R s m args below meth c H1 locs1 (cells + rm.cells) (slots + rm.slots) Q (F0 m (pc + 3) ls rest)) : W p l e R s m args below meth c H locs cells slots Q (F0 m pc ls st0) := by
  have hj0 := hj (fun _ _ => 0)
  refine va_callv (va_runI ⟨X.1, X.2.1, X.2.2.1, X.2.2.2.1, X.2.2.2.2.1⟩ (hC H.size) ⟨hk.b X.2.2.2.2.1 hf hlo, hy, X.2.2.2.2.1 _ hi⟩ ⟨cpre_blind, fun U hU hW => pre_i hI hj0 hU hW⟩ rfl hn hl.1 hst (lv_room (Nat.le_of_ble_eq_true hr)) hd ⟨Nat.le_of_ble_eq_true hm, Nat.le_of_ble_eq_true hm2⟩) hI.2.2.2.1 (fun q _ h => free_i hI hj0 q h) (free_i hI hj0) (fun B t H1 locs1 ht hvm hw hB hz hk hS => kk B H1 locs1 hw (back_i hI (hj B) ht hB hk hS))
end IB
