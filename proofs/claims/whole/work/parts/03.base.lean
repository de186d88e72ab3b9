def nestF : List (String × Nat × String × String × String × String) := [("HandKnot", 119, "HandKnot$Tape", "filled", "I", "HandKnot"), ("HandKnot$Reader", 64, "HandKnot$Tape", "kinds", "[I", "HandKnot"), ("HandKnot$Reader", 60, "HandKnot$Tape", "starts", "[I", "HandKnot"), ("HandKnot$Reader", 67, "HandKnot$Tape", "values", "[I", "HandKnot"), ("HandKnot$Reader", 160, "HandKnot$Tape", "spellings", "[J", "HandKnot"), ("HandKnot$Reader", 42, "HandKnot$Tape", "count", "I", "HandKnot"), ("HandKnot$Reader", 79, "HandKnot$Told", "begun", "Z", "HandKnot"), ("HandKnot$Rings", 68, "HandKnot$Told", "once", "Z", "HandKnot"), ("HandKnot$Reader", 105, "HandKnot$Told", "once", "Z", "HandKnot"), ("HandKnot$Rings", 64, "HandKnot$Told", "tall", "I", "HandKnot"), ("HandKnot$Reader", 102, "HandKnot$Told", "tall", "I", "HandKnot"), ("HandKnot$Rings", 50, "HandKnot$Told", "people", "I", "HandKnot"), ("HandKnot$Reader", 108, "HandKnot$Told", "people", "I", "HandKnot"), ("HandKnot$Rings", 56, "HandKnot$Told", "links", "I", "HandKnot"), ("HandKnot$Reader", 122, "HandKnot$Told", "links", "I", "HandKnot"), ("HandKnot$Rings", 60, "HandKnot$Told", "crossings", "I", "HandKnot"), ("HandKnot$Reader", 138, "HandKnot$Told", "crossings", "I", "HandKnot"), ("HandKnot$Rings", 131, "HandKnot$Told", "plus", "I", "HandKnot"), ("HandKnot$Rings", 121, "HandKnot$Told", "talls", "[I", "HandKnot"), ("HandKnot$Rings", 109, "HandKnot$Told", "handAt", "[I", "HandKnot"), ("HandKnot$Rings", 80, "HandKnot$Told", "linkIn", "[I", "HandKnot"), ("HandKnot$Rings", 138, "HandKnot$Told", "linkUnder", "[I", "HandKnot"), ("HandKnot$Rings", 135, "HandKnot$Told", "linkOver", "[I", "HandKnot"), ("HandKnot", 105, "HandKnot$Reader", "tape", "LHandKnot$Tape;", "HandKnot"), ("HandKnot", 130, "HandKnot$Reader", "told", "LHandKnot$Told;", "HandKnot"), ("HandKnot", 159, "HandKnot$Reader", "fault", "I", "HandKnot"), ("HandKnot", 162, "HandKnot$Reader", "place", "I", "HandKnot"), ("HandKnot$Within", 75, "HandKnot$Rings", "people", "I", "HandKnot"), ("HandKnot", 85, "HandKnot$Rings", "people", "I", "HandKnot"), ("HandKnot", 88, "HandKnot$Rings", "links", "I", "HandKnot"), ("HandKnot$Colouring", 44, "HandKnot$Rings", "crossings", "I", "HandKnot"), ("HandKnot$Board", 67, "HandKnot$Rings", "crossings", "I", "HandKnot"), ("HandKnot", 94, "HandKnot$Rings", "crossings", "I", "HandKnot"), ("HandKnot$Moment", 28, "HandKnot$Rings", "standings", "I", "HandKnot"), ("HandKnot", 97, "HandKnot$Rings", "standings", "I", "HandKnot"), ("HandKnot", 91, "HandKnot$Rings", "count", "I", "HandKnot"), ("HandKnot$Board", 72, "HandKnot$Rings", "count", "I", "HandKnot"), ("HandKnot", 377, "HandKnot$Rings", "tall", "I", "HandKnot"), ("HandKnot", 380, "HandKnot$Rings", "once", "Z", "HandKnot"), ("HandKnot", 141, "HandKnot$Rings", "key", "J", "HandKnot"), ("HandKnot", 145, "HandKnot$Rings", "plus", "I", "HandKnot"), ("HandKnot", 177, "HandKnot$Rings", "members", "[I", "HandKnot"), ("HandKnot", 181, "HandKnot$Rings", "firstMember", "[I", "HandKnot"), ("HandKnot$Board", 96, "HandKnot$Rings", "firstStanding", "[I", "HandKnot"), ("HandKnot", 184, "HandKnot$Rings", "partner", "[I", "HandKnot"), ("HandKnot$Board", 130, "HandKnot$Rings", "linkIn", "[I", "HandKnot"), ("HandKnot", 190, "HandKnot$Rings", "along", "[I", "HandKnot"), ("HandKnot$Board", 93, "HandKnot$Rings", "linkRing", "[I", "HandKnot"), ("HandKnot", 204, "HandKnot$Rings", "linkRing", "[I", "HandKnot"), ("HandKnot$Board", 103, "HandKnot$Rings", "linkStart", "[I", "HandKnot"), ("HandKnot$Board", 158, "HandKnot$Rings", "linkGoer", "[I", "HandKnot"), ("HandKnot$Moment", 37, "HandKnot$Rings", "standingLink", "[I", "HandKnot"), ("HandKnot$Board", 121, "HandKnot$Rings", "standingLink", "[I", "HandKnot"), ("HandKnot", 201, "HandKnot$Rings", "standingLink", "[I", "HandKnot"), ("HandKnot$Board", 145, "HandKnot$Rings", "linkFits", "[Z", "HandKnot"), ("HandKnot$Board", 51, "HandKnot$Moment", "key", "J", "HandKnot"), ("HandKnot$Search", 68, "HandKnot$Moment", "key", "J", "HandKnot"), ("HandKnot", 196, "HandKnot$Moment", "key", "J", "HandKnot"), ("HandKnot$Within", 36, "HandKnot$Moment", "plus", "I", "HandKnot"), ("HandKnot$Board", 57, "HandKnot$Moment", "plus", "I", "HandKnot"), ("HandKnot$Search", 80, "HandKnot$Moment", "plus", "I", "HandKnot"), ("HandKnot$Within", 41, "HandKnot$Moment", "parted", "I", "HandKnot"), ("HandKnot$Board", 60, "HandKnot$Moment", "parted", "I", "HandKnot"), ("HandKnot$Search", 83, "HandKnot$Moment", "parted", "I", "HandKnot"), ("HandKnot", 261, "HandKnot$Moment", "parted", "I", "HandKnot"), ("HandKnot", 340, "HandKnot$Moment", "seed", "I", "HandKnot"), ("HandKnot", 383, "HandKnot$History", "kept", "I", "HandKnot"), ("HandKnot", 386, "HandKnot$History", "marked", "I", "HandKnot"), ("HandKnot$Colouring", 38, "HandKnot$Board", "rings", "LHandKnot$Rings;", "HandKnot"), ("HandKnot$Within", 52, "HandKnot$Board", "left", "I", "HandKnot"), ("HandKnot", 216, "HandKnot$Board", "left", "I", "HandKnot"), ("HandKnot$Colouring", 64, "HandKnot$Board", "walk", "[I", "HandKnot"), ("HandKnot$Colouring", 61, "HandKnot$Board", "walkStart", "[I", "HandKnot"), ("HandKnot$Within", 28, "HandKnot$Board", "numbers", "[I", "HandKnot"), ("HandKnot$Search", 91, "HandKnot$Board", "numbers", "[I", "HandKnot"), ("HandKnot", 232, "HandKnot$Board", "numbers", "[I", "HandKnot"), ("HandKnot$Within", 24, "HandKnot$Board", "count", "I", "HandKnot"), ("HandKnot$Search", 90, "HandKnot$Board", "count", "I", "HandKnot"), ("HandKnot", 231, "HandKnot$Board", "count", "I", "HandKnot"), ("HandKnotModel", 169, "HandKnotModel$Tangle", "height", "I", "HandKnotModel"), ("HandKnotModel", 200, "HandKnotModel$Tangle", "people", "I", "HandKnotModel"), ("HandKnotModel", 203, "HandKnotModel$Tangle", "links", "I", "HandKnotModel"), ("HandKnotModel", 277, "HandKnotModel$Tangle", "crossings", "I", "HandKnotModel"), ("HandKnotModel", 185, "HandKnotModel$Tangle", "names", "I", "HandKnotModel"), ("HandKnotModel", 336, "HandKnotModel$Tangle", "rings", "I", "HandKnotModel"), ("HandKnotModel", 346, "HandKnotModel$Tangle", "standings", "I", "HandKnotModel"), ("HandKnotModel", 229, "HandKnotModel$Tangle", "once", "Z", "HandKnotModel"), ("HandKnotModel", 243, "HandKnotModel$Tangle", "tall", "[I", "HandKnotModel"), ("HandKnotModel", 252, "HandKnotModel$Tangle", "one", "[I", "HandKnotModel"), ("HandKnotModel", 268, "HandKnotModel$Tangle", "oneHand", "[I", "HandKnotModel"), ("HandKnotModel", 255, "HandKnotModel$Tangle", "two", "[I", "HandKnotModel"), ("HandKnotModel", 271, "HandKnotModel$Tangle", "twoHand", "[I", "HandKnotModel"), ("HandKnotModel", 245, "HandKnotModel$Tangle", "linkOf", "[I", "HandKnotModel"), ("HandKnotModel", 289, "HandKnotModel$Tangle", "over", "[I", "HandKnotModel"), ("HandKnotModel", 291, "HandKnotModel$Tangle", "overAt", "[I", "HandKnotModel"), ("HandKnotModel", 294, "HandKnotModel$Tangle", "under", "[I", "HandKnotModel"), ("HandKnotModel", 297, "HandKnotModel$Tangle", "underAt", "[I", "HandKnotModel"), ("HandKnotModel", 300, "HandKnotModel$Tangle", "sign", "[I", "HandKnotModel"), ("HandKnotModel", 182, "HandKnotModel$Tangle", "name", "[J", "HandKnotModel"), ("HandKnotModel", 188, "HandKnotModel$Tangle", "nameSort", "[I", "HandKnotModel"), ("HandKnotModel", 191, "HandKnotModel$Tangle", "nameNumber", "[I", "HandKnotModel"), ("HandKnotModel", 274, "HandKnotModel$Tangle", "usedAt", "[I", "HandKnotModel"), ("HandKnotModel", 409, "HandKnotModel$Tangle", "ringOf", "[I", "HandKnotModel"), ("HandKnotModel", 368, "HandKnotModel$Tangle", "linkRing", "[I", "HandKnotModel"), ("HandKnotModel", 359, "HandKnotModel$Tangle", "linkRow", "[I", "HandKnotModel"), ("HandKnotModel", 417, "HandKnotModel$Tangle", "member", "[I", "HandKnotModel"), ("HandKnotModel", 415, "HandKnotModel$Tangle", "size", "[I", "HandKnotModel"), ("HandKnotModel", 426, "HandKnotModel$Tangle", "along", "[Z", "HandKnotModel"), ("HandKnotModel", 356, "HandKnotModel$Tangle", "standRing", "[I", "HandKnotModel"), ("HandKnotModel", 362, "HandKnotModel$Tangle", "standLink", "[I", "HandKnotModel"), ("HandKnotModel", 315, "HandKnotModel$Tangle", "first", "J", "HandKnotModel")]
/-! the words that every contract here is said in -/
def tblG : List Cond := lw_tbl.filter goodWord
theorem tg {i : Nat} {w : Cond} (h : lw_tbl[i]? = some w) (hg : goodWord w = true) : w ∈ tblG := List.mem_filter.mpr ⟨List.mem_of_getElem? h, hg⟩
abbrev Wl (y : MethodName) (cc : ByteArray) (n : Nat) (ret : Option FieldType) : List Cond := Cond.code y cc n ret :: tblG
theorem good_tbl : ∀ w ∈ tblG, (w.onTables && w.keeps) = true ∨ ∃ ty, w = .arrayClass ty := fun w h => good_of_word (List.mem_filter.mp h).2
theorem goodG {y : MethodName} {cc : ByteArray} {n : Nat} {ret : Option FieldType} (h : Cond.code y cc n ret ∈ tblG) : GoodIn tblG (Wl y cc n ret) := fun w hw => by
  rcases List.mem_cons.mp hw with rfl | h1
  · exact ⟨h, good_tbl _ h⟩
  · exact ⟨h1, good_tbl _ h1⟩
abbrev GT : Type := va_G × (Nat → ClassId)
abbrev tyL (g : GT) : List (ClassId × FieldType) := [(g.2 0, .int), (g.2 1, .long), (g.2 2, .boolean), (g.2 3, .byte), (g.2 4, .object "HandKnot$Moment"), (g.2 5, .array .int)]
def NW (U : State) : Prop := ∀ q ∈ nestF, va_Nw (.fieldLinkNest q.1 q.2.1 q.2.2.1 q.2.2.2.1 q.2.2.2.2.1 q.2.2.2.2.2) U
def KT (g : GT) (U : State) : Prop := va_K g.1 vwCl (tyL g) U ∧ NW U
theorem KT.calling {g : GT} {U : State} {fr : JFrame} {mk : MethodId} {a : Array Value} (h : KT g U) : KT g (U.calling fr mk a) := ⟨va_K.moved (u := U) (U := U.calling fr mk a) (Vm.Alike.refl U.vm) h.1, fun q hq => va_Nw.same rfl (u := U) rfl (h.2 q hq)⟩
theorem KT.warm {g : GT} {s U : State} (hW : s.WarmedH U.vm) (h : KT g s) : KT g U := ⟨va_K.moved hW.alike h.1, fun q hq => va_Nw.warmF hW (h.2 q hq)⟩
/-- the world at a point of a walk -/
def In (g : GT) (A : Nat → Prop) (H0 : Heap) (s : State) (ws : va_W) (H : Heap) (locs : List Loc) : Prop := KT g s ∧ va_P g.1 vwCl ws H ∧ va_D A ws ∧ va_S A H0 H locs ∧ ∀ q, H0.size ≤ q → A q
/-- what is fixed through a walk -/
def Cx (p : Program) (s : State) (m : MethodId) (args : Array Value) (meth : Method) (c : Code) (cc : ByteArray) (n : Nat) (own : String) (ret : Option FieldType) : Prop :=
  p.tables.exec = Jvm.exec ∧ c.code = cc ∧ c.maxLocals = n ∧ s.vm.findClass own = some m.cls ∧ (∀ w ∈ tblG, w.before args s = true) ∧ meth.sig.returnType = ret ∧ meth.locks = false
def CPre (g : GT) (ws : va_W) (sz : Nat) (U : State) : Prop := U.heap.size = sz ∧ va_P g.1 vwCl ws U.heap ∧ KT g U ∧ va_D (fun _ => True) ws
def CB (g : GT) (ws ws' : va_W) (sz : Nat) (t : State) : Prop := va_P g.1 vwCl ws' t.heap ∧ va_D (va_A ws sz) ws'
abbrev QI (g : GT) (ws ws' : va_W) (r : Int32) (sz : Nat) : Array Value → State → Outcome → State → Prop := va_Qi (fun r' (_ : Unit) => r' = r) (fun _ t => CB g ws ws' sz t) (va_A ws sz)
abbrev QL (g : GT) (ws ws' : va_W) (r : Int64) (sz : Nat) : Array Value → State → Outcome → State → Prop := va_Ql (fun r' (_ : Unit) => r' = r) (fun _ t => CB g ws ws' sz t) (va_A ws sz)
abbrev QV (g : GT) (ws ws' : va_W) (sz : Nat) : Array Value → State → Outcome → State → Prop := va_Qv (fun (_ : Unit) => True) (fun _ t => CB g ws ws' sz t) (va_A ws sz)
/-- method y, called on the world ws with av, answers r, and the world is ws' then -/
def CI (l : Launch) (y : MethodName) (cc : ByteArray) (n : Nat) (ret : Option FieldType) (rm : Room) (g : GT) (av : List Value) (ws ws' : va_W) (r : Int32) : Prop :=
  ∀ sz : Nat, Met l y (Wl y cc n ret) rm (va_Pc av (CPre g ws sz)) (QI g ws ws' r sz) rm.cells rm.slots (va_A ws sz)
def CL (l : Launch) (y : MethodName) (cc : ByteArray) (n : Nat) (ret : Option FieldType) (rm : Room) (g : GT) (av : List Value) (ws ws' : va_W) (r : Int64) : Prop :=
  ∀ sz : Nat, Met l y (Wl y cc n ret) rm (va_Pc av (CPre g ws sz)) (QL g ws ws' r sz) rm.cells rm.slots (va_A ws sz)
def CV (l : Launch) (y : MethodName) (cc : ByteArray) (n : Nat) (ret : Option FieldType) (rm : Room) (g : GT) (av : List Value) (ws ws' : va_W) : Prop :=
  ∀ sz : Nat, Met l y (Wl y cc n ret) rm (va_Pc av (CPre g ws sz)) (QV g ws ws' sz) rm.cells rm.slots (va_A ws sz)
/-- from the walk of a body to its contract -/
theorem start_any {l : Launch} {y : MethodName} {cc : ByteArray} {n : Nat} {ret : Option FieldType} {rm : Room} {g : GT} {av : List Value} {ws : va_W} {Qc : Nat → Array Value → State → Outcome → State → Prop} (hy : plainName y.cls = true) (hn : Nat.ble (lg_sl av).length n = true)
    (k : ∀ (p : Program) (e : Env) (s : State) (m : MethodId) (below : List Frame) (meth : Method) (c : Code) (ls : Array Slot), Cx p s m av.toArray meth c cc n y.cls ret → lv_has ls n (lv_args 0 av) → In g (va_A ws s.heap.size) s.heap s ws s.heap [] → (y.name = "<init>" → meth.name = "<init>") →
      W p l e rm s m av.toArray below meth c s.heap [] 0 0 (MQ below (Qc s.heap.size) av.toArray s rm.cells rm.slots (va_A ws s.heap.size)) (F0 m 0 ls [])) (sz : Nat) :
    Met l y (Wl y cc n ret) rm (va_Pc av (CPre g ws sz)) (Qc sz) rm.cells rm.slots (va_A ws sz) := by
  refine Met.ofW (cc := cc) (maxL := n) (ret := ret) hy rfl ?_
  intro p e s m args below meth c s₁ B hml hv
  obtain ⟨rfl, hsz, hP, hK, hD0⟩ := hv
  subst hsz
  have hts := atoms_spec (ws := Wl y cc n ret) B.pre
  have hl := lv_entry av (n := n) (Nat.le_of_ble_eq_true hn)
  rw [lg_entry_eq]
  generalize (lg_sl av ++ List.replicate (n - (lg_sl av).length) Slot.unset).toArray = ls at hl ⊢
  exact k p e s m below meth c ls ⟨B.exec, B.bytes, hml, findClass_of_methodNamed B.named, fun w hw => hts w (List.mem_cons_of_mem _ hw), B.returns, B.notSynchronized⟩ hl ⟨hK, hP, hD0.self, va_S.rf, fun q h => Or.inr h⟩ (fun h => by rw [← h]; exact (name_of_methodNamed B.named B.method).1)
section WALK
variable {p : Program} {l : Launch} {e : Env} {R : Room} {s : State} {m : MethodId} {args : Array Value} {below : List Frame} {meth : Method} {c : Code} {H : Heap} {locs : List Loc} {cells slots : Nat} {Q : State → Prop}
variable {cc : ByteArray} {pc n : Nat} {ls : Array Slot} {rest : List Value} {own : String} {g : GT} {A : Nat → Prop} {H0 : Heap} {ws ws' w w' : va_W} {ret : Option FieldType}
theorem ret_i {r : Int32} (C : Cx p s m args meth c cc n own (some .int)) (hI : In g (va_A ws s.heap.size) s.heap s ws' H locs) (hd : decode cc pc = .ok (.ireturn, 1)) : W p l e R s m args below meth c H locs cells slots (MQ below (QI g ws ws' r s.heap.size) args s cells slots (va_A ws s.heap.size)) (F0 m pc ls [.int r]) :=
  W.iret C.1 C.2.1 C.2.2.2.2.2.1 (fun t ht hW => ⟨⟨r, (), rfl, rfl, by rw [ht]; exact hI.2.1, hI.2.2.1⟩, hI.2.2.2.1.F ht⟩) hI.2.2.2.1.2.2 hd C.2.2.2.2.2.2
theorem ret_z {r : Int32} (C : Cx p s m args meth c cc n own (some .boolean)) (hI : In g (va_A ws s.heap.size) s.heap s ws' H locs) (hn : narrow .boolean (.int r) = .int r) (hd : decode cc pc = .ok (.ireturn, 1)) : W p l e R s m args below meth c H locs cells slots (MQ below (QI g ws ws' r s.heap.size) args s cells slots (va_A ws s.heap.size)) (F0 m pc ls [.int r]) :=
  W.zret C.1 C.2.1 C.2.2.2.2.2.1 hn (fun t ht hW => ⟨⟨r, (), rfl, rfl, by rw [ht]; exact hI.2.1, hI.2.2.1⟩, hI.2.2.2.1.F ht⟩) hI.2.2.2.1.2.2 hd C.2.2.2.2.2.2
theorem ret_l {r : Int64} (C : Cx p s m args meth c cc n own (some .long)) (hI : In g (va_A ws s.heap.size) s.heap s ws' H locs) (hd : decode cc pc = .ok (.lreturn, 1)) : W p l e R s m args below meth c H locs cells slots (MQ below (QL g ws ws' r s.heap.size) args s cells slots (va_A ws s.heap.size)) (F0 m pc ls [.long r]) :=
  W.lret C.1 C.2.1 C.2.2.2.2.2.1 (fun t ht hW => ⟨⟨r, (), rfl, rfl, by rw [ht]; exact hI.2.1, hI.2.2.1⟩, hI.2.2.2.1.F ht⟩) hI.2.2.2.1.2.2 hd C.2.2.2.2.2.2
theorem ret_v (C : Cx p s m args meth c cc n own none) (hI : In g (va_A ws s.heap.size) s.heap s ws' H locs) (hd : decode cc pc = .ok (.return_, 1)) : W p l e R s m args below meth c H locs cells slots (MQ below (QV g ws ws' s.heap.size) args s cells slots (va_A ws s.heap.size)) (F0 m pc ls []) :=
  W.vret C.1 C.2.1 C.2.2.2.2.2.1 (fun t ht hW => ⟨⟨(), rfl, trivial, by rw [ht]; exact hI.2.1, hI.2.2.1⟩, hI.2.2.2.1.F ht⟩) hI.2.2.2.1.2.2 hd C.2.2.2.2.2.2
/-- a callee's world is cut out of the caller's, and put back behind the call -/
def Cj (ws ws' w w' : va_W) : Prop := ∃ wr : va_W, ws.Perm (w ++ wr) ∧ ws'.Perm (w' ++ wr)
theorem Cj.id : Cj ws ws' ws ws' := ⟨[], by rw [List.append_nil], by rw [List.append_nil]⟩
theorem Cj.nil : Cj ws ws [] [] := ⟨ws, List.Perm.refl _, List.Perm.refl _⟩
theorem perm_mid {x w r : va_W} : (x ++ (w ++ r)).Perm (w ++ (x ++ r)) := by
  rw [← List.append_assoc, ← List.append_assoc]
  exact List.Perm.append_right r List.perm_append_comm
/-- a part of the caller's world that the callee doesn't have -/
theorem Cj.skip {x : va_W} (h : Cj ws ws' w w') : Cj (x ++ ws) (x ++ ws') w w' := by
  obtain ⟨r, h1, h2⟩ := h
  exact ⟨x ++ r, (List.Perm.append_left x h1).trans perm_mid, (List.Perm.append_left x h2).trans perm_mid⟩
/-- a part that both have -/
theorem Cj.keep {x x' : va_W} (h : Cj ws ws' w w') : Cj (x ++ ws) (x' ++ ws') (x ++ w) (x' ++ w') := by
  obtain ⟨r, h1, h2⟩ := h
  exact ⟨r, by rw [List.append_assoc]; exact List.Perm.append_left x h1, by rw [List.append_assoc]; exact List.Perm.append_left x' h2⟩
theorem Cj.perm {v v' : va_W} (h : Cj ws ws' w w') (hw : w.Perm v) (hw' : w'.Perm v') : Cj ws ws' v v' := by
  obtain ⟨r, h1, h2⟩ := h
  exact ⟨r, h1.trans (List.Perm.append_right r hw), h2.trans (List.Perm.append_right r hw')⟩
theorem Cj.trans {v v' : va_W} (h : Cj ws ws' w w') (k : Cj w w' v v') : Cj ws ws' v v' := by
  obtain ⟨r, h1, h2⟩ := h
  obtain ⟨q, k1, k2⟩ := k
  exact ⟨q ++ r, by rw [← List.append_assoc]; exact h1.trans (List.Perm.append_right r k1), by rw [← List.append_assoc]; exact h2.trans (List.Perm.append_right r k2)⟩
theorem va_P_mem {D : va_G} {cl : List vw_C} : va_P D cl ws H ↔ ∀ q ∈ ws, va_at D cl q H := ⟨fun h q hq => by
  obtain ⟨k, hk⟩ := List.getElem?_of_mem hq
  exact h k q hk, fun h k q hk => h q (List.mem_of_getElem? hk)⟩
theorem va_D_nd : va_D A ws ↔ (ws.map Prod.fst).Nodup ∧ ∀ q ∈ ws, A q.1 := by
  constructor
  · intro h
    refine ⟨?_, fun q hq => ?_⟩
    · refine List.pairwise_iff_getElem.mpr (fun i j hi hj hij e => ?_)
      rw [List.length_map] at hi hj
      rw [List.getElem_map, List.getElem_map] at e
      have := h.1 i j ws[i] ws[j] (List.getElem?_eq_getElem hi) (List.getElem?_eq_getElem hj) e
      omega
    · obtain ⟨k, hk⟩ := List.getElem?_of_mem hq
      exact h.2 k q hk
  · intro h
    refine ⟨fun i j p q hi hj e => ?_, fun k q hk => h.2 q (List.mem_of_getElem? hk)⟩
    have h1 := List.pairwise_iff_getElem.mp h.1
    obtain ⟨li, ei⟩ := List.getElem?_eq_some_iff.mp hi
    obtain ⟨lj, ej⟩ := List.getElem?_eq_some_iff.mp hj
    have hm : ∀ a b : Nat, ∀ (ha : a < ws.length) (hb : b < ws.length), a < b → ws[a].1 ≠ ws[b].1 := fun a b ha hb hab => by
      have := h1 a b (by rw [List.length_map]; exact ha) (by rw [List.length_map]; exact hb) hab
      rw [List.getElem_map, List.getElem_map] at this
      exact this
    rcases Nat.lt_trichotomy i j with h3 | h3 | h3
    · exact absurd (by rw [ei, ej, e]) (hm i j li lj h3)
    · exact h3
    · exact absurd (by rw [ei, ej, e]) (hm j i lj li h3)
theorem va_A_mem {sz q : Nat} : va_A w sz q ↔ (∃ x ∈ w, x.1 = q) ∨ sz ≤ q := by
  constructor
  · rintro (⟨k, e, h⟩ | h)
    · exact Or.inl ⟨_, List.mem_of_getElem? h, rfl⟩
    · exact Or.inr h
  · rintro (⟨⟨q', e⟩, h, rfl⟩ | h)
    · obtain ⟨k, hk⟩ := List.getElem?_of_mem h
      exact Or.inl ⟨k, e, hk⟩
    · exact Or.inr h
theorem Cj.cut {D : va_G} {cl : List vw_C} (h : Cj ws ws' w w') (hP : va_P D cl ws H) (hD : va_D A ws) : va_P D cl w H ∧ va_D A w := by
  obtain ⟨r, h1, -⟩ := h
  have hm : ∀ q ∈ w, q ∈ ws := fun q hq => h1.mem_iff.mpr (List.mem_append_left _ hq)
  refine ⟨va_P_mem.mpr (fun q hq => va_P_mem.mp hP q (hm q hq)), va_D_nd.mpr ⟨?_, fun q hq => (va_D_nd.mp hD).2 q (hm q hq)⟩⟩
  have h2 := (h1.map Prod.fst).nodup_iff.mp (va_D_nd.mp hD).1
  rw [List.map_append] at h2
  exact (List.nodup_append.mp h2).1
theorem Cj.put {D : va_G} {cl : List vw_C} {H1 : Heap} (h : Cj ws ws' w w') (hP : va_P D cl ws H) (hD : va_D A ws) (hk : ∀ q : Nat, q < H.size → ¬ va_A w H.size q → H1[q]? = H[q]?) (hP1 : va_P D cl w' H1) (hD1 : va_D (va_A w H.size) w') (hA : ∀ q, va_A w H.size q → A q) : va_P D cl ws' H1 ∧ va_D A ws' := by
  obtain ⟨r, h1, h2⟩ := h
  have n1 := (h1.map Prod.fst).nodup_iff.mp (va_D_nd.mp hD).1
  rw [List.map_append, List.nodup_append] at n1
  obtain ⟨-, nr, nd⟩ := n1
  have hr : ∀ q ∈ r, q ∈ ws := fun q hq => h1.mem_iff.mpr (List.mem_append_right _ hq)
  have rl : ∀ q ∈ r, q.1 < H.size := fun q hq => (va_P_mem.mp hP q (hr q hq)).lt
  have rn : ∀ q ∈ r, ¬ va_A w H.size q.1 := fun q hq hv => by
    rcases va_A_mem.mp hv with ⟨x, hx, e⟩ | h9
    · exact nd _ (List.mem_map.mpr ⟨x, hx, rfl⟩) _ (List.mem_map.mpr ⟨q, hq, rfl⟩) e
    · exact absurd (rl q hq) (Nat.not_lt.mpr h9)
  refine ⟨va_P_mem.mpr (fun q hq => ?_), va_D_nd.mpr ⟨?_, fun q hq => ?_⟩⟩
  · rcases List.mem_append.mp (h2.mem_iff.mp hq) with h3 | h3
    · exact va_P_mem.mp hP1 q h3
    · exact (va_P_mem.mp hP q (hr q h3)).kept (hk q.1 (rl q h3) (rn q h3))
  · refine (h2.map Prod.fst).nodup_iff.mpr ?_
    rw [List.map_append, List.nodup_append]
    refine ⟨(va_D_nd.mp hD1).1, nr, fun a ha b hb e => ?_⟩
    obtain ⟨x, hx, rfl⟩ := List.mem_map.mp ha
    obtain ⟨y, hy, rfl⟩ := List.mem_map.mp hb
    exact rn y hy (by rw [← e]; exact (va_D_nd.mp hD1).2 x hx)
  · rcases List.mem_append.mp (h2.mem_iff.mp hq) with h3 | h3
    · exact hA _ ((va_D_nd.mp hD1).2 q h3)
    · exact (va_D_nd.mp hD).2 q (hr q h3)
theorem cpre_blind {av : List Value} {sz : Nat} : FrameBlind (va_Pc av (CPre g w sz)) := fun a U gg mk q => by
  obtain ⟨q0, q1, qP, qK, qD⟩ := q
  exact ⟨q0, q1, qP, qK.calling, qD⟩
/-- what a call's words are: its link, its code -/
def Lk (s : State) (args : Array Value) (own : String) (index : Nat) (y : MethodName) (bytes : ByteArray) (maxL n : Nat) (ret : Option FieldType) : Prop :=
  (Cond.methodLink own index y).before args s = true ∧ Cond.code y bytes maxL ret ∈ tblG ∧ (Cond.initialized y.cls).before args s = true ∧ (y.cls ≠ "java/lang/invoke/MethodHandle" ∧ y.cls ≠ "java/lang/invoke/VarHandle" ∧ (parseMethodDescriptor y.desc).map (fun d => d.parameters.length) = some n)
theorem Lk.b {rm : Room} {index k maxL : Nat} {y : MethodName} {bytes : ByteArray} (hk : Lk s args own index y bytes maxL k ret) (ht : ∀ w ∈ tblG, w.before args s = true) (hf : Nat.ble (rm.frames + 1) R.frames = true) (hl : Nat.ble (8 + (maxL + 11) + rm.locals) R.locals = true) : CallB R s args own index y bytes maxL ret (Wl y bytes maxL ret) rm rm.cells rm.slots k :=
  callB_of k ht (goodG hk.2.1) rfl rfl rfl hk.2.2.1 hk.1 hk.2.2.2 ⟨Nat.le_of_ble_eq_true hf, Nat.le_of_ble_eq_true hl⟩
theorem free_i (hI : In g A H0 s ws H locs) (hj : Cj ws ws' w w') : ∀ q, va_A w H.size q → A q := fun q h => by
  obtain ⟨i1, i2, i3, i4, i5⟩ := hI
  obtain ⟨j1, j2⟩ := hj.cut i2 i3
  rcases h with ⟨k9, e9, h9⟩ | h9
  · exact j2.2 k9 _ h9
  · exact i5 q (Nat.le_trans i4.1 h9)
theorem back_i (hI : In g A H0 s ws H locs) (hj : Cj ws ws' w w') {t : State} {H1 : Heap} {locs1 : List Loc} (ht : t.heap = H1) (hB : CB g w w' H.size t) (hk : ∀ q : Nat, q < H.size → ¬ va_A w H.size q → H1[q]? = H[q]?) (hS : va_S A H0 H1 locs1) : In g A H0 s ws' H1 locs1 := by
  have hf := free_i hI hj
  obtain ⟨i1, i2, i3, i4, i5⟩ := hI
  rw [CB, ht] at hB
  obtain ⟨k1, k2⟩ := hj.put i2 i3 hk hB.1 hB.2 hf
  exact ⟨i1, k1, k2, hS, i5⟩
theorem pre_i (hI : In g A H0 s ws H locs) (hj : Cj ws ws' w w') {av : List Value} {U : State} (hU : U.heap = H) (hW : s.WarmedH U.vm) : va_Pc av (CPre g w H.size) av.toArray U := by
  obtain ⟨i1, i2, i3, i4, i5⟩ := hI
  obtain ⟨j1, j2⟩ := hj.cut i2 i3
  exact ⟨rfl, by rw [hU], by rw [hU]; exact j1, i1.warm hW, j2.weaken (fun _ _ _ _ => trivial)⟩
theorem run_V {S : Type} {Qc : Array Value → State → Outcome → State → Prop} {rm : Room} {index k maxL ci a : Nat} {y : MethodName} {bytes : ByteArray} {As : List Value} {C : String} {T : u_T} {N : Nat} {fs : List Value} {ret' : Option FieldType} {st0 : List Value} (X : Cx p s m args meth c cc n own ret) (hI : In g A H0 s ws H locs) (hj : Cj ws ws' w w')
    (hM : Met l y (Wl y bytes maxL ret') rm (va_Pc (.ref a :: As) (CPre g w H.size)) Qc rm.cells rm.slots (va_A w H.size)) (hk : Lk s args own index y bytes maxL k ret') (hi : Cond.instanceMethod y ∈ tblG) (hs : Cond.selects C y y ∈ tblG) (hw0 : w[0]? = some (a, .inr (ci, fs))) (hc : vwCl[ci]? = some (C, T, N))
    (hn : As.length = k) (hsz : ls.size = n) (hst : st0 = As.reverse ++ .ref a :: rest) (hr : Nat.ble ((rest.map fun v => v.category).sum) 8 = true) (hd : decode cc pc = .ok (.invokevirtual index, 3)) (hf : Nat.ble (rm.frames + 1) R.frames = true) (hl : Nat.ble (8 + (maxL + 11) + rm.locals) R.locals = true) (hm : Nat.ble (cells + rm.cells) R.cells = true) (hm2 : Nat.ble (slots + rm.slots) R.slots = true) :
    va_Run p l e R s m args below meth c H locs cells slots rm.cells rm.slots (F0 m pc ls st0) rest (Qc (Value.ref a :: As).toArray) (va_A w H.size) := by
  have hP := (hj.cut hI.2.1 hI.2.2.1).1
  exact va_runV ⟨X.1, X.2.1, X.2.2.1, X.2.2.2.1, X.2.2.2.2.1⟩ hM ⟨hk.b X.2.2.2.2.1 hf hl, X.2.2.2.2.1 _ hi, X.2.2.2.2.1 _ hs⟩ ⟨cpre_blind, va_recv hI.1.1 hP hc hw0, fun U hU hW => pre_i hI hj hU hW⟩ rfl hn hsz hst (lv_room (Nat.le_of_ble_eq_true hr)) hd ⟨Nat.le_of_ble_eq_true hm, Nat.le_of_ble_eq_true hm2⟩
theorem run_S {S : Type} {Qc : Array Value → State → Outcome → State → Prop} {rm : Room} {index k maxL : Nat} {y : MethodName} {bytes : ByteArray} {As : List Value} {ret' : Option FieldType} {st0 : List Value} (X : Cx p s m args meth c cc n own ret) (hI : In g A H0 s ws H locs) (hj : Cj ws ws' w w')
    (hM : Met l y (Wl y bytes maxL ret') rm (va_Pc As (CPre g w H.size)) Qc rm.cells rm.slots (va_A w H.size)) (hk : Lk s args own index y bytes maxL k ret') (hi : Cond.static y ∈ tblG)
    (hn : As.length = k) (hsz : ls.size = n) (hst : st0 = As.reverse ++ rest) (hr : Nat.ble ((rest.map fun v => v.category).sum) 8 = true) (hd : decode cc pc = .ok (.invokestatic index, 3)) (hf : Nat.ble (rm.frames + 1) R.frames = true) (hl : Nat.ble (8 + (maxL + 11) + rm.locals) R.locals = true) (hm : Nat.ble (cells + rm.cells) R.cells = true) (hm2 : Nat.ble (slots + rm.slots) R.slots = true) :
    va_Run p l e R s m args below meth c H locs cells slots rm.cells rm.slots (F0 m pc ls st0) rest (Qc As.toArray) (va_A w H.size) := 
  va_runS ⟨X.1, X.2.1, X.2.2.1, X.2.2.2.1, X.2.2.2.2.1⟩ hM ⟨hk.b X.2.2.2.2.1 hf hl, X.2.2.2.2.1 _ hi⟩ ⟨cpre_blind, fun U hU hW => pre_i hI hj hU hW⟩ rfl hn hsz hst (lv_room (Nat.le_of_ble_eq_true hr)) hd ⟨Nat.le_of_ble_eq_true hm, Nat.le_of_ble_eq_true hm2⟩
theorem go_i {mc ms : Nat} {r : Int32} {st0 : List Value} {a : Array Value} (hI : In g A H0 s ws H locs) (hj : Cj ws ws' w w') (hr : va_Run p l e R s m args below meth c H locs cells slots mc ms (F0 m pc ls st0) rest (QI g w w' r H.size a) (va_A w H.size))
    (k : ∀ (H1 : Heap) (locs1 : List Loc), In g A H0 s ws' H1 locs1 → W p l e R s m args below meth c H1 locs1 (cells + mc) (slots + ms) Q (F0 m (pc + 3) ls (.int r :: rest))) : W p l e R s m args below meth c H locs cells slots Q (F0 m pc ls st0) :=
  va_calli hr hI.2.2.2.1 (fun q _ h => free_i hI hj q h) (free_i hI hj) (fun r1 u t H1 locs1 ht hvm hw hB hz hk hS => by
    subst hw
    exact k H1 locs1 (back_i hI hj ht hB hk hS))
theorem go_l {mc ms : Nat} {r : Int64} {st0 : List Value} {a : Array Value} (hI : In g A H0 s ws H locs) (hj : Cj ws ws' w w') (hr : va_Run p l e R s m args below meth c H locs cells slots mc ms (F0 m pc ls st0) rest (QL g w w' r H.size a) (va_A w H.size))
    (k : ∀ (H1 : Heap) (locs1 : List Loc), In g A H0 s ws' H1 locs1 → W p l e R s m args below meth c H1 locs1 (cells + mc) (slots + ms) Q (F0 m (pc + 3) ls (.long r :: rest))) : W p l e R s m args below meth c H locs cells slots Q (F0 m pc ls st0) :=
  va_calll hr hI.2.2.2.1 (fun q _ h => free_i hI hj q h) (free_i hI hj) (fun r1 u t H1 locs1 ht hvm hw hB hz hk hS => by
    subst hw
    exact k H1 locs1 (back_i hI hj ht hB hk hS))
theorem go_v {mc ms : Nat} {st0 : List Value} {a : Array Value} (hI : In g A H0 s ws H locs) (hj : Cj ws ws' w w') (hr : va_Run p l e R s m args below meth c H locs cells slots mc ms (F0 m pc ls st0) rest (QV g w w' H.size a) (va_A w H.size))
    (k : ∀ (H1 : Heap) (locs1 : List Loc), In g A H0 s ws' H1 locs1 → W p l e R s m args below meth c H1 locs1 (cells + mc) (slots + ms) Q (F0 m (pc + 3) ls rest)) : W p l e R s m args below meth c H locs cells slots Q (F0 m pc ls st0) :=
  va_callv hr hI.2.2.2.1 (fun q _ h => free_i hI hj q h) (free_i hI hj) (fun u t H1 locs1 ht hvm hw hB hz hk hS => k H1 locs1 (back_i hI hj ht hB hk hS))
end WALK
