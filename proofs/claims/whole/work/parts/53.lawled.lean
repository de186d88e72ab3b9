/-! the law's own led: it calls, and catches -/
theorem lw_codeL : Cond.codeWith yL_led cL_led 4 (some .int) [(0, 9, 12, 13)] ∈ tblG := tgm (in_t6 _ (List.mem_of_getElem? (i := 168) rfl)) rfl
theorem lw_statL : Cond.static yL_led ∈ tblG := tgm (in_t6 _ (List.mem_of_getElem? (i := 167) rfl)) rfl
theorem lw_linkL : Cond.methodLink "HandKnotLaw" 213 yL_led ∈ tblG := tgm (in_t6 _ (List.mem_of_getElem? (i := 166) rfl)) rfl
theorem lw_nse : Cond.classLink "HandKnotLaw" 13 "java/util/NoSuchElementException" ∈ tblG := tgm (in_t6 _ (List.mem_of_getElem? (i := 169) rfl)) rfl
theorem lw_linkX : Cond.methodLink "HandKnotLaw" 7 yX11_led ∈ tblG := tgm (in_t6 _ (List.mem_of_getElem? (i := 170) rfl)) rfl
def led_r (o : Option Int32) : Int32 := match o with
  | none => 1
  | some _ => 0
def led_f (o : Option Int32) (f : Nat → Int64) : Nat → Int64 := match o with
  | none => f
  | some v => vp_updL f 0 v.toInt64
abbrev wLd (g : GT) (a_hk a_bo a_ri : Nat → Nat) (q1 q3 q4 q5 q7 q8 q9 q10 qo : Nat) (hk : HKS) (bo : BoS) (ri : RiS) (f : Nat → Int64) : va_W := wHK g a_hk q1 (a_ri 0) q3 q4 q5 (a_bo 0) q7 q8 q9 q10 hk ++ (wBo g a_bo (a_ri 0) bo ++ (wRi g a_ri ri ++ [(qo, .inl (g.2 1, 1, .inr (.inl f)))]))
abbrev rm_L_led : Room := { frames := 10, cells := 1, slots := 6, locals := 230 }
section LL
variable {p : Program} {l : Launch} {e : Env} {R : Room} {s : State} {m : MethodId} {args : Array Value} {below : List Frame} {meth : Method} {c : Code} {H : Heap} {locs : List Loc} {cells slots : Nat} {Q : State → Prop}
variable {cc : ByteArray} {pc n : Nat} {ls : Array Slot} {rest : List Value} {own : String} {g : GT} {A : Nat → Prop} {H0 : Heap} {ws ws' w w' : va_W} {ret : Option FieldType}
theorem end_iw {r : Int32} {mc ms : Nat} (hQ : Q = MQ below (QI g ws ws' r s.heap.size) args s mc ms (va_A ws s.heap.size)) (hA : A = va_A ws s.heap.size) (C : Cx p s m args meth c cc n own (some .int)) (hI : In g A s.heap s ws' H locs) (hc : cells ≤ mc) (hs : slots ≤ ms) (hd : decode cc pc = .ok (.ireturn, 1)) : W p l e R s m args below meth c H locs cells slots Q (F0 m pc ls [.int r]) := by
  subst hA hQ
  refine W.widen (k := mc) (n := ms) hc hs ?_
  exact ret_i C hI hd
end LL
theorem c_L_led (l : Launch) (hst : l.stackTraces = false) (g : GT) (a_hk a_bo a_ri : Nat → Nat) (q1 q3 q4 q5 q7 q8 q9 q10 qo : Nat) (hk : HKS) (bo : BoS) (ri : RiS) (f : Nat → Int64) (p1 : Int32) (o : Option Int32) (hf : f_X11_led hk bo ri p1 = some o) (sz : Nat) :
    Met l yL_led (Cond.codeWith yL_led cL_led 4 (some .int) [(0, 9, 12, 13)] :: tblG) rm_L_led (va_Pc [.ref (a_hk 0), .int p1, .ref qo] (CPre g (wLd g a_hk a_bo a_ri q1 q3 q4 q5 q7 q8 q9 q10 qo hk bo ri f) sz)) (QI g (wLd g a_hk a_bo a_ri q1 q3 q4 q5 q7 q8 q9 q10 qo hk bo ri f) (wLd g a_hk a_bo a_ri q1 q3 q4 q5 q7 q8 q9 q10 qo hk bo ri (led_f o f)) (led_r o) sz) 1 6 (va_A (wLd g a_hk a_bo a_ri q1 q3 q4 q5 q7 q8 q9 q10 qo hk bo ri f) sz) := by
  refine va_MetW (cc := cL_led) (maxL := 4) (ret := some .int) (hh := [(0, 9, 12, 13)]) (by decide) rfl ?_
  intro p e s m args below meth c s₁ B hml hv
  have hts := atoms_spec (ws := Cond.codeWith yL_led cL_led 4 (some .int) [(0, 9, 12, 13)] :: tblG) B.pre
  have htab : c.exceptionTable.toList = [] ++ (⟨0, 9, 12, 13⟩ : ExceptionTableEntry) :: [] := vx_table (x := yL_led) B (hts _ List.mem_cons_self)
  obtain ⟨rfl, hsz, hP, hK, hD0, hST⟩ := hv
  subst hsz
  have hl := lv_entry ([.ref (a_hk 0), .int p1, .ref qo] : List Value) (n := 4) (Nat.le_of_ble_eq_true rfl)
  rw [lg_entry_eq]
  generalize (lg_sl ([.ref (a_hk 0), .int p1, .ref qo] : List Value) ++ List.replicate (4 - (lg_sl ([.ref (a_hk 0), .int p1, .ref qo] : List Value)).length) Slot.unset).toArray = ls at hl ⊢
  have hl : lv_has ls 4 [(0, .ref (a_hk 0)), (1, .int p1), (2, .ref qo)] := hl
  have X : Cx p s m #[.ref (a_hk 0), .int p1, .ref qo] meth c cL_led 4 "HandKnotLaw" (some .int) := ⟨B.exec, B.bytes, hml, findClass_of_methodNamed B.named, fun w hw => hts w (List.mem_cons_of_mem _ hw), B.returns, B.notSynchronized⟩
  have hI : In g (va_A (wLd g a_hk a_bo a_ri q1 q3 q4 q5 q7 q8 q9 q10 qo hk bo ri f) s.heap.size) s.heap s (wLd g a_hk a_bo a_ri q1 q3 q4 q5 q7 q8 q9 q10 qo hk bo ri f) s.heap [] := ⟨hK, hP, hD0.self, va_S.rf, fun q h => Or.inr h, hST⟩
  obtain ⟨Q, hQ⟩ : ∃ Q, Q = MQ below (QI g (wLd g a_hk a_bo a_ri q1 q3 q4 q5 q7 q8 q9 q10 qo hk bo ri f) (wLd g a_hk a_bo a_ri q1 q3 q4 q5 q7 q8 q9 q10 qo hk bo ri (led_f o f)) (led_r o) s.heap.size) #[.ref (a_hk 0), .int p1, .ref qo] s 1 6 (va_A (wLd g a_hk a_bo a_ri q1 q3 q4 q5 q7 q8 q9 q10 qo hk bo ri f) s.heap.size) := ⟨_, rfl⟩
  obtain ⟨A, hA⟩ : ∃ A, A = va_A (wLd g a_hk a_bo a_ri q1 q3 q4 q5 q7 q8 q9 q10 qo hk bo ri f) s.heap.size := ⟨_, rfl⟩
  rw [← hA] at hI
  show W p l e rm_L_led s m #[.ref (a_hk 0), .int p1, .ref qo] below meth c s.heap [] 0 0 (MQ below (QI g (wLd g a_hk a_bo a_ri q1 q3 q4 q5 q7 q8 q9 q10 qo hk bo ri f) (wLd g a_hk a_bo a_ri q1 q3 q4 q5 q7 q8 q9 q10 qo hk bo ri (led_f o f)) (led_r o) s.heap.size) #[.ref (a_hk 0), .int p1, .ref qo] s 1 6 (va_A (wLd g a_hk a_bo a_ri q1 q3 q4 q5 q7 q8 q9 q10 qo hk bo ri f) s.heap.size)) (F0 m 0 ls [])
  rw [← hQ]
  obtain ⟨hx, hb, hml, hown, ht, hr, hlk⟩ := id X
  refine lv_aload_n hx hb dL_led_0 rfl (lv_at hl 2 rfl) ?_
  refine lv_iconst (v := 0) hx hb dL_led_1 (by decide) ?_
  refine lv_aload_n hx hb dL_led_2 rfl (lv_at hl 0 rfl) ?_
  refine lv_iload_n hx hb dL_led_3 rfl (lv_at hl 1 rfl) ?_
  have hj : Cj (wLd g a_hk a_bo a_ri q1 q3 q4 q5 q7 q8 q9 q10 qo hk bo ri f) (wLd g a_hk a_bo a_ri q1 q3 q4 q5 q7 q8 q9 q10 qo hk bo ri f) (wHK g a_hk q1 (a_ri 0) q3 q4 q5 (a_bo 0) q7 q8 q9 q10 hk ++ (wBo g a_bo (a_ri 0) bo ++ (wRi g a_ri ri ++ []))) (wHK g a_hk q1 (a_ri 0) q3 q4 q5 (a_bo 0) q7 q8 q9 q10 hk ++ (wBo g a_bo (a_ri 0) bo ++ (wRi g a_ri ri ++ []))) := Cj.keep (Cj.keep (Cj.keep Cj.nil))
  have hPc := (hj.cut hI.2.1 hI.2.2.1).1
  have hcl := c_X11_led l hst g a_hk a_bo a_ri q1 q3 q4 q5 q7 q8 q9 q10 hk bo ri p1 o hf s.heap.size
  have hrun := vx_runV (p := p) (e := e) (R := rm_L_led) (below := below) (meth := meth) (locs := []) (cells := 0) (slots := 0) (C := RX11) (b := a_hk 0) (As := [.int p1]) (rest := [.int 0, .ref qo]) (g := F0 m 4 ls [.int p1, .ref (a_hk 0), .int 0, .ref qo]) ⟨hx, hb, hml, hown, ht⟩ hcl ⟨Lkm.b (rm := rm_X11_led) (R := rm_L_led) (k := 1) ⟨ht _ lw_linkX, w_1511, ht _ w_139, lk_X11_led⟩ ht rfl rfl, ht _ w_1509, ht _ w_1510⟩ ⟨cpre_blind, va_recv (ci := 11) (q0 := 0) hI.1.1 hPc rfl rfl, fun U hU hW => pre_i hI hj hU hW⟩ rfl rfl hl.1 rfl (lv_room (Nat.le_of_ble_eq_true rfl)) dL_led_4 ⟨Nat.le_of_ble_eq_true rfl, Nat.le_of_ble_eq_true rfl⟩
  refine vx_calli hrun hI.2.2.2.1 (fun q _ h => free_i hI hj q h) (free_i hI hj) (fun q _ h => free_i hI hj q h) (fun E ce q9 u t H1 locs1 ht1 hvm hp hB hz hk1 hS hce hcv hcl => ?_) (fun r u t H1 locs1 ht1 hvm hp hB hz hk1 hS => ?_)
  · obtain ⟨rfl, hB⟩ := hB
    have hI1 := back_i hI hj ht1 hB hk1 hS
    refine vx_catch (name := "java/util/NoSuchElementException") hown [] ⟨0, 9, 12, 13⟩ [] htab (fun z hz => nomatch hz) (by decide) (by decide) (ht _ lw_nse) (va_Nw.use rfl (hI.1.2.2.2.2.2.2.1 ("java/util/NoSuchElementException", "java/util/NoSuchElementException") List.mem_cons_self)) hce hcv hcl ?_
    refine lv_astore_n (lv' := [(3, .ref q9), (0, .ref (a_hk 0)), (1, .int p1), (2, .ref qo)]) hx hb dL_led_12 rfl hl (by decide) rfl (fun ls hl => ?_)
    refine lv_iconst (v := 1) hx hb dL_led_13 (by decide) ?_
    subst hp
    exact end_iw hQ hA X hI1 (Nat.le_refl _) (Nat.le_refl _) dL_led_14
  · have hI1 := back_i hI hj ht1 hB hk1 hS
    subst hp
    refine lv_i2l hx hb dL_led_7 rfl ?_
    refine st_J (ws' := wLd g a_hk a_bo a_ri q1 q3 q4 q5 q7 q8 q9 q10 qo hk bo ri (vp_updL f 0 r.toInt64)) X hI1 (Ups.r (Ups.r (Ups.r ⟨0, rfl, rfl⟩))) (by unfold vp_in; decide) dL_led_8 (fun H locs hI => ?_)
    refine lv_goto (tgt := 15) hx hb dL_led_9 (by decide) ?_
    refine lv_iconst (v := 0) hx hb dL_led_15 (by decide) ?_
    exact end_iw hQ hA X hI (Nat.le_refl _) (Nat.le_refl _) dL_led_16
