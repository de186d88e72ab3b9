/-! led: it answers, or it throws -/
def nse : String := "java/util/NoSuchElementException"
abbrev nsR : ByteArray := prog_30_method_4_code
def nsL : List Cond := nx_at RX11 368 "java/util/NoSuchElementException" 13 nsR ["java/lang/RuntimeException", "java/lang/Exception"]
theorem ns_good : ∀ w ∈ nsL.filter goodWord, w ∈ lw_tbl := by decide +kernel
def nsB : List Cond := declL.map Cond.declares ++ castL.map (fun q => Cond.castable q.1 q.2)
theorem ns_bad : ∀ w ∈ nsL.filter (fun w => !goodWord w), w ∈ nsB := by decide +kernel
theorem ns_ot : ∀ w ∈ Cond.classLink RX11 364 "java/util/NoSuchElementException" :: Cond.initialized "java/util/NoSuchElementException" :: nsL, vx_ot w = true := by decide +kernel
theorem xw_364 : Cond.classLink RX11 364 "java/util/NoSuchElementException" ∈ tblG := tgm (by decide +kernel) rfl
section LEDW
variable {p : Program} {l : Launch} {e : Env} {R : Room} {s : State} {m : MethodId} {args : Array Value} {below : List Frame} {meth : Method} {c : Code} {H : Heap} {locs : List Loc} {cells slots : Nat} {Q : State → Prop}
variable {cc : ByteArray} {pc n : Nat} {ls : Array Slot} {rest : List Value} {own : String} {g : GT} {A : Nat → Prop} {H0 : Heap} {ws ws' w w' : va_W} {ret : Option FieldType}
theorem ns_hat (X : Cx p s m args meth c cc n own ret) (hI : In g A H0 s ws H locs) : ∀ w ∈ nsL, w.before args s = true := by
  refine vx_hat (B := nsB) (fun w hw => X.2.2.2.2.1 w (tgm (ns_good w hw) (List.mem_filter.mp hw).2)) ns_bad (fun w hw => ?_)
  rcases List.mem_append.mp hw with h | h
  · obtain ⟨y, hy, rfl⟩ := List.mem_map.mp h
    exact va_Nw.use rfl (hI.1.2.2.2.2.2.1 y hy)
  · obtain ⟨y, hy, rfl⟩ := List.mem_map.mp h
    exact va_Nw.use rfl (hI.1.2.2.2.2.2.2.1 y hy)
end LEDW
/-- from the walk of a body that may throw to its contract -/
theorem start_x {l : Launch} {y : MethodName} {cc : ByteArray} {n : Nat} {ret : Option FieldType} {rm : Room} {g : GT} {av : List Value} {ws : va_W} {Qc : Nat → Array Value → State → Outcome → State → Prop} {XC : Nat → String → State → State → Prop} (hy : plainName y.cls = true) (hn : Nat.ble (lg_sl av).length n = true)
    (k : ∀ (p : Program) (e : Env) (s : State) (m : MethodId) (args : Array Value) (below : List Frame) (meth : Method) (c : Code) (ls : Array Slot) (Q : State → Prop) (A : Nat → Prop), args = av.toArray → Q = vx_MQ below (Qc s.heap.size) (XC s.heap.size) args s rm.cells rm.slots (va_A ws s.heap.size) → A = va_A ws s.heap.size → Cx p s m args meth c cc n y.cls ret → lv_has ls n (lv_args 0 av) → In g A s.heap s ws s.heap [] → (∀ x ∈ c.exceptionTable.toList, False) →
      W p l e rm s m args below meth c s.heap [] 0 0 Q (F0 m 0 ls [])) (sz : Nat) :
    vx_Met l y (Wl y cc n ret) rm (va_Pc av (CPre g ws sz)) (Qc sz) (XC sz) rm.cells rm.slots (va_A ws sz) := by
  refine vx_ofW (cc := cc) (maxL := n) (ret := ret) hy rfl ?_
  intro p e s m args below meth c s₁ B hml hout hv
  obtain ⟨rfl, hsz, hP, hK, hD0, hST⟩ := hv
  subst hsz
  have hts := atoms_spec (ws := Wl y cc n ret) B.pre
  have hl := lv_entry av (n := n) (Nat.le_of_ble_eq_true hn)
  rw [lg_entry_eq]
  generalize (lg_sl av ++ List.replicate (n - (lg_sl av).length) Slot.unset).toArray = ls at hl ⊢
  exact k p e s m _ below meth c ls _ _ rfl rfl rfl ⟨B.exec, B.bytes, hml, findClass_of_methodNamed B.named, fun w hw => hts w (List.mem_cons_of_mem _ hw), B.returns, B.notSynchronized⟩ hl ⟨hK, hP, hD0.self, va_S.rf, fun q h => Or.inr h, hST⟩ hout
abbrev rm_X11_led : Room := { frames := 9, cells := 1, slots := 6, locals := 200 }
abbrev QLd (g : GT) (ws : va_W) (o : Option Int32) (sz : Nat) : Array Value → State → Outcome → State → Prop := va_Qi (fun r' (_ : Unit) => o = some r') (fun _ t => CB g ws ws sz t) (va_A ws sz)
def XLd (g : GT) (ws : va_W) (o : Option Int32) (sz : Nat) : String → State → State → Prop := vx_X (fun (_ : Unit) => o = none) (fun E _ t => E = "java/util/NoSuchElementException" ∧ CB g ws ws sz t) (va_A ws sz)
theorem end_x {p : Program} {l : Launch} {e : Env} {R : Room} {s : State} {m : MethodId} {args : Array Value} {below : List Frame} {meth : Method} {c : Code} {H : Heap} {locs : List Loc} {Q : State → Prop} {cc : ByteArray} {pc n : Nat} {ls : Array Slot} {own : String} {g : GT} {A : Nat → Prop} {ws : va_W} {o : Option Int32} {r : Int32} (hQ : Q = vx_MQ below (QLd g ws o s.heap.size) (XLd g ws o s.heap.size) args s 1 6 (va_A ws s.heap.size)) (hA : A = va_A ws s.heap.size) (C : Cx p s m args meth c cc n own (some .int)) (hI : In g A s.heap s ws H locs) (ho : o = some r) (hd : decode cc pc = .ok (.ireturn, 1)) : W p l e R s m args below meth c H locs 0 0 Q (F0 m pc ls [.int r]) := by
  subst hA hQ
  refine vx_ret ?_
  refine W.widen (k := 1) (n := 6) (by omega) (by omega) ?_
  exact W.iret C.1 C.2.1 C.2.2.2.2.2.1 (fun t ht hW => ⟨⟨r, (), rfl, ho, by rw [ht]; exact hI.2.1, hI.2.2.1⟩, hI.2.2.2.1.F ht⟩) hI.2.2.2.1.2.2 hd C.2.2.2.2.2.2
set_option maxRecDepth 20000 in
set_option maxHeartbeats 1000000 in
theorem c_X11_led (l : Launch) (hst : l.stackTraces = false) (g : GT) (a_hk : Nat → Nat) (a_bo : Nat → Nat) (a_ri : Nat → Nat) (q_hk_reader : Nat) (q_hk_now : Nat) (q_hk_tried : Nat) (q_hk_history : Nat) (q_hk_search : Nat) (q_hk_within : Nat) (q_hk_colouring : Nat) (q_hk_chances : Nat) (hk : HKS) (bo : BoS) (ri : RiS) (p1 : Int32) (o : Option Int32) (hf : f_X11_led hk bo ri p1 = some o) (sz : Nat) :
    vx_Met l yX11_led (Wl yX11_led cX11_led 4 (some .int)) rm_X11_led (va_Pc [.ref (a_hk 0), .int p1] (CPre g (wHK g a_hk q_hk_reader (a_ri 0) q_hk_now q_hk_tried q_hk_history (a_bo 0) q_hk_search q_hk_within q_hk_colouring q_hk_chances hk ++ (wBo g a_bo (a_ri 0) bo ++ (wRi g a_ri ri ++ []))) sz)) (QLd g (wHK g a_hk q_hk_reader (a_ri 0) q_hk_now q_hk_tried q_hk_history (a_bo 0) q_hk_search q_hk_within q_hk_colouring q_hk_chances hk ++ (wBo g a_bo (a_ri 0) bo ++ (wRi g a_ri ri ++ []))) o sz) (XLd g (wHK g a_hk q_hk_reader (a_ri 0) q_hk_now q_hk_tried q_hk_history (a_bo 0) q_hk_search q_hk_within q_hk_colouring q_hk_chances hk ++ (wBo g a_bo (a_ri 0) bo ++ (wRi g a_ri ri ++ []))) o sz) 1 6 (va_A (wHK g a_hk q_hk_reader (a_ri 0) q_hk_now q_hk_tried q_hk_history (a_bo 0) q_hk_search q_hk_within q_hk_colouring q_hk_chances hk ++ (wBo g a_bo (a_ri 0) bo ++ (wRi g a_ri ri ++ []))) sz) := by
  generalize hws : (wHK g a_hk q_hk_reader (a_ri 0) q_hk_now q_hk_tried q_hk_history (a_bo 0) q_hk_search q_hk_within q_hk_colouring q_hk_chances hk ++ (wBo g a_bo (a_ri 0) bo ++ (wRi g a_ri ri ++ []))) = ws
  refine start_x (y := yX11_led) (cc := cX11_led) (n := 4) (rm := rm_X11_led) (av := [.ref (a_hk 0), .int p1]) (ws := ws) (Qc := QLd g ws o) (XC := XLd g ws o) (by decide) rfl ?_ sz
  subst hws
  intro p e s m args below meth c ls Q A ha hQ hA X hl hI hout
  have X : Cx p s m args meth c cX11_led 4 RX11 (some .int) := X
  have hl : lv_has ls 4 [(0, .ref (a_hk 0)), (1, .int p1)] := hl
  obtain ⟨hx, hb, hml, hown, ht, hr, hlk⟩ := id X
  clear ha
  have Lx : ∀ (H : Heap) (locs : List Loc) (ls : Array Slot), o = none → lv_has ls 4 [] → In g A s.heap s (wHK g a_hk q_hk_reader (a_ri 0) q_hk_now q_hk_tried q_hk_history (a_bo 0) q_hk_search q_hk_within q_hk_colouring q_hk_chances hk ++ (wBo g a_bo (a_ri 0) bo ++ (wRi g a_ri ri ++ []))) H locs → W p l e rm_X11_led s m args below meth c H locs 0 0 Q (F0 m 53 ls []) := by
    intro H locs ls ho hl hI
    subst hQ hA
    have hST := hI.2.2.2.2.2
    refine nx_throw (own := RX11) (cls := "java/util/NoSuchElementException") (text := "no such crossing is left") (names := ["java/lang/RuntimeException", "java/lang/Exception"]) (ik := 364) (is := 366) (ic := 368) (ix := 13) (rx := nsR) (sa := g.1.2.1 11) hx hb hst (by decide +kernel) (by decide +kernel) (by decide +kernel) (by decide +kernel) hown (by decide +kernel) (by decide +kernel) (ht _ xw_364) (ht _ w_163) (hI.1.2.2.2.2.1 11 _ rfl) (ns_hat X hI) ns_ot hST.2.2.2.1 hST.2.2.2.2 hI.2.2.2.1 (by rw [hml]; exact hl.1) dX11_led_53 dX11_led_56 dX11_led_57 dX11_led_60 dX11_led_63 (fun x hx => (hout x hx).elim) (by decide) (by decide) (by decide) (by decide) hlk (fun t hvm hz hk => ?_) (fun z hz => hI.2.2.2.1.2.2 z hz) (by decide) (by decide)
    refine ⟨(), ho, ⟨rfl, va_P.kept hI.2.1 (fun k q hq => hk q.1 (vx_lt hI.2.1 hq)), hI.2.2.1⟩, ?_⟩
    exact ⟨Nat.le_trans hI.2.2.2.1.1 hz, fun q h1 h2 => (hk q (Nat.lt_of_lt_of_le h1 hI.2.2.2.1.1)).trans (hI.2.2.2.1.2.1 q h1 h2)⟩
  have L_4 : ∀ (n_ : Nat) (x2 x3 : Int32) (H : Heap) (locs : List Loc) (ls : Array Slot), lv_has ls 4 [(0, .ref (a_hk 0)), (1, .int p1), (2, .int x2), (3, .int x3)] → In g A s.heap s (wHK g a_hk q_hk_reader (a_ri 0) q_hk_now q_hk_tried q_hk_history (a_bo 0) q_hk_search q_hk_within q_hk_colouring q_hk_chances hk ++ (wBo g a_bo (a_ri 0) bo ++ (wRi g a_ri ri ++ []))) H locs → f_X11_led_L4 n_ p1 x2 x3 hk bo ri = some o → W p l e rm_X11_led s m args below meth c H locs 0 0 Q (F0 m 4 ls []) := by
    intro n_
    induction n_ with
    | zero =>
      intro x2 x3 H locs ls hl hI hf
      rw [f_X11_led_L4] at hf
      cases hf
    | succ n_ ih =>
      intro x2 x3 H locs ls hl hI hf
      rw [f_X11_led_L4] at hf
      refine lv_aload_n hx hb dX11_led_4 rfl (lv_at hl 0 rfl) ?_
      refine g_HK_there X hI has_HK.l (X.fl w_686) dX11_led_5 ?_
      refine lv_if_eq (tgt := 53) hx hb dX11_led_8 (by decide) (fun h_ => ?_) (fun h_ => ?_)
      · replace hf := if_t h_ hf
        cases hf
        exact Lx _ _ _ rfl (lv_sub hl [] rfl) hI
      · replace hf := if_f h_ hf
        refine lv_iload_n hx hb dX11_led_11 rfl (lv_at hl 1 rfl) ?_
        refine lv_if_lt (tgt := 53) hx hb dX11_led_12 (by decide) (fun h_ => ?_) (fun h_ => ?_)
        · replace hf := if_t h_ hf
          cases hf
          exact Lx _ _ _ rfl (lv_sub hl [] rfl) hI
        · replace hf := if_f h_ hf
          refine lv_iload_n hx hb dX11_led_15 rfl (lv_at hl 3 rfl) ?_
          refine lv_aload_n hx hb dX11_led_16 rfl (lv_at hl 0 rfl) ?_
          refine g_HK_rings X hI has_HK.l (X.fl w_677) dX11_led_17 ?_
          refine g_Ri_crossings X hI has_Ri.l.r.r (hI.fn (List.mem_of_getElem? (i := 32) rfl)) dX11_led_20 ?_
          refine lv_icmp_ge (tgt := 53) hx hb dX11_led_23 (by decide) (fun h_ => ?_) (fun h_ => ?_)
          · replace hf := if_t h_ hf
            cases hf
            exact Lx _ _ _ rfl (lv_sub hl [] rfl) hI
          · replace hf := if_f h_ hf
            refine lv_aload_n hx hb dX11_led_26 rfl (lv_at hl 0 rfl) ?_
            refine g_HK_board X hI has_HK.l (X.fl w_681) dX11_led_27 ?_
            refine lv_iload_n hx hb dX11_led_30 rfl (lv_at hl 3 rfl) ?_
            obtain ⟨r_1, hc_, hf⟩ := bd1_some hf
            refine call_Vi X hI (Cj.skip (Cj.keep Cj.nil)) (c_X0_isLeft l g a_bo (a_ri 0) bo x3 r_1 hc_) ⟨rfl, rfl⟩ ⟨ht _ w_1289, w_1072, ht _ w_150, lk_X0_isLeft⟩ w_1070 w_1071 rfl rfl rfl hl rfl rfl dX11_led_31 rfl rfl rfl rfl (fun H locs hI => ?_)
            refine lv_if_eq (tgt := 47) hx hb dX11_led_34 (by decide) (fun h_ => ?_) (fun h_ => ?_)
            · replace hf := if_t h_ hf
              refine lv_iinc (v := x3 + 1) (lv' := [(3, .int (x3 + 1)), (0, .ref (a_hk 0)), (1, .int p1), (2, .int x2)]) hx hb dX11_led_47 hl (k := 3) rfl rfl (by decide) rfl (fun ls hl => ?_)
              refine lv_goto (tgt := 4) hx hb dX11_led_50 (by decide) ?_
              exact ih x2 (x3 + 1) _ _ _ (lv_sub hl [1, 2, 3, 0] rfl) hI hf
            · replace hf := if_f h_ hf
              refine lv_iload_n hx hb dX11_led_37 rfl (lv_at hl 2 rfl) ?_
              refine lv_iload_n hx hb dX11_led_38 rfl (lv_at hl 1 rfl) ?_
              refine lv_icmp_ne (tgt := 44) hx hb dX11_led_39 (by decide) (fun h_ => ?_) (fun h_ => ?_)
              · replace hf := if_f h_ hf
                refine lv_iinc (v := x2 + 1) (lv' := [(2, .int (x2 + 1)), (0, .ref (a_hk 0)), (1, .int p1), (3, .int x3)]) hx hb dX11_led_44 hl (k := 2) rfl rfl (by decide) rfl (fun ls hl => ?_)
                refine lv_iinc (v := x3 + 1) (lv' := [(3, .int (x3 + 1)), (2, .int (x2 + 1)), (0, .ref (a_hk 0)), (1, .int p1)]) hx hb dX11_led_47 hl (k := 3) rfl rfl (by decide) rfl (fun ls hl => ?_)
                refine lv_goto (tgt := 4) hx hb dX11_led_50 (by decide) ?_
                exact ih (x2 + 1) (x3 + 1) _ _ _ (lv_sub hl [2, 3, 1, 0] rfl) hI hf
              · replace hf := if_t h_ hf
                refine lv_iload_n hx hb dX11_led_42 rfl (lv_at hl 3 rfl) ?_
                cases hf
                exact end_x hQ hA X hI rfl dX11_led_43
  unfold f_X11_led at hf
  refine lv_iconst (v := 0) hx hb dX11_led_0 (by decide) ?_
  refine lv_istore_n (lv' := [(2, .int 0), (0, .ref (a_hk 0)), (1, .int p1)]) hx hb dX11_led_1 rfl hl (by decide) rfl (fun ls hl => ?_)
  refine lv_iconst (v := 0) hx hb dX11_led_2 (by decide) ?_
  refine lv_istore_n (lv' := [(3, .int 0), (2, .int 0), (0, .ref (a_hk 0)), (1, .int p1)]) hx hb dX11_led_3 rfl hl (by decide) rfl (fun ls hl => ?_)
  exact L_4 FU 0 0 _ _ _ (lv_sub hl [2, 3, 1, 0] rfl) hI hf
