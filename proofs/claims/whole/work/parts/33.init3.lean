theorem x_475b : Cond.instantiable RX4 4 ∈ tblG := tgm (in_t2 _ (List.mem_of_getElem? (i := 97) rfl)) rfl
section ID
variable {p : Program} {l : Launch} {e : Env} {R : Room} {s : State} {m : MethodId} {args : Array Value} {below : List Frame} {meth : Method} {c : Code} {H : Heap} {locs : List Loc} {cells slots : Nat} {Q : State → Prop}
variable {cc : ByteArray} {pc n : Nat} {ls : Array Slot} {rest : List Value} {own : String} {g : GT} {A : Nat → Prop} {H0 : Heap} {ws ws' w w' : va_W} {ret : Option FieldType}
theorem new_M {i : Int32} {N idx : Nat} (X : Cx p s m args meth c cc n own ret) (hI : In g A H0 s ws H locs) (hcl : Cond.classLink own idx RX4 ∈ tblG) (hn : ¬ i < 0) (hN : i.toNatClampNeg = N) (hb : Nat.ble (N * 4) 536870912 = true) (hc : Nat.ble (cells + 1) R.cells = true) (hs : Nat.ble (slots + N) R.slots = true) (hd : decode cc pc = .ok (.anewarray idx, 3))
    (kk : ∀ (q : Nat) (H1 : Heap), In g A H0 s (ws ++ [(q, .inl (g.2 4, N, .inr (.inr (.inr (.inr (fun _ => none))))))]) H1 locs → W p l e R s m args below meth c H1 locs (cells + 1) (slots + N) Q (F0 m (pc + 3) ls (.ref q :: rest))) : W p l e R s m args below meth c H locs cells slots Q (F0 m pc ls (.int i :: rest)) := by
  refine va_newq (C := RX4) X.1 X.2.1 X.2.2.2.1 (X.2.2.2.2.1 _ hcl) hI.1.2.2.2.1 hI.1.1 hI.2.1 hI.2.2.1 hI.2.2.2.1 hI.2.2.2.2.1 hn hN (Nat.le_of_ble_eq_true hb) (Nat.le_of_ble_eq_true hc) (Nat.le_of_ble_eq_true hs) hd (fun q cA H1 hK1 h1 h2 h3 => ?_)
  obtain ⟨-, -, -, -, -, k1⟩ := (hK1.2 6 (cA, .object RX4) rfl).2
  obtain ⟨-, -, -, -, -, k2⟩ := (hI.1.1.2 4 _ (show (tyL g)[4]? = some (g.2 4, .object RX4) from rfl)).2
  have e : cA = g.2 4 := Option.some.inj (k1.symm.trans k2)
  subst e
  exact kk q H1 ⟨hI.1, h1, h2, h3, hI.2.2.2.2⟩
theorem st_M {a N v : Nat} {vs : List Value} {f : Nat → Option Nat} {i : Int32} (X : Cx p s m args meth c cc n own ret) (hI : In g A H0 s ws H locs) (hm : Ups ws ws' (a, .inl (g.2 4, N, .inr (.inr (.inr (.inr f))))) (a, .inl (g.2 4, N, .inr (.inr (.inr (.inr (va_up f i.toNatClampNeg (some v)))))))) (hv : Has ws (v, .inr (4, vs))) (hin : vp_in i N) (hd : decode cc pc = .ok (.aastore, 1))
    (kk : ∀ (H1 : Heap) (locs1 : List Loc), In g A H0 s ws' H1 locs1 → W p l e R s m args below meth c H1 locs1 cells slots Q (F0 m (pc + 1) ls rest)) : W p l e R s m args below meth c H locs cells slots Q (F0 m pc ls (.ref v :: .int i :: .ref a :: rest)) := by
  obtain ⟨q0, hm, hu⟩ := hm
  obtain ⟨qk, hv⟩ := hv
  refine va_astq (r := (RX4, TX4, 4)) X.1 X.2.1 hI.1.1 hI.2.1 hI.2.2.1 hI.2.2.2.1 q0 4 qk 4 hm rfl hv rfl hin hd (fun H1 locs1 h1 h2 h3 => ?_)
  rw [hu] at h1 h2
  exact kk H1 locs1 ⟨hI.1, h1, h2, h3, hI.2.2.2.2⟩
end ID
theorem HW_wHi {g : GT} {h q1 q2 : Nat} {m1 m2 : List Nat} (l1 : m1.length = 16) (l2 : m2.length = 3) {A : Nat → Prop} {H0 H : Heap} {s : State} {locs : List Loc} (hI : In g A H0 s (HW g h q1 q2 m1 m2) H locs) : In g A H0 s (wHi g (fun k => ([h, q1, q2] ++ (m1 ++ m2)).getD k 0) Hi0) H locs := by
  have e1 : ∀ i, i < 16 → m1[i]? = some (([h, q1, q2] ++ (m1 ++ m2)).getD (3 + i) 0) := fun i hi => by
    rw [List.getD_eq_getElem?_getD, List.getElem?_append_right (by simp), show 3 + i - [h, q1, q2].length = i by simp, List.getElem?_append_left (by omega), List.getElem?_eq_getElem (by omega)]
    rfl
  have e2 : ∀ i, i < 3 → m2[i]? = some (([h, q1, q2] ++ (m1 ++ m2)).getD (19 + i) 0) := fun i hi => by
    rw [List.getD_eq_getElem?_getD, List.getElem?_append_right (by simp; omega), show 19 + i - [h, q1, q2].length = 16 + i by simp; omega, List.getElem?_append_right (by omega), l1, Nat.add_sub_cancel_left, List.getElem?_eq_getElem (by omega)]
    rfl
  have hm : (m1 ++ m2).map (fun a => (a, oMo (fun _ => a) Mo0)) = (List.range 16).map (fun i => ((fun k => ([h, q1, q2] ++ (m1 ++ m2)).getD k 0) (3 + i), oMo (fun _ => ([h, q1, q2] ++ (m1 ++ m2)).getD (3 + i) 0) (Hi_mo Hi0 i))) ++ (List.range 3).map (fun i => ((fun k => ([h, q1, q2] ++ (m1 ++ m2)).getD k 0) (19 + i), oMo (fun _ => ([h, q1, q2] ++ (m1 ++ m2)).getD (19 + i) 0) (Hi_mk Hi0 i))) := by
    rw [List.map_append]
    congr 1
    · refine List.ext_getElem? (fun i => ?_)
      rw [List.getElem?_map, List.getElem?_map]
      rcases Nat.lt_or_ge i 16 with hi | hi
      · rw [e1 i hi, List.getElem?_range hi]
        rfl
      · rw [List.getElem?_eq_none (by omega), List.getElem?_eq_none (by simp; omega)]
        rfl
    · refine List.ext_getElem? (fun i => ?_)
      rw [List.getElem?_map, List.getElem?_map]
      rcases Nat.lt_or_ge i 3 with hi | hi
      · rw [e2 i hi, List.getElem?_range hi]
        rfl
      · rw [List.getElem?_eq_none (by omega), List.getElem?_eq_none (by simp; omega)]
        rfl
  unfold HW at hI
  rw [hm] at hI
  have h1 := In.cell (ws := [(h, .inr (3, [.ref q1, .ref q2, .int 0, .int 0, .int 0]))]) (x := (q1, .inl (g.2 4, 16, .inr (.inr (.inr (.inr (fun k => m1[k]?))))))) (x' := (q1, .inl (g.2 4, 16, .inr (.inr (.inr (.inr (fun i => some (([h, q1, q2] ++ (m1 ++ m2)).getD (3 + i) 0)))))))) (r := (q2, .inl (g.2 4, 3, .inr (.inr (.inr (.inr (fun k => m2[k]?)))))) :: _) hI rfl (fun hh => by
    show H[q1]? = some (vp_cell _ _)
    rw [show H[q1]? = some (vp_cell _ _) from hh]
    exact congrArg some (arr_eq e1))
  have h2 := In.cell (ws := [(h, .inr (3, [.ref q1, .ref q2, .int 0, .int 0, .int 0])), (q1, .inl (g.2 4, 16, .inr (.inr (.inr (.inr (fun i => some (([h, q1, q2] ++ (m1 ++ m2)).getD (3 + i) 0)))))))]) (x := (q2, .inl (g.2 4, 3, .inr (.inr (.inr (.inr (fun k => m2[k]?))))))) (x' := (q2, .inl (g.2 4, 3, .inr (.inr (.inr (.inr (fun i => some (([h, q1, q2] ++ (m1 ++ m2)).getD (19 + i) 0)))))))) h1 rfl (fun hh => by
    show H[q2]? = some (vp_cell _ _)
    rw [show H[q2]? = some (vp_cell _ _) from hh]
    exact congrArg some (arr_eq e2))
  exact h2
theorem HW_add1 {g : GT} {h q1 q2 v : Nat} {m1 : List Nat} : Ups (HW g h q1 q2 m1 [] ++ [(v, oMo (fun _ => v) Mo0)]) (HW g h q1 q2 (m1 ++ [v]) []) (q1, .inl (g.2 4, 16, .inr (.inr (.inr (.inr (fun k => m1[k]?)))))) (q1, .inl (g.2 4, 16, .inr (.inr (.inr (.inr (fun k => (m1 ++ [v])[k]?)))))) := by
  refine ⟨1, rfl, ?_⟩
  unfold HW
  rw [List.append_nil, List.append_nil, List.map_append, ← List.append_assoc]
  rfl
theorem HW_add2 {g : GT} {h q1 q2 v : Nat} {m1 m2 : List Nat} : Ups (HW g h q1 q2 m1 m2 ++ [(v, oMo (fun _ => v) Mo0)]) (HW g h q1 q2 m1 (m2 ++ [v])) (q2, .inl (g.2 4, 3, .inr (.inr (.inr (.inr (fun k => m2[k]?)))))) (q2, .inl (g.2 4, 3, .inr (.inr (.inr (.inr (fun k => (m2 ++ [v])[k]?)))))) := by
  refine ⟨2, rfl, ?_⟩
  unfold HW
  rw [← List.append_assoc m1, List.map_append (l₁ := m1 ++ m2), ← List.append_assoc]
  rfl
theorem ble_le {a b : Nat} (h : a ≤ b) : Nat.ble a b = true := Nat.ble_eq_true_of_le h
set_option maxRecDepth 20000 in
theorem c_X3_init (l : Launch) (g : GT) (h : Nat) : CN l yX3_init cX3_init 2 rm_X3_init g [.ref h] [(h, .inr (3, [.null, .null, .int 0, .int 0, .int 0]))] h (fun B => wHi g (B 0) Hi0) := by
  refine start2 (y := yX3_init) (cc := cX3_init) (n := 2) (av := [.ref h]) (ws := [(h, .inr (3, [.null, .null, .int 0, .int 0, .int 0]))]) (Qc := fun sz => va_Qv (fun B : Nat → Nat → Nat => B 0 0 = h) (fun B t => CB g [(h, .inr (3, [.null, .null, .int 0, .int 0, .int 0]))] (wHi g (B 0) Hi0) sz t) (va_A [(h, .inr (3, [.null, .null, .int 0, .int 0, .int 0]))] sz)) (by decide) rfl ?_
  intro p e s m args below meth c ls Q A ha hQ hA X hl hI hin
  have X : Cx p s m args meth c cX3_init 2 RX3 none := X
  have hl : lv_has ls 2 [(0, .ref h)] := hl
  obtain ⟨hx, hb, hml, hown, ht, hr, hlk⟩ := id X
  have L2 : ∀ (k : Nat) (q1 q2 : Nat) (m1 m2 : List Nat) (x1 : Int32) (H : Heap) (locs : List Loc) (ls : Array Slot), m1.length = 16 → m2.length + k = 3 → x1 = nI m2.length → lv_has ls 2 [(0, .ref h), (1, .int x1)] → In g A s.heap s (HW g h q1 q2 m1 m2) H locs → W p l e rm_X3_init s m args below meth c H locs (18 + m2.length) (83 + 4 * m2.length) Q (F0 m 50 ls []) := by
    intro k
    induction k with
    | zero =>
      intro q1 q2 m1 m2 x1 H locs ls l1 l2 ex hl hI
      refine lv_iload_n hx hb dX3_init_50 rfl (lv_at hl 1 rfl) ?_
      refine lv_iconst (v := 3) hx hb dX3_init_51 (by decide) ?_
      refine lv_icmp_ge (tgt := 74) hx hb dX3_init_52 (by decide) (fun h_ => ?_) (fun h_ => absurd (by rw [ex, show m2.length = 3 by omega]; decide) h_)
      exact end_N (mk := fun B => wHi g (B 0) Hi0) (fun _ k => ([h, q1, q2] ++ (m1 ++ m2)).getD k 0) rfl hQ hA X (HW_wHi l1 (by omega) hI) (ble_le (show _ ≤ 21 by omega)) (ble_le (show _ ≤ 95 by omega)) dX3_init_74
    | succ k ih =>
      intro q1 q2 m1 m2 x1 H locs ls l1 l2 ex hl hI
      refine lv_iload_n hx hb dX3_init_50 rfl (lv_at hl 1 rfl) ?_
      refine lv_iconst (v := 3) hx hb dX3_init_51 (by decide) ?_
      refine lv_icmp_ge (tgt := 74) hx hb dX3_init_52 (by decide) (fun h_ => absurd h_ (by rw [ex]; exact nI_ge (show m2.length < 3 by omega) (by decide))) (fun h_ => ?_)
      refine lv_aload_n hx hb dX3_init_55 rfl (lv_at hl 0 rfl) ?_
      refine get_f (ci := 3) (k := 1) X hI (show Has (HW g h q1 q2 m1 m2) (h, .inr (3, _)) from ⟨0, rfl⟩) inG3 rfl rfl (X.fl w_514) rfl dX3_init_56 ?_
      refine lv_iload_n hx hb dX3_init_59 rfl (lv_at hl 1 rfl) ?_
      refine new_O (ci := 4) (fs := [.long 0, .int 0, .int 0, .int 0]) X hI inG4 tyX4_ok rfl x_510b x_475b w_148 (by decide) (ble_le (show _ ≤ 21 by omega)) (ble_le (show _ ≤ 95 by omega)) dX3_init_60 (fun v H hI => ?_)
      refine lv_dup hx hb dX3_init_63 rfl ?_
      refine call_N (k := 0) (f := fun B => HW g h q1 q2 m1 m2 ++ wMo g (B 0) Mo0) X hI (fun _ => Cj.skip Cj.id) (c_X4_init l g v) ⟨ht _ w_512, w_478, ht _ w_148, lk_X4_init⟩ w_477 rfl rfl hl rfl rfl dX3_init_64 rfl rfl (ble_le (show _ + 0 ≤ 21 by omega)) (ble_le (show _ + 0 ≤ 95 by omega)) (fun B H locs hB hI => ?_)
      have eB : wMo g (B 0) Mo0 = [(v, oMo (fun _ => v) Mo0)] := by rw [← hB]; rfl
      rw [eB] at hI
      have hin3 : vp_in x1 3 := by rw [ex]; exact vp_in_nI (by omega) (by decide)
      have ec : x1.toNatClampNeg = m2.length := by rw [ex]; exact nI_clamp (by omega)
      refine st_M (ws' := HW g h q1 q2 m1 (m2 ++ [v])) (N := 3) (f := fun k => m2[k]?) X hI (by rw [ec, up_get rfl]; exact HW_add2) (show Has _ (v, .inr (4, _)) from Has.r ⟨0, rfl⟩) hin3 dX3_init_67 (fun H locs hI => ?_)
      refine lv_iinc (v := nI (m2.length + 1)) (lv' := [(1, .int (nI (m2.length + 1))), (0, .ref h)]) hx hb dX3_init_68 hl (k := 1) rfl (by rw [ex]; exact nI_1 _) (by decide) rfl (fun ls hl => ?_)
      refine lv_goto (tgt := 50) hx hb dX3_init_71 (by decide) ?_
      have := ih q1 q2 m1 (m2 ++ [v]) (nI (m2.length + 1)) H locs ls l1 (by rw [List.length_append, List.length_singleton]; omega) (by rw [List.length_append, List.length_singleton]) (lv_sub hl [1, 0] rfl) hI
      rw [List.length_append, List.length_singleton] at this
      refine W.widen (by show _ + 1 + 0 ≤ _; omega) (by show _ + 4 + 0 ≤ _; omega) this
  have L1 : ∀ (k : Nat) (q1 q2 : Nat) (m1 : List Nat) (x1 : Int32) (H : Heap) (locs : List Loc) (ls : Array Slot), m1.length + k = 16 → x1 = nI m1.length → lv_has ls 2 [(0, .ref h), (1, .int x1)] → In g A s.heap s (HW g h q1 q2 m1 []) H locs → W p l e rm_X3_init s m args below meth c H locs (2 + m1.length) (19 + 4 * m1.length) Q (F0 m 23 ls []) := by
    intro k
    induction k with
    | zero =>
      intro q1 q2 m1 x1 H locs ls l1 ex hl hI
      refine lv_iload_n hx hb dX3_init_23 rfl (lv_at hl 1 rfl) ?_
      refine lv_bipush (v := 16) hx hb dX3_init_24 (by decide) ?_
      refine lv_icmp_ge (tgt := 48) hx hb dX3_init_26 (by decide) (fun h_ => ?_) (fun h_ => absurd (by rw [ex, show m1.length = 16 by omega]; decide) h_)
      refine lv_iconst (v := 0) hx hb dX3_init_48 (by decide) ?_
      refine lv_istore_n (lv' := [(1, .int 0), (0, .ref h)]) hx hb dX3_init_49 rfl hl (by decide) rfl (fun ls hl => ?_)
      refine W.widen (by omega) (by omega) (L2 3 q1 q2 m1 [] 0 H locs ls (by omega) rfl rfl (lv_sub hl [1, 0] rfl) hI)
    | succ k ih =>
      intro q1 q2 m1 x1 H locs ls l1 ex hl hI
      refine lv_iload_n hx hb dX3_init_23 rfl (lv_at hl 1 rfl) ?_
      refine lv_bipush (v := 16) hx hb dX3_init_24 (by decide) ?_
      refine lv_icmp_ge (tgt := 48) hx hb dX3_init_26 (by decide) (fun h_ => absurd h_ (by rw [ex]; exact nI_ge (show m1.length < 16 by omega) (by decide))) (fun h_ => ?_)
      refine lv_aload_n hx hb dX3_init_29 rfl (lv_at hl 0 rfl) ?_
      refine get_f (ci := 3) (k := 0) X hI (show Has (HW g h q1 q2 m1 []) (h, .inr (3, _)) from ⟨0, rfl⟩) inG3 rfl rfl (X.fl w_513) rfl dX3_init_30 ?_
      refine lv_iload_n hx hb dX3_init_33 rfl (lv_at hl 1 rfl) ?_
      refine new_O (ci := 4) (fs := [.long 0, .int 0, .int 0, .int 0]) X hI inG4 tyX4_ok rfl x_510b x_475b w_148 (by decide) (ble_le (show _ ≤ 21 by omega)) (ble_le (show _ ≤ 95 by omega)) dX3_init_34 (fun v H hI => ?_)
      refine lv_dup hx hb dX3_init_37 rfl ?_
      refine call_N (k := 0) (f := fun B => HW g h q1 q2 m1 [] ++ wMo g (B 0) Mo0) X hI (fun _ => Cj.skip Cj.id) (c_X4_init l g v) ⟨ht _ w_512, w_478, ht _ w_148, lk_X4_init⟩ w_477 rfl rfl hl rfl rfl dX3_init_38 rfl rfl (ble_le (show _ + 0 ≤ 21 by omega)) (ble_le (show _ + 0 ≤ 95 by omega)) (fun B H locs hB hI => ?_)
      have eB : wMo g (B 0) Mo0 = [(v, oMo (fun _ => v) Mo0)] := by rw [← hB]; rfl
      rw [eB] at hI
      have hin3 : vp_in x1 16 := by rw [ex]; exact vp_in_nI (by omega) (by decide)
      have ec : x1.toNatClampNeg = m1.length := by rw [ex]; exact nI_clamp (by omega)
      refine st_M (ws' := HW g h q1 q2 (m1 ++ [v]) []) (N := 16) (f := fun k => m1[k]?) X hI (by rw [ec, up_get rfl]; exact HW_add1) (show Has _ (v, .inr (4, _)) from Has.r ⟨0, rfl⟩) hin3 dX3_init_41 (fun H locs hI => ?_)
      refine lv_iinc (v := nI (m1.length + 1)) (lv' := [(1, .int (nI (m1.length + 1))), (0, .ref h)]) hx hb dX3_init_42 hl (k := 1) rfl (by rw [ex]; exact nI_1 _) (by decide) rfl (fun ls hl => ?_)
      refine lv_goto (tgt := 23) hx hb dX3_init_45 (by decide) ?_
      have := ih q1 q2 (m1 ++ [v]) (nI (m1.length + 1)) H locs ls (by rw [List.length_append, List.length_singleton]; omega) (by rw [List.length_append, List.length_singleton]) (lv_sub hl [1, 0] rfl) hI
      rw [List.length_append, List.length_singleton] at this
      refine W.widen (by show _ + 1 + 0 ≤ _; omega) (by show _ + 4 + 0 ≤ _; omega) this
  refine lv_aload_n hx hb dX3_init_0 rfl (lv_at hl 0 rfl) ?_
  refine oi X hl x_509b dX3_init_1 rfl rfl ?_
  refine lv_aload_n hx hb dX3_init_4 rfl (lv_at hl 0 rfl) ?_
  refine lv_bipush (v := 16) hx hb dX3_init_5 (by decide) ?_
  refine new_M (N := 16) X hI x_510b (by decide) (by decide) rfl rfl rfl dX3_init_7 (fun q1 H hI => ?_)
  refine putF_f (ws' := [(h, .inr (3, [.ref q1, .null, .int 0, .int 0, .int 0])), (q1, .inl (g.2 4, 16, .inr (.inr (.inr (.inr (fun _ => none))))))]) (ci := 3) (k := 0) (ty := tyX3 0) X hI ⟨0, rfl, rfl⟩ inG3 tyX3_ok nmX3 rfl rfl w_513 rfl (hin rfl) rfl (by decide +kernel) rfl rfl rfl rfl dX3_init_10 (fun H locs hI => ?_)
  refine lv_aload_n hx hb dX3_init_13 rfl (lv_at hl 0 rfl) ?_
  refine lv_iconst (v := 3) hx hb dX3_init_14 (by decide) ?_
  refine new_M (N := 3) X hI x_510b (by decide) (by decide) rfl rfl rfl dX3_init_15 (fun q2 H hI => ?_)
  refine putF_f (ws' := [(h, .inr (3, [.ref q1, .ref q2, .int 0, .int 0, .int 0])), (q1, .inl (g.2 4, 16, .inr (.inr (.inr (.inr (fun _ => none)))))), (q2, .inl (g.2 4, 3, .inr (.inr (.inr (.inr (fun _ => none))))))]) (ci := 3) (k := 1) (ty := tyX3 1) X hI ⟨0, rfl, rfl⟩ inG3 tyX3_ok nmX3 rfl rfl w_514 rfl (hin rfl) rfl (by decide +kernel) rfl rfl rfl rfl dX3_init_18 (fun H locs hI => ?_)
  refine lv_iconst (v := 0) hx hb dX3_init_21 (by decide) ?_
  refine lv_istore_n (lv' := [(1, .int 0), (0, .ref h)]) hx hb dX3_init_22 rfl hl (by decide) rfl (fun ls hl => ?_)
  exact L1 16 q1 q2 [] 0 H locs ls rfl rfl (lv_sub hl [1, 0] rfl) hI
