theorem x_1723 : Cond.classLink RX13 170 RX12 ∈ tblG := tgm (in_t7 _ (List.mem_of_getElem? (i := 145) rfl)) rfl
theorem x_1724 : Cond.instantiable RX12 32 ∈ tblG := tgm (in_t7 _ (List.mem_of_getElem? (i := 146) rfl)) rfl
theorem KX.nest {g : GT} {U : State} (h : KX g U) : va_Nw (.methodLinkNest RX13 306 yX12_init RX13) U := h.2.2.2.2.2
theorem In.drop {g : GT} {A : Nat → Prop} {H0 H : Heap} {s : State} {ws ws' : va_W} {locs : List Loc} (hI : In g A H0 s (ws ++ ws') H locs) : In g A H0 s ws H locs :=
  have e : ∀ (k : Nat) (q : Nat × va_E), ws[k]? = some q → (ws ++ ws')[k]? = some q := fun k q hk => by
    obtain ⟨h, _⟩ := List.getElem?_eq_some_iff.mp hk
    rw [List.getElem?_append_left h]
    exact hk
  ⟨hI.1, hI.2.1.by (fun k => k) e, hI.2.2.1.by (fun k => k) e (fun _ _ _ _ h => h), hI.2.2.2⟩
def CT (l : Launch) (y : MethodName) (cc : ByteArray) (n : Nat) (rm : Room) (g : GT) (av : List Value) (ws : va_W) (mk : Option Nat × (Nat → Nat) → va_W) (r : Int32) : Prop :=
  ∀ sz : Nat, Met l y (Wl y cc n (some .int)) rm (va_Pc av (CPre g ws sz)) (va_Qi (fun r' (_ : Option Nat × (Nat → Nat)) => r' = r) (fun u t => CB g ws (mk u) sz t) (va_A ws sz)) rm.cells rm.slots (va_A ws sz)
section TT
variable {p : Program} {l : Launch} {e : Env} {R : Room} {s : State} {m : MethodId} {args : Array Value} {below : List Frame} {meth : Method} {c : Code} {H : Heap} {locs : List Loc} {cells slots : Nat} {Q : State → Prop}
variable {cc : ByteArray} {pc n : Nat} {ls : Array Slot} {rest : List Value} {own : String} {g : GT} {A : Nat → Prop} {H0 : Heap} {ws ws' w w' : va_W} {ret : Option FieldType}
theorem end_T {r : Int32} {mc ms : Nat} {mk : Option Nat × (Nat → Nat) → va_W} (u : Option Nat × (Nat → Nat)) (hQ : Q = MQ below (va_Qi (fun r' (_ : Option Nat × (Nat → Nat)) => r' = r) (fun u t => CB g ws (mk u) s.heap.size t) (va_A ws s.heap.size)) args s mc ms (va_A ws s.heap.size)) (hA : A = va_A ws s.heap.size) (C : Cx p s m args meth c cc n own (some .int)) (hI : In g A s.heap s (mk u) H locs) (hc : Nat.ble cells mc = true) (hs : Nat.ble slots ms = true) (hd : decode cc pc = .ok (.ireturn, 1)) : W p l e R s m args below meth c H locs cells slots Q (F0 m pc ls [.int r]) := by
  subst hA hQ
  refine W.widen (k := mc) (n := ms) (Nat.le_of_ble_eq_true hc) (Nat.le_of_ble_eq_true hs) ?_
  exact W.iret C.1 C.2.1 C.2.2.2.2.2.1 (fun t ht hW => ⟨⟨r, u, rfl, rfl, by rw [ht]; exact hI.2.1, hI.2.2.1⟩, hI.2.2.2.1.F ht⟩) hI.2.2.2.1.2.2 hd C.2.2.2.2.2.2
variable {rm : Room} {index k maxL ci a : Nat} {y : MethodName} {bytes : ByteArray} {As : List Value} {st0 : List Value} {lv : List (Nat × Value)} {mk : (Nat → Nat → Nat) → va_W} {f : (Nat → Nat → Nat) → va_W}
theorem call_NN {host : String} (X : Cx p s m args meth c cc n own ret) (hI : In g A H0 s ws H locs) (hj : ∀ B, Cj ws (f B) w (mk B)) (hC : CN l y bytes maxL rm g (.ref a :: As) w a mk) (hk : va_Nw (.methodLinkNest own index y host) s) (hco : Cond.code y bytes maxL none ∈ tblG) (hini : (Cond.initialized y.cls).before args s = true) (hdd : y.cls ≠ "java/lang/invoke/MethodHandle" ∧ y.cls ≠ "java/lang/invoke/VarHandle" ∧ (parseMethodDescriptor y.desc).map (fun d => d.parameters.length) = some k) (hi : Cond.instanceMethod y ∈ tblG) (hy : y.name = "<init>")
    (hn : As.length = k) (hl : lv_has ls n lv) (hst : st0 = As.reverse ++ .ref a :: rest) (hr : Nat.ble ((rest.map fun v => v.category).sum) 8 = true) (hd : decode cc pc = .ok (.invokespecial index, 3)) (hf : Nat.ble (rm.frames + 1) R.frames = true) (hlo : Nat.ble (8 + (maxL + 11) + rm.locals) R.locals = true) (hm : Nat.ble (cells + rm.cells) R.cells = true) (hm2 : Nat.ble (slots + rm.slots) R.slots = true)
    (kk : ∀ (B : Nat → Nat → Nat) (H1 : Heap) (locs1 : List Loc), B 0 0 = a → In g A H0 s (f B) H1 locs1 → W p l e R s m args below meth c H1 locs1 (cells + rm.cells) (slots + rm.slots) Q (F0 m (pc + 3) ls rest)) : W p l e R s m args below meth c H locs cells slots Q (F0 m pc ls st0) := by
  have hj0 := hj (fun _ _ => 0)
  refine va_callv (va_runIN ⟨X.1, X.2.1, X.2.2.1, X.2.2.2.1, X.2.2.2.2.1⟩ (hC H.size) ⟨va_cnB k X.2.2.2.2.1 (goodG hco) rfl rfl rfl hk hini hdd ⟨Nat.le_of_ble_eq_true hf, Nat.le_of_ble_eq_true hlo⟩, hy, X.2.2.2.2.1 _ hi⟩ ⟨cpre_blind, fun U hU hW => pre_i hI hj0 hU hW⟩ rfl hn hl.1 hst (lv_room (Nat.le_of_ble_eq_true hr)) hd ⟨Nat.le_of_ble_eq_true hm, Nat.le_of_ble_eq_true hm2⟩) hI.2.2.2.1 (fun q _ h => free_i hI hj0 q h) (free_i hI hj0) (fun B t H1 locs1 ht hvm hw hB hz hk hS => kk B H1 locs1 hw (back_i hI (hj B) ht hB hk hS))
end TT
theorem up_Md_read {g : GT} {a : Nat → Nat} {qt qr qr' : Option Nat} {s : MdS} : Ups (wMd g a qt qr s) (wMd g a qt qr' s) (a 0, oMd a qt qr s) (a 0, oMd a qt qr' s) := ⟨0, rfl, rfl⟩
theorem up_Md_tangle {g : GT} {a : Nat → Nat} {qt qr qt' : Option Nat} {s : MdS} : Ups (wMd g a qt qr s) (wMd g a qt' qr s) (a 0, oMd a qt qr s) (a 0, oMd a qt' qr s) := ⟨0, rfl, rfl⟩
/-- the world behind it: the old tangle kept, or the new one alone -/
def wT (g : GT) (a : Nat → Nat) (qt : Option Nat) (old : va_W) (md : MdS) (ot : Option TnS) (u : Option Nat × (Nat → Nat)) : va_W :=
  match ot with
  | none => wMd g a qt u.1 md ++ old
  | some tn => wMd g a (some (u.2 0)) (some (u.2 0)) md ++ (wTn g u.2 tn ++ [])
abbrev rm_X13_tangle : Room := { frames := 12, cells := 24, slots := 311, locals := 300 }
set_option maxRecDepth 20000 in
theorem c_X13_tangle (l : Launch) (g : GT) (a_md : Nat → Nat) (qt qr : Option Nat) (old : va_W) (md : MdS) (p1 : Int32) (r_ : Int32) (o_md : MdS) (ot : Option TnS) (hf : f_X13_tangle md p1 = some (r_, o_md, ot)) : CT l yX13_tangle cX13_tangle 2 rm_X13_tangle g [.ref (a_md 0), .int p1] (wMd g a_md qt qr md ++ old) (wT g a_md qt old o_md ot) r_ := by
  refine start2 (y := yX13_tangle) (cc := cX13_tangle) (n := 2) (av := [.ref (a_md 0), .int p1]) (ws := (wMd g a_md qt qr md ++ old)) (Qc := fun sz => va_Qi (fun r' (_ : Option Nat × (Nat → Nat)) => r' = r_) (fun u t => CB g (wMd g a_md qt qr md ++ old) (wT g a_md qt old o_md ot u) sz t) (va_A (wMd g a_md qt qr md ++ old) sz)) (by decide) rfl ?_
  intro p e s m args below meth c ls Q A ha hQ hA X hl hI hin
  have X : Cx p s m args meth c cX13_tangle 2 RX13 (some .int) := X
  have hl : lv_has ls 2 [(0, .ref (a_md 0)), (1, .int p1)] := hl
  obtain ⟨hx, hb, hml, hown, ht, hr, hlk⟩ := id X
  clear ha hin
  unfold f_X13_tangle at hf
  refine lv_aload_n hx hb dX13_tangle_0 rfl (lv_at hl 0 rfl) ?_
  refine lv_iconst (v := 0) hx hb dX13_tangle_1 (by decide) ?_
  refine p_Md_thrown X hI up_Md_thrown.l (X.fl w_1583) dX13_tangle_2 (fun H locs hI => ?_)
  generalize hz_ : (Md_thrown' md (0 : Int32)) = md_1 at hI hf
  clear hz_
  replace hf := lt_e hf
  refine lv_iload_n hx hb dX13_tangle_5 rfl (lv_at hl 1 rfl) ?_
  refine lv_if_lt (tgt := 17) hx hb dX13_tangle_6 (by decide) (fun h_ => ?_) (fun h_ => ?_)
  · replace hf := if_t h_ hf
    refine lv_aload_n hx hb dX13_tangle_17 rfl (lv_at hl 0 rfl) ?_
    refine lv_iconst (v := 2) hx hb dX13_tangle_18 (by decide) ?_
    obtain ⟨r_1, md_2, hc_, hf⟩ := bd2_some hf
    refine call_Vi X hI (Cj.keep Cj.nil) (c_X13_refused l g a_md qt qr md_1 2 r_1 md_2 hc_) ⟨rfl, rfl⟩ ⟨ht _ w_1719, w_1722, ht _ w_155, lk_X13_refused⟩ w_1721 w_65 rfl rfl rfl hl rfl rfl dX13_tangle_19 rfl rfl rfl rfl (fun H locs hI => ?_)
    cases hf
    exact end_T (qr, fun _ => 0) hQ hA X hI rfl rfl dX13_tangle_22
  · replace hf := if_f h_ hf
    refine lv_iload_n hx hb dX13_tangle_9 rfl (lv_at hl 1 rfl) ?_
    refine lv_aload_n hx hb dX13_tangle_10 rfl (lv_at hl 0 rfl) ?_
    refine g_Md_taped X hI has_Md.l (X.fl w_1589) dX13_tangle_11 ?_
    refine lv_icmp_le (tgt := 23) hx hb dX13_tangle_14 (by decide) (fun h_ => ?_) (fun h_ => ?_)
    rotate_left
    · replace hf := if_t h_ hf
      refine lv_aload_n hx hb dX13_tangle_17 rfl (lv_at hl 0 rfl) ?_
      refine lv_iconst (v := 2) hx hb dX13_tangle_18 (by decide) ?_
      obtain ⟨r_1, md_2, hc_, hf⟩ := bd2_some hf
      refine call_Vi X hI (Cj.keep Cj.nil) (c_X13_refused l g a_md qt qr md_1 2 r_1 md_2 hc_) ⟨rfl, rfl⟩ ⟨ht _ w_1719, w_1722, ht _ w_155, lk_X13_refused⟩ w_1721 w_65 rfl rfl rfl hl rfl rfl dX13_tangle_19 rfl rfl rfl rfl (fun H locs hI => ?_)
      cases hf
      exact end_T (qr, fun _ => 0) hQ hA X hI rfl rfl dX13_tangle_22
    replace hf := if_f (fun h => h h_) hf
    refine lv_aload_n hx hb dX13_tangle_23 rfl (lv_at hl 0 rfl) ?_
    refine lv_iload_n hx hb dX13_tangle_24 rfl (lv_at hl 1 rfl) ?_
    refine p_Md_size X hI up_Md_size.l (X.fl w_1590) dX13_tangle_25 (fun H locs hI => ?_)
    generalize hz_ : (Md_size' md_1 p1) = md_2 at hI hf
    clear hz_
    replace hf := lt_e hf
    refine lv_aload_n hx hb dX13_tangle_28 rfl (lv_at hl 0 rfl) ?_
    refine lv_iconst (v := 0) hx hb dX13_tangle_29 (by decide) ?_
    refine p_Md_taped X hI up_Md_taped.l (X.fl w_1589) dX13_tangle_30 (fun H locs hI => ?_)
    generalize hz_ : (Md_taped' md_2 (0 : Int32)) = md_3 at hI hf
    clear hz_
    replace hf := lt_e hf
    refine lv_aload_n hx hb dX13_tangle_33 rfl (lv_at hl 0 rfl) ?_
    refine lv_iconst (v := 0) hx hb dX13_tangle_34 (by decide) ?_
    refine p_Md_spot X hI up_Md_spot.l (X.fl w_1591) dX13_tangle_35 (fun H locs hI => ?_)
    generalize hz_ : (Md_spot' md_3 (0 : Int32)) = md_4 at hI hf
    clear hz_
    replace hf := lt_e hf
    refine lv_aload_n hx hb dX13_tangle_38 rfl (lv_at hl 0 rfl) ?_
    refine lv_iconst (v := 0) hx hb dX13_tangle_39 (by decide) ?_
    refine p_Md_fault X hI up_Md_fault.l (X.fl w_1595) dX13_tangle_40 (fun H locs hI => ?_)
    generalize hz_ : (Md_fault' md_4 (0 : Int32)) = md_5 at hI hf
    clear hz_
    replace hf := lt_e hf
    refine lv_aload_n hx hb dX13_tangle_43 rfl (lv_at hl 0 rfl) ?_
    refine new_O (ci := 12) (fs := [.int 0, .int 0, .int 0, .int 0, .int 0, .int 0, .int 0, .int 0, .null, .null, .null, .null, .null, .null, .null, .null, .null, .null, .null, .null, .null, .null, .null, .null, .null, .null, .null, .null, .null, .null, .null, .long 0]) X hI inG12 tyX12_ok rfl x_1723 x_1724 w_159 (by decide) rfl rfl dX13_tangle_44 (fun q1 H hI => ?_)
    refine lv_dup hx hb dX13_tangle_47 rfl ?_
    refine call_NN (k := 0) (f := fun B0 => (wMd g a_md qt qr md_5 ++ old) ++ wTn g (B0 0) Tn0) X hI (fun _ => Cj.skip Cj.id) (c_X12_init l g q1) (KX.nest hI.1.2.2) w_1727 (ht _ w_159) lk_X12_init w_1726 rfl rfl hl rfl rfl dX13_tangle_48 rfl rfl rfl rfl (fun B0 H9 locs9 hbB0 hI9 => ?_)
    clear hI
    subst hbB0
    have hI := hI9.eq (ws' := wMd g a_md qt qr md_5 ++ (old ++ (wTn g (B0 0) Tn0 ++ []))) (by simp only [List.append_assoc, List.append_nil])
    clear hI9
    generalize hb0 : B0 0 = b0 at hI ⊢
    clear hb0
    refine put_f (ci := 13) (k := 4) (ty := tyX13 4) X hI (up_Md_read (qr' := some (b0 0))).l inG13 tyX13_ok nmX13 rfl rfl (X.fl w_1587) rfl (by decide +kernel) rfl rfl rfl rfl dX13_tangle_51 (fun H locs hI => ?_)
    refine lv_aload_n hx hb dX13_tangle_54 rfl (lv_at hl 0 rfl) ?_
    refine lv_iconst (v := 0) hx hb dX13_tangle_55 (by decide) ?_
    refine p_Md_sort X hI up_Md_sort.l (X.fl w_1592) dX13_tangle_56 (fun H locs hI => ?_)
    generalize hz_ : (Md_sort' md_5 (0 : Int32)) = md_6 at hI hf
    clear hz_
    replace hf := lt_e hf
    obtain ⟨md_7, hc_, hf⟩ := bd1_some hf
    refine lv_aload_n hx hb dX13_tangle_59 rfl (lv_at hl 0 rfl) ?_
    refine call_Vv X hI (Cj.keep Cj.nil) (c_X13_goesOn l g a_md qt (some (b0 0)) md_6 md_7 hc_) ⟨rfl, rfl⟩ ⟨ht _ w_1856, w_1859, ht _ w_155, lk_X13_goesOn⟩ w_1858 w_66 rfl rfl rfl hl rfl rfl dX13_tangle_60 rfl rfl rfl rfl (fun H locs hI => ?_)
    clear hc_
    obtain ⟨md_8, tn_1, hc_, hf⟩ := bd2_some hf
    refine lv_aload_n hx hb dX13_tangle_63 rfl (lv_at hl 0 rfl) ?_
    refine call_Vv X hI (Cj.keep (Cj.skip Cj.id)) (c_X13_readAll l g a_md b0 qt md_7 Tn0 md_8 tn_1 hc_) ⟨rfl, rfl⟩ ⟨ht _ w_1871, w_1874, ht _ w_155, lk_X13_readAll⟩ w_1873 w_68 rfl rfl rfl hl rfl rfl dX13_tangle_64 rfl rfl rfl rfl (fun H locs hI => ?_)
    clear hc_
    refine lv_aload_n hx hb dX13_tangle_67 rfl (lv_at hl 0 rfl) ?_
    refine g_Md_fault X hI has_Md.l (X.fl w_1595) dX13_tangle_68 ?_
    refine lv_if_le (tgt := 89) hx hb dX13_tangle_71 (by decide) (fun h_ => ?_) (fun h_ => ?_)
    · replace hf := if_t h_ hf
      refine lv_aload_n hx hb dX13_tangle_89 rfl (lv_at hl 0 rfl) ?_
      refine lv_aload_n hx hb dX13_tangle_90 rfl (lv_at hl 0 rfl) ?_
      refine g_Md_read_S X hI has_Md.l (X.fl w_1587) dX13_tangle_91 ?_
      refine put_f (ci := 13) (k := 3) (ty := tyX13 3) X hI (up_Md_tangle (qt' := some (b0 0))).l inG13 tyX13_ok nmX13 rfl rfl (X.fl w_1586) rfl (by decide +kernel) rfl rfl rfl rfl dX13_tangle_94 (fun H locs hI => ?_)
      obtain ⟨tn_2, hc_, hf⟩ := bd1_some hf
      refine lv_aload_n hx hb dX13_tangle_97 rfl (lv_at hl 0 rfl) ?_
      refine g_Md_tangle_S X hI has_Md.l (X.fl w_1586) dX13_tangle_98 ?_
      refine call_Vv X hI (Cj.skip (Cj.skip Cj.id)) (c_X12_laysRings l g b0 tn_1 tn_2 hc_) ⟨rfl, rfl⟩ ⟨ht _ w_1978, w_1981, ht _ w_159, lk_X12_laysRings⟩ w_1979 w_1980 rfl rfl rfl hl rfl rfl dX13_tangle_101 rfl rfl rfl rfl (fun H locs hI => ?_)
      clear hc_
      refine lv_aload_n hx hb dX13_tangle_104 rfl (lv_at hl 0 rfl) ?_
      refine lv_aload_n hx hb dX13_tangle_105 rfl (lv_at hl 0 rfl) ?_
      refine g_Md_tangle_S X hI has_Md.l (X.fl w_1586) dX13_tangle_106 ?_
      refine g_Tn_first X hI has_Tn.l.r.r (hI.fn (List.mem_of_getElem? (i := 110) rfl)) dX13_tangle_109 ?_
      refine p_Md_now X hI up_Md_now.l (X.fl w_1598) dX13_tangle_112 (fun H locs hI => ?_)
      generalize hz_ : (Md_now' md_8 (Tn_first tn_2)) = md_9 at hI hf
      clear hz_
      replace hf := lt_e hf
      refine lv_aload_n hx hb dX13_tangle_115 rfl (lv_at hl 0 rfl) ?_
      refine lv_bipush (v := (-2)) hx hb dX13_tangle_116 (by decide) ?_
      refine p_Md_parted X hI up_Md_parted.l (X.fl w_1599) dX13_tangle_118 (fun H locs hI => ?_)
      generalize hz_ : (Md_parted' md_9 (-2 : Int32)) = md_10 at hI hf
      clear hz_
      replace hf := lt_e hf
      refine lv_aload_n hx hb dX13_tangle_121 rfl (lv_at hl 0 rfl) ?_
      refine lv_iconst (v := 0) hx hb dX13_tangle_122 (by decide) ?_
      refine p_Md_lifted X hI up_Md_lifted.l (X.fl w_1600) dX13_tangle_123 (fun H locs hI => ?_)
      generalize hz_ : (Md_lifted' md_10 (0 : Int32)) = md_11 at hI hf
      clear hz_
      replace hf := lt_e hf
      refine lv_aload_n hx hb dX13_tangle_126 rfl (lv_at hl 0 rfl) ?_
      refine lv_iconst (v := 0) hx hb dX13_tangle_127 (by decide) ?_
      refine p_Md_seed X hI up_Md_seed.l (X.fl w_1601) dX13_tangle_128 (fun H locs hI => ?_)
      generalize hz_ : (Md_seed' md_11 (0 : Int32)) = md_12 at hI hf
      clear hz_
      replace hf := lt_e hf
      refine lv_aload_n hx hb dX13_tangle_131 rfl (lv_at hl 0 rfl) ?_
      refine lv_iconst (v := 0) hx hb dX13_tangle_132 (by decide) ?_
      refine p_Md_acts X hI up_Md_acts.l (X.fl w_1622) dX13_tangle_133 (fun H locs hI => ?_)
      generalize hz_ : (Md_acts' md_12 (0 : Int32)) = md_13 at hI hf
      clear hz_
      replace hf := lt_e hf
      refine lv_aload_n hx hb dX13_tangle_136 rfl (lv_at hl 0 rfl) ?_
      refine lv_iconst (v := 0) hx hb dX13_tangle_137 (by decide) ?_
      refine p_Md_marks X hI up_Md_marks.l (X.fl w_1623) dX13_tangle_138 (fun H locs hI => ?_)
      generalize hz_ : (Md_marks' md_13 (0 : Int32)) = md_14 at hI hf
      clear hz_
      replace hf := lt_e hf
      refine lv_aload_n hx hb dX13_tangle_141 rfl (lv_at hl 0 rfl) ?_
      refine lv_aload_n hx hb dX13_tangle_142 rfl (lv_at hl 0 rfl) ?_
      refine g_Md_tangle_S X hI has_Md.l (X.fl w_1586) dX13_tangle_143 ?_
      refine g_Tn_rings X hI has_Tn.l.r.r (hI.fn (List.mem_of_getElem? (i := 84) rfl)) dX13_tangle_146 ?_
      obtain ⟨r_1, md_15, hc_, hf⟩ := bd2_some hf
      refine call_Vi X hI (Cj.keep Cj.nil) (c_X13_good l g a_md (some (b0 0)) (some (b0 0)) md_14 (Tn_rings tn_2) r_1 md_15 hc_) ⟨rfl, rfl⟩ ⟨ht _ w_1998, w_2001, ht _ w_155, lk_X13_good⟩ w_2000 w_92 rfl rfl rfl hl rfl rfl dX13_tangle_149 rfl rfl rfl rfl (fun H locs hI => ?_)
      cases hf
      replace hI := hI.perm (ws' := (wMd g a_md (some (b0 0)) (some (b0 0)) o_md ++ (wTn g b0 tn_2 ++ [])) ++ old) (by rw [List.append_nil, List.append_assoc]; exact List.Perm.append_left _ List.perm_append_comm)
      exact end_T (some (b0 0), b0) hQ hA X hI.drop rfl rfl dX13_tangle_152
    · replace hf := if_f h_ hf
      refine lv_aload_n hx hb dX13_tangle_74 rfl (lv_at hl 0 rfl) ?_
      refine lv_iconst (v := 4) hx hb dX13_tangle_75 (by decide) ?_
      refine p_Md_trouble X hI up_Md_trouble.l (X.fl w_1584) dX13_tangle_76 (fun H locs hI => ?_)
      generalize hz_ : (Md_trouble' md_8 (4 : Int32)) = md_9 at hI hf
      clear hz_
      replace hf := lt_e hf
      refine lv_aload_n hx hb dX13_tangle_79 rfl (lv_at hl 0 rfl) ?_
      refine lv_aload_n hx hb dX13_tangle_80 rfl (lv_at hl 0 rfl) ?_
      refine g_Md_wrongAt X hI has_Md.l (X.fl w_1596) dX13_tangle_81 ?_
      refine p_Md_where X hI up_Md_where.l (X.fl w_1585) dX13_tangle_84 (fun H locs hI => ?_)
      generalize hz_ : (Md_where' md_9 (Md_wrongAt md_9)) = md_10 at hI hf
      clear hz_
      replace hf := lt_e hf
      refine lv_iconst (v := (-1)) hx hb dX13_tangle_87 (by decide) ?_
      cases hf
      replace hI := hI.eq (ws' := (wMd g a_md qt (some (b0 0)) o_md ++ old) ++ wTn g b0 tn_1) (by simp only [List.append_assoc, List.append_nil])
      exact end_T (some (b0 0), b0) hQ hA X hI.drop rfl rfl dX13_tangle_88
