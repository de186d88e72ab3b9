/-- as start2, for a method of a class some of whose methods are run otherwise -/
theorem start2F {l : Launch} {y : MethodName} {cc : ByteArray} {n : Nat} {ret : Option FieldType} {rm : Room} {g : GT} {av : List Value} {ws : va_W} {Qc : Nat → Array Value → State → Outcome → State → Prop} (hy : plainFor y = true) (hn : Nat.ble (lg_sl av).length n = true)
    (k : ∀ (p : Program) (e : Env) (s : State) (m : MethodId) (args : Array Value) (below : List Frame) (meth : Method) (c : Code) (ls : Array Slot) (Q : State → Prop) (A : Nat → Prop), args = av.toArray → Q = MQ below (Qc s.heap.size) args s rm.cells rm.slots (va_A ws s.heap.size) → A = va_A ws s.heap.size → Cx p s m args meth c cc n y.cls ret → lv_has ls n (lv_args 0 av) → In g A s.heap s ws s.heap [] → (y.name = "<init>" → meth.name = "<init>") →
      W p l e rm s m args below meth c s.heap [] 0 0 Q (F0 m 0 ls [])) (sz : Nat) :
    Met l y (Wl y cc n ret) rm (va_Pc av (CPre g ws sz)) (Qc sz) rm.cells rm.slots (va_A ws sz) := by
  refine va_MetF (cc := cc) (maxL := n) (ret := ret) hy rfl ?_
  intro p e s m args below meth c s₁ B hml hv
  obtain ⟨rfl, hsz, hP, hK, hD0, hST⟩ := hv
  subst hsz
  have hts := atoms_spec (ws := Wl y cc n ret) B.pre
  have hl := lv_entry av (n := n) (Nat.le_of_ble_eq_true hn)
  rw [lg_entry_eq]
  generalize (lg_sl av ++ List.replicate (n - (lg_sl av).length) Slot.unset).toArray = ls at hl ⊢
  exact k p e s m _ below meth c ls _ _ rfl rfl rfl ⟨B.exec, B.bytes, hml, findClass_of_methodNamed B.named, fun w hw => hts w (List.mem_cons_of_mem _ hw), B.returns, B.notSynchronized⟩ hl ⟨hK, hP, hD0.self, va_S.rf, fun q h => Or.inr h, hST⟩ (fun h => by rw [← h]; exact (name_of_methodNamed B.named B.method).1)
/-! the constant texts' length and characters: the JDK's own code -/
section STRS
variable {p : Program} {l : Launch} {e : Env} {R : Room} {s : State} {m : MethodId} {args : Array Value} {below : List Frame} {meth : Method} {c : Code} {H : Heap} {locs : List Loc} {cells slots : Nat} {Q : State → Prop}
variable {cc : ByteArray} {pc n : Nat} {ls : Array Slot} {rest : List Value} {own : String} {g : GT} {A : Nat → Prop} {H0 : Heap} {ws ws' w w' : va_W} {ret : Option FieldType}
variable {rm : Room} {index k maxL ci a : Nat} {y : MethodName} {bytes : ByteArray} {As : List Value} {ret' : Option FieldType} {st0 : List Value} {lv : List (Nat × Value)}
theorem end_n {r : Int32} {ty : FieldType} (hQ : Q = MQ below (QI g ws ws' r s.heap.size) args s cells slots (va_A ws s.heap.size)) (hA : A = va_A ws s.heap.size) (C : Cx p s m args meth c cc n own (some ty)) (hI : In g A s.heap s ws' H locs) (hn : narrow ty (.int r) = .int r) (hd : decode cc pc = .ok (.ireturn, 1)) : W p l e R s m args below meth c H locs cells slots Q (F0 m pc ls [.int r]) := by
  subst hA hQ
  exact W.zret C.1 C.2.1 C.2.2.2.2.2.1 hn (fun t ht hW => ⟨⟨r, (), rfl, rfl, by rw [ht]; exact hI.2.1, hI.2.2.1⟩, hI.2.2.2.1.F ht⟩) hI.2.2.2.1.2.2 hd C.2.2.2.2.2.2
theorem call_T {k0 : Nat} {r : Int32} (X : Cx p s m args meth c cc n own ret) (hI : In g A s.heap s ws H locs) (hC : CI l y bytes maxL ret' rm g (.ref (g.1.2.1 k0) :: As) [] [] r) (hk0 : k0 < strE.length) (hz : rm.cells = 0 ∧ rm.slots = 0) (hk : Lkm s args own index y bytes maxL k ret') (hi : Cond.instanceMethod y ∈ tblG) (hs : Cond.selects "java/lang/String" y y ∈ tblG)
    (hn : As.length = k) (hl : lv_has ls n lv) (hst : st0 = As.reverse ++ .ref (g.1.2.1 k0) :: rest) (hr : Nat.ble ((rest.map fun v => v.category).sum) 8 = true) (hd : decode cc pc = .ok (.invokevirtual index, 3)) (hf : Nat.ble (rm.frames + 1) R.frames = true) (hlo : Nat.ble (8 + (maxL + 11) + rm.locals) R.locals = true) (hm : Nat.ble cells R.cells = true) (hm2 : Nat.ble slots R.slots = true)
    (kk : ∀ (H1 : Heap) (locs1 : List Loc), In g A s.heap s ws H1 locs1 → W p l e R s m args below meth c H1 locs1 cells slots Q (F0 m (pc + 3) ls (.int r :: rest))) : W p l e R s m args below meth c H locs cells slots Q (F0 m pc ls st0) := by
  obtain ⟨z1, z2⟩ := hz
  have hj : Cj ws ws [] [] := Cj.nil
  have hrc : ∃ cell : Cell, H[g.1.2.1 k0]? = some cell ∧ cell.vm.isStatics = false ∧ s.vm.findClass "java/lang/String" = some cell.cls := by
    obtain ⟨cell, h1, h2, h3, -⟩ := (hI.2.2.2.2.2.1 k0 hk0).1.kept hI.2.2.2.1.2.1
    exact ⟨cell, h1, h2, h3⟩
  refine go_i hI hj (va_runV (C := "java/lang/String") ⟨X.1, X.2.1, X.2.2.1, X.2.2.2.1, X.2.2.2.2.1⟩ (hC H.size) ⟨hk.b X.2.2.2.2.1 hf hlo, X.2.2.2.2.1 _ hi, X.2.2.2.2.1 _ hs⟩ ⟨cpre_blind, hrc, fun U hU hW => pre_i hI hj hU hW⟩ rfl hn hl.1 hst (lv_room (Nat.le_of_ble_eq_true hr)) hd ⟨by rw [z1]; exact Nat.le_of_ble_eq_true hm, by rw [z2]; exact Nat.le_of_ble_eq_true hm2⟩) (fun H1 locs1 h1 => ?_)
  rw [z1, z2]
  exact kk H1 locs1 h1
end STRS
theorem k_strlen {k : Nat} {r : Int32} (h : f_strlen k = some r) : k < strE.length := (ckn_some h).1
theorem k_charAt {k : Nat} {i r : Int32} (h : f_charAt k i = some r) : k < strE.length := (ckn_some h).1
abbrev rm_J0_coder : Room := { frames := 0, cells := 0, slots := 0, locals := 0 }
theorem c_J0_coder (l : Launch) (g : GT) (k : Nat) (hk : k < strE.length) : CI l yJ0_coder_7d493 cJ0_coder_7d493 1 (some .byte) rm_J0_coder g [.ref (g.1.2.1 k)] [] [] 0 := by
  refine start2 (y := yJ0_coder_7d493) (ws := []) (Qc := fun sz => QI g [] [] 0 sz) (by decide) rfl ?_
  intro p e s m args below meth c ls Q A ha hQ hA X hl hI hin
  have X : Cx p s m args meth c cJ0_coder_7d493 1 RJ0 (some .byte) := X
  have hl : lv_has ls 1 [(0, .ref (g.1.2.1 k))] := hl
  obtain ⟨hx, hb, hml, hown, ht, hr, hlk⟩ := id X
  have hS := hI.2.2.2.1
  have hT := hI.2.2.2.2.2
  refine va_gets hx hb hT.2.1 hS hown (ht _ w_196) (fun _ h9 => h9) dJ0_coder_7d493_0 ?_
  refine lv_if_eq (tgt := 13) hx hb dJ0_coder_7d493_3 (by decide) (fun h_ => absurd h_ (by decide)) (fun h_ => ?_)
  refine lv_aload_n hx hb dJ0_coder_7d493_6 rfl (lv_at hl 0 rfl) ?_
  refine vk_getf hx hb (hT.1 k hk).2.1 hS hown (ht _ w_2421) (fun _ h9 => h9) dJ0_coder_7d493_7 ?_
  refine lv_goto (tgt := 14) hx hb dJ0_coder_7d493_10 (by decide) ?_
  exact end_n hQ hA X hI rfl dJ0_coder_7d493_14
abbrev rm_J0_isLatin1 : Room := { frames := 0, cells := 0, slots := 0, locals := 0 }
theorem c_J0_isLatin1 (l : Launch) (g : GT) (k : Nat) (hk : k < strE.length) : CI l yJ0_isLatin1_aae02 cJ0_isLatin1_aae02 1 (some .boolean) rm_J0_isLatin1 g [.ref (g.1.2.1 k)] [] [] 1 := by
  refine start2 (y := yJ0_isLatin1_aae02) (ws := []) (Qc := fun sz => QI g [] [] 1 sz) (by decide) rfl ?_
  intro p e s m args below meth c ls Q A ha hQ hA X hl hI hin
  have X : Cx p s m args meth c cJ0_isLatin1_aae02 1 RJ0 (some .boolean) := X
  have hl : lv_has ls 1 [(0, .ref (g.1.2.1 k))] := hl
  obtain ⟨hx, hb, hml, hown, ht, hr, hlk⟩ := id X
  have hS := hI.2.2.2.1
  have hT := hI.2.2.2.2.2
  refine va_gets hx hb hT.2.1 hS hown (ht _ w_196) (fun _ h9 => h9) dJ0_isLatin1_aae02_0 ?_
  refine lv_if_eq (tgt := 17) hx hb dJ0_isLatin1_aae02_3 (by decide) (fun h_ => absurd h_ (by decide)) (fun h_ => ?_)
  refine lv_aload_n hx hb dJ0_isLatin1_aae02_6 rfl (lv_at hl 0 rfl) ?_
  refine vk_getf hx hb (hT.1 k hk).2.1 hS hown (ht _ w_2421) (fun _ h9 => h9) dJ0_isLatin1_aae02_7 ?_
  refine lv_if_ne (tgt := 17) hx hb dJ0_isLatin1_aae02_10 (by decide) (fun h_ => absurd rfl h_) (fun h_ => ?_)
  refine lv_iconst (v := 1) hx hb dJ0_isLatin1_aae02_13 (by decide) ?_
  refine lv_goto (tgt := 18) hx hb dJ0_isLatin1_aae02_14 (by decide) ?_
  exact end_n hQ hA X hI rfl dJ0_isLatin1_aae02_18
abbrev rm_J0_length : Room := { frames := 1, cells := 0, slots := 0, locals := 20 }
theorem c_strlen (l : Launch) (g : GT) (k : Nat) (r : Int32) (hf : f_strlen k = some r) : CI l yJ0_length_8abf5 cJ0_length_8abf5 1 (some .int) rm_J0_length g [.ref (g.1.2.1 k)] [] [] r := by
  obtain ⟨hk, hf⟩ := ckn_some hf
  cases hf
  refine start2 (y := yJ0_length_8abf5) (ws := []) (Qc := fun sz => QI g [] [] (Int32.ofNat (byL.getD k []).length) sz) (by decide) rfl ?_
  intro p e s m args below meth c ls Q A ha hQ hA X hl hI hin
  have X : Cx p s m args meth c cJ0_length_8abf5 1 RJ0 (some .int) := X
  have hl : lv_has ls 1 [(0, .ref (g.1.2.1 k))] := hl
  obtain ⟨hx, hb, hml, hown, ht, hr, hlk⟩ := id X
  have hS := hI.2.2.2.1
  have hT := hI.2.2.2.2.2
  refine lv_aload_n hx hb dJ0_length_8abf5_0 rfl (lv_at hl 0 rfl) ?_
  refine vk_getf hx hb (hT.1 k hk).2.2.1 hS hown (ht _ w_2420) (fun _ h9 => h9) dJ0_length_8abf5_1 ?_
  refine va_tlen hx hb (hT.1 k hk).2.2.2 hS rfl dJ0_length_8abf5_4 ?_
  refine lv_aload_n hx hb dJ0_length_8abf5_5 rfl (lv_at hl 0 rfl) ?_
  refine call_T X hI (c_J0_coder l g k hk) hk ⟨rfl, rfl⟩ ⟨ht _ w_192, w_195, ht _ w_142, lk_J0_coder_7d493⟩ w_193 w_194 rfl hl rfl rfl dJ0_length_8abf5_6 rfl rfl rfl rfl (fun H locs hI => ?_)
  refine lv_ishr hx hb dJ0_length_8abf5_9 ?_
  rw [sb_shr0]
  exact end_i hQ hA X hI dJ0_length_8abf5_10
abbrev rm_J3_checkIndex : Room := { frames := 0, cells := 0, slots := 0, locals := 0 }
theorem c_J3_checkIndexR (l : Launch) (g : GT) (i n : Int32) (q : Nat) (h0 : ¬ i < 0) (h1 : i < n) : CI l yJ3_checkIndex_8e157 cJ3_checkIndex_8e157 3 (some .int) rm_J3_checkIndex g [.int i, .int n, .ref q] [] [] i := by
  refine start2 (y := yJ3_checkIndex_8e157) (ws := []) (Qc := fun sz => QI g [] [] i sz) (by decide) rfl ?_
  intro p e s m args below meth c ls Q A ha hQ hA X hl hI hin
  have X : Cx p s m args meth c cJ3_checkIndex_8e157 3 RJ3 (some .int) := X
  have hl : lv_has ls 3 [(0, .int i), (1, .int n), (2, .ref q)] := hl
  obtain ⟨hx, hb, hml, hown, ht, hr, hlk⟩ := id X
  refine lv_iload_n hx hb dJ3_checkIndex_8e157_0 rfl (lv_at hl 0 rfl) ?_
  refine lv_if_lt (tgt := 9) hx hb dJ3_checkIndex_8e157_1 (by decide) (fun h_ => absurd h_ h0) (fun h_ => ?_)
  refine lv_iload_n hx hb dJ3_checkIndex_8e157_4 rfl (lv_at hl 0 rfl) ?_
  refine lv_iload_n hx hb dJ3_checkIndex_8e157_5 rfl (lv_at hl 1 rfl) ?_
  refine lv_icmp_lt (tgt := 16) hx hb dJ3_checkIndex_8e157_6 (by decide) (fun h_ => ?_) (fun h_ => absurd h1 h_)
  refine lv_iload_n hx hb dJ3_checkIndex_8e157_16 rfl (lv_at hl 0 rfl) ?_
  exact end_i hQ hA X hI dJ3_checkIndex_8e157_17
theorem c_J3_checkIndexN (l : Launch) (g : GT) (i n : Int32) (h0 : ¬ i < 0) (h1 : i < n) : CI l yJ3_checkIndex_8e157 cJ3_checkIndex_8e157 3 (some .int) rm_J3_checkIndex g [.int i, .int n, .null] [] [] i := by
  refine start2 (y := yJ3_checkIndex_8e157) (ws := []) (Qc := fun sz => QI g [] [] i sz) (by decide) rfl ?_
  intro p e s m args below meth c ls Q A ha hQ hA X hl hI hin
  have X : Cx p s m args meth c cJ3_checkIndex_8e157 3 RJ3 (some .int) := X
  have hl : lv_has ls 3 [(0, .int i), (1, .int n), (2, .null)] := hl
  obtain ⟨hx, hb, hml, hown, ht, hr, hlk⟩ := id X
  refine lv_iload_n hx hb dJ3_checkIndex_8e157_0 rfl (lv_at hl 0 rfl) ?_
  refine lv_if_lt (tgt := 9) hx hb dJ3_checkIndex_8e157_1 (by decide) (fun h_ => absurd h_ h0) (fun h_ => ?_)
  refine lv_iload_n hx hb dJ3_checkIndex_8e157_4 rfl (lv_at hl 0 rfl) ?_
  refine lv_iload_n hx hb dJ3_checkIndex_8e157_5 rfl (lv_at hl 1 rfl) ?_
  refine lv_icmp_lt (tgt := 16) hx hb dJ3_checkIndex_8e157_6 (by decide) (fun h_ => ?_) (fun h_ => absurd h1 h_)
  refine lv_iload_n hx hb dJ3_checkIndex_8e157_16 rfl (lv_at hl 0 rfl) ?_
  exact end_i hQ hA X hI dJ3_checkIndex_8e157_17
abbrev rm_J0_checkIndex : Room := { frames := 1, cells := 0, slots := 0, locals := 22 }
theorem c_J0_checkIndex (l : Launch) (g : GT) (i n : Int32) (h0 : ¬ i < 0) (h1 : i < n) : CV l yJ0_checkIndex_df160 cJ0_checkIndex_df160 2 none rm_J0_checkIndex g [.int i, .int n] [] [] := by
  refine start2 (y := yJ0_checkIndex_df160) (ws := []) (Qc := fun sz => QV g [] [] sz) (by decide) rfl ?_
  intro p e s m args below meth c ls Q A ha hQ hA X hl hI hin
  have X : Cx p s m args meth c cJ0_checkIndex_df160 2 RJ0 none := X
  have hl : lv_has ls 2 [(0, .int i), (1, .int n)] := hl
  obtain ⟨hx, hb, hml, hown, ht, hr, hlk⟩ := id X
  have hS := hI.2.2.2.1
  have hT := hI.2.2.2.2.2
  refine lv_iload_n hx hb dJ0_checkIndex_df160_0 rfl (lv_at hl 0 rfl) ?_
  refine lv_iload_n hx hb dJ0_checkIndex_df160_1 rfl (lv_at hl 1 rfl) ?_
  rcases hT.2.2.1 with hz | ⟨t, hz⟩
  · refine va_gets hx hb hz hS hown (ht _ w_212) (fun _ h9 => h9) dJ0_checkIndex_df160_2 ?_
    refine call_Si (As := [.int i, .int n, .null]) X hI Cj.nil (c_J3_checkIndexN l g i n h0 h1) ⟨rfl, rfl⟩ ⟨ht _ w_214, w_216, ht _ w_144, lk_J3_checkIndex_8e157⟩ w_215 rfl hl rfl rfl dJ0_checkIndex_df160_5 rfl rfl rfl rfl (fun H locs hI => ?_)
    refine lv_pop hx hb dJ0_checkIndex_df160_8 rfl ?_
    exact end_v hQ hA X hI dJ0_checkIndex_df160_9
  · refine va_gets hx hb hz hS hown (ht _ w_212) (fun _ h9 => h9) dJ0_checkIndex_df160_2 ?_
    refine call_Si (As := [.int i, .int n, .ref t]) X hI Cj.nil (c_J3_checkIndexR l g i n t h0 h1) ⟨rfl, rfl⟩ ⟨ht _ w_214, w_216, ht _ w_144, lk_J3_checkIndex_8e157⟩ w_215 rfl hl rfl rfl dJ0_checkIndex_df160_5 rfl rfl rfl rfl (fun H locs hI => ?_)
    refine lv_pop hx hb dJ0_checkIndex_df160_8 rfl ?_
    exact end_v hQ hA X hI dJ0_checkIndex_df160_9
theorem by_ok : ∀ x ∈ byL, x.length < 2147483648 ∧ ∀ b ∈ x, ((b &&& 255).toUInt32 % 65536).toInt32 = b ∧ narrow .char (.int b) = .int b := by decide +kernel
abbrev rm_J1_charAt : Room := { frames := 2, cells := 0, slots := 0, locals := 43 }
theorem c_J1_charAt (l : Launch) (g : GT) (k : Nat) (i r : Int32) (hf : f_charAt k i = some r) : CI l yJ1_charAt_3b067 cJ1_charAt_3b067 2 (some .char) rm_J1_charAt g [.ref (g.1.2.2 k), .int i] [] [] r := by
  obtain ⟨hk, hf⟩ := ckn_some hf
  obtain ⟨hin2, hf⟩ := ck_someM hf
  cases hf
  have hkb : k < byL.length := hk
  have hmem : byL.getD k [] ∈ byL := by
    rw [List.getD_eq_getElem?_getD, List.getElem?_eq_getElem hkb]
    exact List.getElem_mem hkb
  obtain ⟨hlen, hby⟩ := by_ok _ hmem
  have hlt := vp_lt hin2
  have hbm : (byL.getD k []).getD i.toNatClampNeg 0 ∈ byL.getD k [] := by
    rw [List.getD_eq_getElem?_getD (l := byL.getD k []), List.getElem?_eq_getElem hlt]
    exact List.getElem_mem hlt
  obtain ⟨hb1, hb2⟩ := hby _ hbm
  have h0 : ¬ i < 0 := fun q => hin2 (Or.inl q)
  have h1 : i < Int32.ofNat (byL.getD k []).length := by
    obtain ⟨j, hj, rfl⟩ := vp_in_of hin2 hlen
    exact nI_lt hj hlen
  refine start2 (y := yJ1_charAt_3b067) (ws := []) (Qc := fun sz => QI g [] [] ((byL.getD k []).getD i.toNatClampNeg 0) sz) (by decide) rfl ?_
  intro p e s m args below meth c ls Q A ha hQ hA X hl hI hin
  have X : Cx p s m args meth c cJ1_charAt_3b067 2 RJ1 (some .char) := X
  have hl : lv_has ls 2 [(0, .ref (g.1.2.2 k)), (1, .int i)] := hl
  obtain ⟨hx, hb, hml, hown, ht, hr, hlk⟩ := id X
  refine lv_iload_n hx hb dJ1_charAt_3b067_0 rfl (lv_at hl 1 rfl) ?_
  refine lv_aload_n hx hb dJ1_charAt_3b067_1 rfl (lv_at hl 0 rfl) ?_
  refine va_tlen hx hb (hI.2.2.2.2.2.1 k hk).2.2.2 hI.2.2.2.1 rfl dJ1_charAt_3b067_2 ?_
  refine call_Sv (As := [.int i, .int (Int32.ofNat (byL.getD k []).length)]) X hI Cj.nil (c_J0_checkIndex l g i (Int32.ofNat (byL.getD k []).length) h0 h1) ⟨rfl, rfl⟩ ⟨ht _ w_209, w_211, ht _ w_142, lk_J0_checkIndex_df160⟩ w_210 rfl hl rfl rfl dJ1_charAt_3b067_3 rfl rfl rfl rfl (fun H locs hI => ?_)
  refine lv_aload_n hx hb dJ1_charAt_3b067_6 rfl (lv_at hl 0 rfl) ?_
  refine lv_iload_n hx hb dJ1_charAt_3b067_7 rfl (lv_at hl 1 rfl) ?_
  refine va_tb hx hb (hI.2.2.2.2.2.1 k hk).2.2.2 hI.2.2.2.1 hin2 rfl dJ1_charAt_3b067_8 ?_
  refine lv_sipush (v := 255) hx hb dJ1_charAt_3b067_9 (by decide) ?_
  refine lv_iand hx hb dJ1_charAt_3b067_12 ?_
  refine lv_i2c hx hb dJ1_charAt_3b067_13 hb1 ?_
  exact end_n hQ hA X hI hb2 dJ1_charAt_3b067_14
abbrev rm_J0_charAt : Room := { frames := 3, cells := 0, slots := 0, locals := 64 }
theorem c_charAt (l : Launch) (g : GT) (k : Nat) (i r : Int32) (hf : f_charAt k i = some r) : CI l yJ0_charAt_5068e cJ0_charAt_5068e 2 (some .char) rm_J0_charAt g [.ref (g.1.2.1 k), .int i] [] [] r := by
  have hk := k_charAt hf
  have hnr : narrow .char (.int r) = .int r := by
    obtain ⟨hk, hf⟩ := ckn_some hf
    obtain ⟨hin2, hf⟩ := ck_someM hf
    cases hf
    have hkb : k < byL.length := hk
    have hmem : byL.getD k [] ∈ byL := by
      rw [List.getD_eq_getElem?_getD, List.getElem?_eq_getElem hkb]
      exact List.getElem_mem hkb
    have hlt := vp_lt hin2
    exact ((by_ok _ hmem).2 _ (by
      rw [List.getD_eq_getElem?_getD (l := byL.getD k []), List.getElem?_eq_getElem hlt]
      exact List.getElem_mem hlt)).2
  refine start2 (y := yJ0_charAt_5068e) (ws := []) (Qc := fun sz => QI g [] [] r sz) (by decide) rfl ?_
  intro p e s m args below meth c ls Q A ha hQ hA X hl hI hin
  have X : Cx p s m args meth c cJ0_charAt_5068e 2 RJ0 (some .char) := X
  have hl : lv_has ls 2 [(0, .ref (g.1.2.1 k)), (1, .int i)] := hl
  obtain ⟨hx, hb, hml, hown, ht, hr, hlk⟩ := id X
  refine lv_aload_n hx hb dJ0_charAt_5068e_0 rfl (lv_at hl 0 rfl) ?_
  refine call_T X hI (c_J0_isLatin1 l g k hk) hk ⟨rfl, rfl⟩ ⟨ht _ w_202, w_205, ht _ w_142, lk_J0_isLatin1_aae02⟩ w_203 w_204 rfl hl rfl rfl dJ0_charAt_5068e_1 rfl rfl rfl rfl (fun H locs hI => ?_)
  refine lv_if_eq (tgt := 16) hx hb dJ0_charAt_5068e_4 (by decide) (fun h_ => absurd h_ (by decide)) (fun h_ => ?_)
  refine lv_aload_n hx hb dJ0_charAt_5068e_7 rfl (lv_at hl 0 rfl) ?_
  refine vk_getf hx hb (hI.2.2.2.2.2.1 k hk).2.2.1 hI.2.2.2.1 hown (ht _ w_2420) (fun _ h9 => h9) dJ0_charAt_5068e_8 ?_
  refine lv_iload_n hx hb dJ0_charAt_5068e_11 rfl (lv_at hl 1 rfl) ?_
  refine call_Si (As := [.ref (g.1.2.2 k), .int i]) X hI Cj.nil (c_J1_charAt l g k i r hf) ⟨rfl, rfl⟩ ⟨ht _ w_206, w_208, ht _ w_143, lk_J1_charAt_3b067⟩ w_207 rfl hl rfl rfl dJ0_charAt_5068e_12 rfl rfl rfl rfl (fun H locs hI => ?_)
  exact end_n hQ hA X hI hnr dJ0_charAt_5068e_15
