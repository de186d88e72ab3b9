/-! small steps of the pure side: named values, checks, branches; and the rows over a world -/
theorem lt_e {α β : Type} {v : α} {K : α → β} {r : β} (h : lt1 v K = r) : K v = r := h
theorem lt_to {α β : Type} {x v : α} {K : α → β} {r : β} (e : x = v) (h : lt1 v K = r) : K x = r := by rw [e]; exact h
theorem ck_someM {α : Type} {i : Int32} {n : Nat} {K : Option α} {r : α} (h : ck i n K = some r) : vp_in i n ∧ K = some r := by
  unfold ck at h
  split at h
  · cases h
  · rename_i h1
    exact ⟨h1, h⟩
theorem ck_in {α : Type} {i : Int32} {n : Nat} {K : Option α} (h : vp_in i n) : ck i n K = K := if_neg h
theorem nz_some {α : Type} {i : Int32} {K : Option α} {r : α} (h : nz i K = some r) : ¬ i = 0 ∧ K = some r := by
  unfold nz at h
  split at h
  · cases h
  · rename_i h1
    exact ⟨h1, h⟩
theorem nz_in {α : Type} {i : Int32} {K : Option α} (h : ¬ i = 0) : nz i K = K := if_neg h
theorem nzl_some {α : Type} {i : Int64} {K : Option α} {r : α} (h : nzl i K = some r) : ¬ i = 0 ∧ K = some r := by
  unfold nzl at h
  split at h
  · cases h
  · rename_i h1
    exact ⟨h1, h⟩
theorem nzl_in {α : Type} {i : Int64} {K : Option α} (h : ¬ i = 0) : nzl i K = K := if_neg h
theorem zb_some {α : Type} {i : Int32} {K : Option α} {r : α} (h : zb i K = some r) : (i = 0 ∨ i = 1) ∧ K = some r := by
  unfold zb at h
  split at h
  · rename_i h1
    exact ⟨h1, h⟩
  · cases h
theorem zb_in {α : Type} {i : Int32} {K : Option α} (h : i = 0 ∨ i = 1) : zb i K = K := if_pos h
theorem zb_n {i : Int32} (h : i = 0 ∨ i = 1) : narrow .boolean (.int i) = .int i := by rcases h with rfl | rfl <;> rfl
theorem zb_f {i : Int32} (h : i = 0 ∨ i = 1) : fits .boolean (.int i) = true := by rcases h with rfl | rfl <;> decide
theorem bd_some {α β : Type} {x : Option α} {K : α → Option β} {r : β} (h : bd x K = some r) : ∃ a, x = some a ∧ K a = some r := by
  cases x with
  | none => cases h
  | some a => exact ⟨a, rfl, h⟩
theorem bd_at {α β : Type} {x : Option α} {K : α → Option β} {a : α} (h : x = some a) : bd x K = K a := by rw [h]; rfl
theorem if_t {α : Type} {c : Prop} [Decidable c] {a b r : α} (h : c) (e : (if c then a else b) = r) : a = r := by rw [if_pos h] at e; exact e
theorem if_f {α : Type} {c : Prop} [Decidable c] {a b r : α} (h : ¬ c) (e : (if c then a else b) = r) : b = r := by rw [if_neg h] at e; exact e
/-- a cell that the world has; a cell of it changed -/
def Has (ws : va_W) (x : Nat × va_E) : Prop := ∃ k : Nat, ws[k]? = some x
def Ups (ws ws' : va_W) (x x' : Nat × va_E) : Prop := ∃ k : Nat, ws[k]? = some x ∧ ws.set k x' = ws'
theorem Has.l {a b : va_W} {x : Nat × va_E} (h : Has a x) : Has (a ++ b) x := by
  obtain ⟨k, h⟩ := h
  exact ⟨k, by rw [List.getElem?_append_left (List.getElem?_eq_some_iff.mp h).1]; exact h⟩
theorem Has.r {a b : va_W} {x : Nat × va_E} (h : Has b x) : Has (a ++ b) x := by
  obtain ⟨k, h⟩ := h
  exact ⟨a.length + k, by rw [List.getElem?_append_right (Nat.le_add_right _ _), Nat.add_sub_cancel_left]; exact h⟩
theorem Ups.l {a a' b : va_W} {x x' : Nat × va_E} (h : Ups a a' x x') : Ups (a ++ b) (a' ++ b) x x' := by
  obtain ⟨k, h, e⟩ := h
  have hk := (List.getElem?_eq_some_iff.mp h).1
  exact ⟨k, by rw [List.getElem?_append_left hk]; exact h, by rw [List.set_append_left _ _ hk, e]⟩
theorem Ups.r {a b b' : va_W} {x x' : Nat × va_E} (h : Ups b b' x x') : Ups (a ++ b) (a ++ b') x x' := by
  obtain ⟨k, h, e⟩ := h
  exact ⟨a.length + k, by rw [List.getElem?_append_right (Nat.le_add_right _ _), Nat.add_sub_cancel_left]; exact h, by rw [List.set_append_right _ _ (Nat.le_add_right _ _), Nat.add_sub_cancel_left, e]⟩
section WALK2
variable {p : Program} {l : Launch} {e : Env} {R : Room} {s : State} {m : MethodId} {args : Array Value} {below : List Frame} {meth : Method} {c : Code} {H : Heap} {locs : List Loc} {cells slots : Nat} {Q : State → Prop}
variable {cc : ByteArray} {pc n : Nat} {ls : Array Slot} {rest : List Value} {own : String} {g : GT} {A : Nat → Prop} {H0 : Heap} {ws ws' w w' : va_W} {ret : Option FieldType}
/-- a field's link, of the class itself or of a nest mate -/
def FL (s : State) (args : Array Value) (own : String) (idx : Nat) (ref name desc : String) : Prop := (Cond.fieldLink own idx ref name desc).before args s = true ∨ ∃ host, va_Nw (.fieldLinkNest own idx ref name desc host) s
theorem Cx.fl {idx : Nat} {ref name desc : String} (X : Cx p s m args meth c cc n own ret) (h : Cond.fieldLink own idx ref name desc ∈ tblG) : FL s args own idx ref name desc := Or.inl (X.2.2.2.2.1 _ h)
theorem In.fn {idx : Nat} {ref name desc host : String} (hI : In g A H0 s ws H locs) (h : (own, idx, ref, name, desc, host) ∈ nestF) : FL s args own idx ref name desc := Or.inr ⟨host, hI.1.2.1 _ h⟩
theorem get_f {ci k N idx a : Nat} {T : u_T} {Cn : String} {v : Value} {fs : List Value} (X : Cx p s m args meth c cc n own ret) (hI : In g A H0 s ws H locs) (hm : Has ws (a, .inr (ci, fs))) (hin : ∀ w ∈ u_ws Cn T N, w ∈ tblG) (hc : vwCl[ci]? = some (Cn, T, N)) (hk : Nat.blt k N = true) (hl : FL s args own idx (T k).1 (T k).2.1 (T k).2.2.1) (hv : fs[k]? = some v) (hd : decode cc pc = .ok (.getfield idx, 3))
    (kk : W p l e R s m args below meth c H locs cells slots Q (F0 m (pc + 3) ls (v :: rest))) : W p l e R s m args below meth c H locs cells slots Q (F0 m pc ls (.ref a :: rest)) := by
  obtain ⟨q0, hm⟩ := hm
  have hk : k < N := Nat.le_of_ble_eq_true hk
  rcases hl with hl | ⟨host, hl⟩
  · exact va_get X.1 X.2.1 X.2.2.2.2.1 hin X.2.2.2.1 hI.1.1 hI.2.1 q0 hm hc k hk hl (fun _ h9 => h9) hv hd kk
  · exact va_getN X.1 X.2.1 X.2.2.2.2.1 hin X.2.2.2.1 hI.1.1 hI.2.1 q0 hm hc k hk (va_Nw.use rfl hl) (fun _ h9 => h9) hv hd kk
theorem put_f {ci k N idx a : Nat} {T : u_T} {Cn : String} {v : Value} {fs fs' : List Value} {ty0 : Nat → FieldType} {ty : FieldType} (X : Cx p s m args meth c cc n own ret) (hI : In g A H0 s ws H locs) (hm : Ups ws ws' (a, .inr (ci, fs)) (a, .inr (ci, fs'))) (hin : ∀ w ∈ u_ws Cn T N, w ∈ tblG) (hty : ∀ k, k < N → parseFieldDescriptor (T k).2.2.1 = some (ty0 k)) (hnm : ∀ a, a < N → ∀ b, b < N → a ≠ b → (T a).2.1 ≠ (T b).2.1) (hc : vwCl[ci]? = some (Cn, T, N)) (hk : Nat.blt k N = true) (hl : FL s args own idx (T k).1 (T k).2.1 (T k).2.2.1) (hfin : (T k).2.2.2 = false) (hdk : parseFieldDescriptor (T k).2.2.1 = some ty) (hn : narrow ty v = v) (hfit : fits ty v = true) (hln : Nat.blt k fs.length = true) (hfs : fs.set k v = fs') (hd : decode cc pc = .ok (.putfield idx, 3))
    (kk : ∀ (H1 : Heap) (locs1 : List Loc), In g A H0 s ws' H1 locs1 → W p l e R s m args below meth c H1 locs1 cells slots Q (F0 m (pc + 3) ls rest)) : W p l e R s m args below meth c H locs cells slots Q (F0 m pc ls (v :: .ref a :: rest)) := by
  obtain ⟨q0, hm, hu⟩ := hm
  have hk : k < N := Nat.le_of_ble_eq_true hk
  have hln : k < fs.length := Nat.le_of_ble_eq_true hln
  subst hfs
  rcases hl with hl | ⟨host, hl⟩
  · refine va_put X.1 X.2.1 X.2.2.2.2.1 hin ty0 hty hnm X.2.2.2.1 hI.1.1 hI.2.1 hI.2.2.1 hI.2.2.2.1 q0 hm hc k hk hl (fun _ h9 => h9) hfin hdk hn hfit hln hd (fun H1 locs1 h1 h2 h3 => ?_)
    rw [hu] at h1 h2
    exact kk H1 locs1 ⟨hI.1, h1, h2, h3, hI.2.2.2.2⟩
  · refine va_putN X.1 X.2.1 X.2.2.2.2.1 hin ty0 hty hnm X.2.2.2.1 hI.1.1 hI.2.1 hI.2.2.1 hI.2.2.2.1 q0 hm hc k hk (va_Nw.use rfl hl) (fun _ h9 => h9) hfin hdk hn hfit hln hd (fun H1 locs1 h1 h2 h3 => ?_)
    rw [hu] at h1 h2
    exact kk H1 locs1 ⟨hI.1, h1, h2, h3, hI.2.2.2.2⟩
theorem ld_I {a N : Nat} {f : Nat → Int32} {i : Int32} (X : Cx p s m args meth c cc n own ret) (hI : In g A H0 s ws H locs) (hm : Has ws (a, .inl (g.2 0, N, .inl f))) (hin : vp_in i N) (hd : decode cc pc = .ok (.iaload, 1))
    (kk : W p l e R s m args below meth c H locs cells slots Q (F0 m (pc + 1) ls (.int (f i.toNatClampNeg) :: rest))) : W p l e R s m args below meth c H locs cells slots Q (F0 m pc ls (.int i :: .ref a :: rest)) := by
  obtain ⟨q0, hm⟩ := hm
  exact va_iald X.1 X.2.1 hI.1.1 hI.2.1 q0 0 hm rfl hin hd kk
theorem ld_J {a N : Nat} {f : Nat → Int64} {i : Int32} (X : Cx p s m args meth c cc n own ret) (hI : In g A H0 s ws H locs) (hm : Has ws (a, .inl (g.2 1, N, .inr (.inl f)))) (hin : vp_in i N) (hd : decode cc pc = .ok (.laload, 1))
    (kk : W p l e R s m args below meth c H locs cells slots Q (F0 m (pc + 1) ls (.long (f i.toNatClampNeg) :: rest))) : W p l e R s m args below meth c H locs cells slots Q (F0 m pc ls (.int i :: .ref a :: rest)) := by
  obtain ⟨q0, hm⟩ := hm
  exact va_lald X.1 X.2.1 hI.1.1 hI.2.1 q0 1 hm rfl hin hd kk
theorem ld_Z {a N : Nat} {f : Nat → Int32} {i : Int32} (X : Cx p s m args meth c cc n own ret) (hI : In g A H0 s ws H locs) (hm : Has ws (a, .inl (g.2 2, N, .inl f))) (hin : vp_in i N) (hd : decode cc pc = .ok (.baload, 1))
    (kk : W p l e R s m args below meth c H locs cells slots Q (F0 m (pc + 1) ls (.int (f i.toNatClampNeg) :: rest))) : W p l e R s m args below meth c H locs cells slots Q (F0 m pc ls (.int i :: .ref a :: rest)) := by
  obtain ⟨q0, hm⟩ := hm
  exact va_zald X.1 X.2.1 hI.1.1 hI.2.1 q0 2 hm rfl hin hd kk
theorem ld_B {a N : Nat} {f : Nat → Int32} {i : Int32} (X : Cx p s m args meth c cc n own ret) (hI : In g A H0 s ws H locs) (hm : Has ws (a, .inl (g.2 3, N, .inl f))) (hin : vp_in i N) (hd : decode cc pc = .ok (.baload, 1))
    (kk : W p l e R s m args below meth c H locs cells slots Q (F0 m (pc + 1) ls (.int (f i.toNatClampNeg) :: rest))) : W p l e R s m args below meth c H locs cells slots Q (F0 m pc ls (.int i :: .ref a :: rest)) := by
  obtain ⟨q0, hm⟩ := hm
  exact va_bald X.1 X.2.1 hI.1.1 hI.2.1 q0 3 hm rfl hin hd kk
theorem st_I {a N : Nat} {f : Nat → Int32} {i x : Int32} (X : Cx p s m args meth c cc n own ret) (hI : In g A H0 s ws H locs) (hm : Ups ws ws' (a, .inl (g.2 0, N, .inl f)) (a, .inl (g.2 0, N, .inl (upd f i.toNatClampNeg x)))) (hin : vp_in i N) (hd : decode cc pc = .ok (.iastore, 1))
    (kk : ∀ (H1 : Heap) (locs1 : List Loc), In g A H0 s ws' H1 locs1 → W p l e R s m args below meth c H1 locs1 cells slots Q (F0 m (pc + 1) ls rest)) : W p l e R s m args below meth c H locs cells slots Q (F0 m pc ls (.int x :: .int i :: .ref a :: rest)) := by
  obtain ⟨q0, hm, hu⟩ := hm
  refine va_iast X.1 X.2.1 hI.1.1 hI.2.1 hI.2.2.1 hI.2.2.2.1 q0 0 hm rfl hin hd (fun H1 locs1 h1 h2 h3 => ?_)
  rw [hu] at h1 h2
  exact kk H1 locs1 ⟨hI.1, h1, h2, h3, hI.2.2.2.2⟩
theorem st_J {a N : Nat} {f : Nat → Int64} {i : Int32} {x : Int64} (X : Cx p s m args meth c cc n own ret) (hI : In g A H0 s ws H locs) (hm : Ups ws ws' (a, .inl (g.2 1, N, .inr (.inl f))) (a, .inl (g.2 1, N, .inr (.inl (vp_updL f i.toNatClampNeg x))))) (hin : vp_in i N) (hd : decode cc pc = .ok (.lastore, 1))
    (kk : ∀ (H1 : Heap) (locs1 : List Loc), In g A H0 s ws' H1 locs1 → W p l e R s m args below meth c H1 locs1 cells slots Q (F0 m (pc + 1) ls rest)) : W p l e R s m args below meth c H locs cells slots Q (F0 m pc ls (.long x :: .int i :: .ref a :: rest)) := by
  obtain ⟨q0, hm, hu⟩ := hm
  refine va_last X.1 X.2.1 hI.1.1 hI.2.1 hI.2.2.1 hI.2.2.2.1 q0 1 hm rfl hin hd (fun H1 locs1 h1 h2 h3 => ?_)
  rw [hu] at h1 h2
  exact kk H1 locs1 ⟨hI.1, h1, h2, h3, hI.2.2.2.2⟩
theorem st_Z {a N : Nat} {f : Nat → Int32} {i x : Int32} (X : Cx p s m args meth c cc n own ret) (hI : In g A H0 s ws H locs) (hm : Ups ws ws' (a, .inl (g.2 2, N, .inl f)) (a, .inl (g.2 2, N, .inl (upd f i.toNatClampNeg (vp_nar .boolean x))))) (hin : vp_in i N) (hd : decode cc pc = .ok (.bastore, 1))
    (kk : ∀ (H1 : Heap) (locs1 : List Loc), In g A H0 s ws' H1 locs1 → W p l e R s m args below meth c H1 locs1 cells slots Q (F0 m (pc + 1) ls rest)) : W p l e R s m args below meth c H locs cells slots Q (F0 m pc ls (.int x :: .int i :: .ref a :: rest)) := by
  obtain ⟨q0, hm, hu⟩ := hm
  refine va_zast X.1 X.2.1 hI.1.1 hI.2.1 hI.2.2.1 hI.2.2.2.1 q0 2 hm rfl hin hd (fun H1 locs1 h1 h2 h3 => ?_)
  rw [hu] at h1 h2
  exact kk H1 locs1 ⟨hI.1, h1, h2, h3, hI.2.2.2.2⟩
theorem st_B {a N : Nat} {f : Nat → Int32} {i x : Int32} (X : Cx p s m args meth c cc n own ret) (hI : In g A H0 s ws H locs) (hm : Ups ws ws' (a, .inl (g.2 3, N, .inl f)) (a, .inl (g.2 3, N, .inl (upd f i.toNatClampNeg (vp_nar .byte x))))) (hin : vp_in i N) (hd : decode cc pc = .ok (.bastore, 1))
    (kk : ∀ (H1 : Heap) (locs1 : List Loc), In g A H0 s ws' H1 locs1 → W p l e R s m args below meth c H1 locs1 cells slots Q (F0 m (pc + 1) ls rest)) : W p l e R s m args below meth c H locs cells slots Q (F0 m pc ls (.int x :: .int i :: .ref a :: rest)) := by
  obtain ⟨q0, hm, hu⟩ := hm
  refine va_bast X.1 X.2.1 hI.1.1 hI.2.1 hI.2.2.1 hI.2.2.2.1 q0 3 hm rfl hin hd (fun H1 locs1 h1 h2 h3 => ?_)
  rw [hu] at h1 h2
  exact kk H1 locs1 ⟨hI.1, h1, h2, h3, hI.2.2.2.2⟩
theorem al_n {a : Nat} {ty : FieldType} {t0 N : Nat} {cA : ClassId} {x : (Nat → Int32) ⊕ (Nat → Int64) ⊕ (Nat → UInt32) ⊕ (Nat → UInt64) ⊕ (Nat → Option Nat)} {v : Int32} (t : Nat) (X : Cx p s m args meth c cc n own ret) (hI : In g A H0 s ws H locs) (hm : Has ws (a, .inl (cA, N, x))) (ht : (tyL g)[t]? = some (cA, ty)) (hv : Int32.ofNat N = v) (hd : decode cc pc = .ok (.arraylength, 1))
    (kk : W p l e R s m args below meth c H locs cells slots Q (F0 m (pc + 1) ls (.int v :: rest))) : W p l e R s m args below meth c H locs cells slots Q (F0 m pc ls (.ref a :: rest)) := by
  obtain ⟨q0, hm⟩ := hm
  exact va_alen X.1 X.2.1 hI.1.1 hI.2.1 q0 t hm ht hv hd kk
end WALK2
