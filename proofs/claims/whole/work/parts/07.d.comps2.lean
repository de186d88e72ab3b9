/-! History: its moments lie behind its rows of references -/
def oHi (a : Nat → Nat) (s : HiS) : va_E := .inr (3, [.ref (a 1), .ref (a 2), .int (Hi_kept s), .int (Hi_marked s), .int (Hi_free s)])
def wHi (g : GT) (a : Nat → Nat) (s : HiS) : va_W :=
  [(a 0, oHi a s), (a 1, .inl (g.2 4, 16, .inr (.inr (.inr (.inr (fun i => some (a (3 + i)))))))), (a 2, .inl (g.2 4, 3, .inr (.inr (.inr (.inr (fun i => some (a (19 + i))))))))] ++
  ((List.range 16).map (fun i => (a (3 + i), oMo (fun _ => a (3 + i)) (Hi_mo s i))) ++ (List.range 3).map (fun i => (a (19 + i), oMo (fun _ => a (19 + i)) (Hi_mk s i))))
theorem has_Hi {g : GT} {a : Nat → Nat} {s : HiS} : Has (wHi g a s) (a 0, oHi a s) := ⟨0, rfl⟩
theorem has_Hi_moments {g : GT} {a : Nat → Nat} {s : HiS} : Has (wHi g a s) (a 1, .inl (g.2 4, 16, .inr (.inr (.inr (.inr (fun i => some (a (3 + i)))))))) := ⟨1, rfl⟩
theorem has_Hi_marks {g : GT} {a : Nat → Nat} {s : HiS} : Has (wHi g a s) (a 2, .inl (g.2 4, 3, .inr (.inr (.inr (.inr (fun i => some (a (19 + i)))))))) := ⟨2, rfl⟩
theorem up_Hi_kept {g : GT} {a : Nat → Nat} {s : HiS} {v : Int32} : Ups (wHi g a s) (wHi g a (Hi_kept' s v)) (a 0, oHi a s) (a 0, oHi a (Hi_kept' s v)) := ⟨0, rfl, rfl⟩
theorem up_Hi_marked {g : GT} {a : Nat → Nat} {s : HiS} {v : Int32} : Ups (wHi g a s) (wHi g a (Hi_marked' s v)) (a 0, oHi a s) (a 0, oHi a (Hi_marked' s v)) := ⟨0, rfl, rfl⟩
theorem up_Hi_free {g : GT} {a : Nat → Nat} {s : HiS} {v : Int32} : Ups (wHi g a s) (wHi g a (Hi_free' s v)) (a 0, oHi a s) (a 0, oHi a (Hi_free' s v)) := ⟨0, rfl, rfl⟩
theorem Has.map {N i : Nat} {f : Nat → Nat × va_E} (h : i < N) : Has ((List.range N).map f) (f i) := ⟨i, by rw [List.getElem?_map, List.getElem?_range h]; rfl⟩
theorem Ups.map {N i : Nat} {f f' : Nat → Nat × va_E} (h : i < N) (hf : ∀ j, j ≠ i → f' j = f j) : Ups ((List.range N).map f) ((List.range N).map f') (f i) (f' i) := by
  refine ⟨i, by rw [List.getElem?_map, List.getElem?_range h]; rfl, List.ext_getElem? fun j => ?_⟩
  rw [List.getElem?_set]
  by_cases hj : i = j
  · subst hj
    rw [if_pos rfl, List.getElem?_map, List.getElem?_range h]
    simp [h]
  · rw [if_neg hj, List.getElem?_map, List.getElem?_map]
    cases hr : (List.range N)[j]? with
    | none => rfl
    | some k =>
      have : k = j := by
        obtain ⟨h1, h2⟩ := List.getElem?_eq_some_iff.mp hr
        rw [List.getElem_range] at h2
        exact h2.symm
      subst this
      show some (f k) = some (f' k)
      rw [hf k (fun q => hj q.symm)]
theorem has_Hi_mo {g : GT} {a : Nat → Nat} {s : HiS} {i : Nat} (h : i < 16) : Has (wHi g a s) (a (3 + i), oMo (fun _ => a (3 + i)) (Hi_mo s i)) := Has.r (Has.l (Has.map (f := fun i => (a (3 + i), oMo (fun _ => a (3 + i)) (Hi_mo s i))) h))
theorem has_Hi_mk {g : GT} {a : Nat → Nat} {s : HiS} {i : Nat} (h : i < 3) : Has (wHi g a s) (a (19 + i), oMo (fun _ => a (19 + i)) (Hi_mk s i)) := Has.r (Has.r (Has.map (f := fun i => (a (19 + i), oMo (fun _ => a (19 + i)) (Hi_mk s i))) h))
theorem up_Hi_mo {g : GT} {a : Nat → Nat} {s : HiS} {i : Nat} {v : MoS} (h : i < 16) : Ups (wHi g a s) (wHi g a (Hi_mo' s (va_up (Hi_mo s) i v))) (a (3 + i), oMo (fun _ => a (3 + i)) (Hi_mo s i)) (a (3 + i), oMo (fun _ => a (3 + i)) v) := by
  have h1 := Ups.map (N := 16) (f := fun i => (a (3 + i), oMo (fun _ => a (3 + i)) (Hi_mo s i))) (f' := fun j => (a (3 + j), oMo (fun _ => a (3 + j)) (va_up (Hi_mo s) i v j))) h (fun j hj => by show (_, _) = (_, _); rw [va_up_ne _ _ hj])
  have h2 := Ups.r (a := [(a 0, oHi a s), (a 1, .inl (g.2 4, 16, .inr (.inr (.inr (.inr (fun i => some (a (3 + i)))))))), (a 2, .inl (g.2 4, 3, .inr (.inr (.inr (.inr (fun i => some (a (19 + i))))))))]) (Ups.l (b := (List.range 3).map (fun i => (a (19 + i), oMo (fun _ => a (19 + i)) (Hi_mk s i)))) h1)
  have e : va_up (Hi_mo s) i v i = v := if_pos rfl
  rw [e] at h2
  exact h2
theorem up_Hi_mk {g : GT} {a : Nat → Nat} {s : HiS} {i : Nat} {v : MoS} (h : i < 3) : Ups (wHi g a s) (wHi g a (Hi_mk' s (va_up (Hi_mk s) i v))) (a (19 + i), oMo (fun _ => a (19 + i)) (Hi_mk s i)) (a (19 + i), oMo (fun _ => a (19 + i)) v) := by
  have h1 := Ups.map (N := 3) (f := fun i => (a (19 + i), oMo (fun _ => a (19 + i)) (Hi_mk s i))) (f' := fun j => (a (19 + j), oMo (fun _ => a (19 + j)) (va_up (Hi_mk s) i v j))) h (fun j hj => by show (_, _) = (_, _); rw [va_up_ne _ _ hj])
  have h2 := Ups.r (a := [(a 0, oHi a s), (a 1, .inl (g.2 4, 16, .inr (.inr (.inr (.inr (fun i => some (a (3 + i)))))))), (a 2, .inl (g.2 4, 3, .inr (.inr (.inr (.inr (fun i => some (a (19 + i))))))))]) (Ups.r (a := (List.range 16).map (fun i => (a (3 + i), oMo (fun _ => a (3 + i)) (Hi_mo s i)))) h1)
  have e : va_up (Hi_mk s) i v i = v := if_pos rfl
  rw [e] at h2
  exact h2
/-! Colouring: seven rows of sixteen, by the places that the outer row tells -/
def oCo (a : Nat → Nat) (s : CoS) : va_E := .inr (2, [.ref (a 1), .ref (a 2), .ref (a 3), .ref (a 4), .int (Co_arcs s)])
abbrev hCo (g : GT) (a : Nat → Nat) (s : CoS) : va_W := [(a 0, oCo a s), (a 1, .inl (g.2 0, 7, .inl (Co_overArc s))), (a 2, .inl (g.2 0, 7, .inl (Co_arcBefore s))), (a 3, .inl (g.2 0, 7, .inl (Co_arcBehind s))), (a 4, .inl (g.2 5, 7, .inr (.inr (.inr (.inr (fun i => some (a (5 + Co_pi s i))))))))]
def wCo (g : GT) (a : Nat → Nat) (s : CoS) : va_W := hCo g a s ++ (List.range 7).map (fun j => (a (5 + j), .inl (g.2 0, 16, .inl (Co_rw s j))))
section CO
variable {g : GT} {a : Nat → Nat} {s : CoS} {f : Nat → Int32}
theorem has_Co : Has (wCo g a s) (a 0, oCo a s) := ⟨0, rfl⟩
theorem has_Co_overArc : Has (wCo g a s) (a 1, .inl (g.2 0, 7, .inl (Co_overArc s))) := ⟨1, rfl⟩
theorem has_Co_arcBefore : Has (wCo g a s) (a 2, .inl (g.2 0, 7, .inl (Co_arcBefore s))) := ⟨2, rfl⟩
theorem has_Co_arcBehind : Has (wCo g a s) (a 3, .inl (g.2 0, 7, .inl (Co_arcBehind s))) := ⟨3, rfl⟩
theorem has_Co_rows : Has (wCo g a s) (a 4, .inl (g.2 5, 7, .inr (.inr (.inr (.inr (fun i => some (a (5 + Co_pi s i)))))))) := ⟨4, rfl⟩
theorem has_Co_rw {j : Nat} (h : j < 7) : Has (wCo g a s) (a (5 + j), .inl (g.2 0, 16, .inl (Co_rw s j))) := Has.r (Has.map (f := fun j => (a (5 + j), .inl (g.2 0, 16, .inl (Co_rw s j)))) h)
theorem up_Co_overArc : Ups (wCo g a s) (wCo g a (Co_overArc' s f)) (a 1, .inl (g.2 0, 7, .inl (Co_overArc s))) (a 1, .inl (g.2 0, 7, .inl f)) := ⟨1, rfl, rfl⟩
theorem up_Co_arcBefore : Ups (wCo g a s) (wCo g a (Co_arcBefore' s f)) (a 2, .inl (g.2 0, 7, .inl (Co_arcBefore s))) (a 2, .inl (g.2 0, 7, .inl f)) := ⟨2, rfl, rfl⟩
theorem up_Co_arcBehind : Ups (wCo g a s) (wCo g a (Co_arcBehind' s f)) (a 3, .inl (g.2 0, 7, .inl (Co_arcBehind s))) (a 3, .inl (g.2 0, 7, .inl f)) := ⟨3, rfl, rfl⟩
theorem up_Co_arcs {v : Int32} : Ups (wCo g a s) (wCo g a (Co_arcs' s v)) (a 0, oCo a s) (a 0, oCo a (Co_arcs' s v)) := ⟨0, rfl, rfl⟩
theorem up_Co_pi {i j : Nat} : Ups (wCo g a s) (wCo g a (Co_pi' s (va_up (Co_pi s) i j))) (a 4, .inl (g.2 5, 7, .inr (.inr (.inr (.inr (fun i => some (a (5 + Co_pi s i)))))))) (a 4, .inl (g.2 5, 7, .inr (.inr (.inr (.inr (va_up (fun i => some (a (5 + Co_pi s i))) i (some (a (5 + j))))))))) := by
  have e : va_up (fun i => some (a (5 + Co_pi s i))) i (some (a (5 + j))) = fun k => some (a (5 + Co_pi (Co_pi' s (va_up (Co_pi s) i j)) k)) := by
    funext k
    show (if k = i then _ else _) = some (a (5 + if k = i then j else Co_pi s k))
    by_cases h : k = i
    · rw [if_pos h, if_pos h]
    · rw [if_neg h, if_neg h]
  rw [e]
  exact ⟨4, rfl, rfl⟩
theorem up_Co_rw {j : Nat} (h : j < 7) : Ups (wCo g a s) (wCo g a (Co_rw' s (va_up (Co_rw s) j f))) (a (5 + j), .inl (g.2 0, 16, .inl (Co_rw s j))) (a (5 + j), .inl (g.2 0, 16, .inl f)) := by
  have h1 := Ups.map (N := 7) (f := fun j => (a (5 + j), .inl (g.2 0, 16, .inl (Co_rw s j)))) (f' := fun k => (a (5 + k), .inl (g.2 0, 16, .inl (va_up (Co_rw s) j f k)))) h (fun k hk => by show (_, _) = (_, _); rw [va_up_ne _ _ hk])
  have h2 := Ups.r (a := hCo g a s) h1
  have e : va_up (Co_rw s) j f j = f := if_pos rfl
  rw [e] at h2
  exact h2
end CO
theorem ckn_some {α : Type} {j n : Nat} {K : Option α} {r : α} (h : ckn j n K = some r) : j < n ∧ K = some r := by
  unfold ckn at h
  split at h
  · rename_i h1
    exact ⟨h1, h⟩
  · cases h
theorem ckn_in {α : Type} {j n : Nat} {K : Option α} (h : j < n) : ckn j n K = K := if_pos h
theorem Cj.both {a a' b b' w w' v v' : va_W} (h : Cj a a' w w') (k : Cj b b' v v') : Cj (a ++ b) (a' ++ b') (w ++ v) (w' ++ v') := by
  obtain ⟨r, h1, h2⟩ := h
  obtain ⟨q, k1, k2⟩ := k
  refine ⟨r ++ q, (h1.append k1).trans ?_, (h2.append k2).trans ?_⟩
  · rw [List.append_assoc, List.append_assoc]
    exact List.Perm.append_left w perm_mid
  · rw [List.append_assoc, List.append_assoc]
    exact List.Perm.append_left w' perm_mid
theorem Cj.swap {ws ws' x x' y y' : va_W} (h : Cj ws ws' (x ++ (y ++ [])) (x' ++ (y' ++ []))) : Cj ws ws' (y ++ (x ++ [])) (y' ++ (x' ++ [])) := by
  rw [List.append_nil] at h ⊢
  rw [List.append_nil] at h ⊢
  exact h.perm List.perm_append_comm List.perm_append_comm
section WALK4
variable {p : Program} {l : Launch} {e : Env} {R : Room} {s : State} {m : MethodId} {args : Array Value} {below : List Frame} {meth : Method} {c : Code} {H : Heap} {locs : List Loc} {cells slots : Nat} {Q : State → Prop}
variable {cc : ByteArray} {pc n : Nat} {ls : Array Slot} {rest : List Value} {own : String} {g : GT} {A : Nat → Prop} {H0 : Heap} {ws ws' w w' : va_W} {ret : Option FieldType}
theorem ld_M {a N : Nat} {f : Nat → Nat} {i : Int32} (X : Cx p s m args meth c cc n own ret) (hI : In g A H0 s ws H locs) (hm : Has ws (a, .inl (g.2 4, N, .inr (.inr (.inr (.inr (fun i => some (f i)))))))) (hin : vp_in i N) (hd : decode cc pc = .ok (.aaload, 1))
    (kk : W p l e R s m args below meth c H locs cells slots Q (F0 m (pc + 1) ls (.ref (f i.toNatClampNeg) :: rest))) : W p l e R s m args below meth c H locs cells slots Q (F0 m pc ls (.int i :: .ref a :: rest)) := by
  obtain ⟨q0, hm⟩ := hm
  exact va_aldq X.1 X.2.1 hI.1.1 hI.2.1 q0 4 hm rfl hin hd kk
theorem vp_lt {i : Int32} {n : Nat} (h : vp_in i n) : i.toNatClampNeg < n := Nat.not_le.mp fun q => h (Or.inr q)
theorem ld_W {a N : Nat} {f : Nat → Nat} {i : Int32} (X : Cx p s m args meth c cc n own ret) (hI : In g A H0 s ws H locs) (hm : Has ws (a, .inl (g.2 5, N, .inr (.inr (.inr (.inr (fun i => some (f i)))))))) (hin : vp_in i N) (hd : decode cc pc = .ok (.aaload, 1))
    (kk : W p l e R s m args below meth c H locs cells slots Q (F0 m (pc + 1) ls (.ref (f i.toNatClampNeg) :: rest))) : W p l e R s m args below meth c H locs cells slots Q (F0 m pc ls (.int i :: .ref a :: rest)) := by
  obtain ⟨q0, hm⟩ := hm
  have hlt : i.toNatClampNeg < N := vp_lt hin
  have hk := hI.1.1.2 5 _ (show (tyL g)[5]? = some (g.2 5, .array .int) from rfl)
  exact W.aald (v := .ref (f i.toNatClampNeg)) (ty := .array .int) X.1 X.2.1 (hI.2.1 q0 _ hm) (hk.1 N (fun j => va_rf (some (f j)))) rfl (fun q => by cases q) (by show ¬ (i < 0 ∨ (arrV _ _ _).slots.size ≤ _); rw [arrV_size]; exact hin) (by show (arrV _ _ _).slots[_]? = _; rw [arrV_read _ _ hlt]; rfl) rfl rfl hd kk
theorem st_W {a N M v : Nat} {r : Nat → Int32} {f : Nat → Option Nat} {i : Int32} (X : Cx p s m args meth c cc n own ret) (hI : In g A H0 s ws H locs) (hm : Ups ws ws' (a, .inl (g.2 5, N, .inr (.inr (.inr (.inr f))))) (a, .inl (g.2 5, N, .inr (.inr (.inr (.inr (va_up f i.toNatClampNeg (some v)))))))) (hv : Has ws (v, .inl (g.2 0, M, .inl r))) (hin : vp_in i N) (hd : decode cc pc = .ok (.aastore, 1))
    (kk : ∀ (H1 : Heap) (locs1 : List Loc), In g A H0 s ws' H1 locs1 → W p l e R s m args below meth c H1 locs1 cells slots Q (F0 m (pc + 1) ls rest)) : W p l e R s m args below meth c H locs cells slots Q (F0 m pc ls (.ref v :: .int i :: .ref a :: rest)) := by
  obtain ⟨q0, ha, hu⟩ := hm
  obtain ⟨qk, hv⟩ := hv
  have hlt : i.toNatClampNeg < N := vp_lt hin
  have h0 : ¬ i < 0 := fun q => hin (Or.inl q)
  have hk5 := hI.1.1.2 5 _ (show (tyL g)[5]? = some (g.2 5, .array .int) from rfl)
  have hk0 := hI.1.1.2 0 _ (show (tyL g)[0]? = some (g.2 0, .int) from rfl)
  obtain ⟨comp, cA2, kA, k3, -, k1, k2, k4⟩ := arrayOverA_spec (va_AOA.use (A := args) hI.1.2.2.1)
  have e5 : g.2 5 = cA2 := Option.some.inj ((hk5.2 : s.vm.findClass ("[" ++ (FieldType.array .int).toString) = some (g.2 5)).symm.trans k4)
  have e0 : g.2 0 = comp := Option.some.inj ((hk0.2 : s.vm.findClass ("[" ++ FieldType.int.toString) = some (g.2 0)).symm.trans k3)
  obtain ⟨kE, hkE, -⟩ := Vm.findClass_spec k3
  rw [← e5] at k1
  rw [← e0] at k2 hkE
  have hP := hI.2.1
  have hD := hI.2.2.1
  have g1 : H[v]? = some (vp_cell (g.2 0) (M, .inl r)) := hP qk _ hv
  refine W.aast X.1 X.2.1 (hP q0 _ ha) (fun q h => by cases h) (fun h => by cases h) k1 k2 rfl hkE ⟨h0, by show _ < (arrV _ _ _).slots.size; rw [arrV_size]; exact hlt⟩ g1 (fun q h => by cases h) hkE (va_asg _ _) rfl rfl hd fun H1 e z oq => ?_
  refine kk H1 _ ⟨hI.1, ?_, ?_, hI.2.2.2.1.put z oq (hD.2 q0 _ ha), hI.2.2.2.2⟩
  · rw [← hu]
    refine hP.set hD ha ?_ oq
    show H1[a]? = some (vp_cell _ _)
    rw [e]
    rw [vp_cell_q, vp_cell_q, arrV_store]
    congr 2
    funext q
    by_cases hq : q = i.toNatClampNeg
    · subst hq
      simp [updV, va_up, va_rf]
    · simp [updV, va_up, hq]
  · rw [← hu]
    exact hD.set ha
end WALK4
section CPY
variable {p : Program} {l : Launch} {e : Env} {R : Room} {s : State} {m : MethodId} {args : Array Value} {below : List Frame} {meth : Method} {c : Code} {H : Heap} {locs : List Loc} {cells slots : Nat} {Q : State → Prop}
variable {cc : ByteArray} {pc n : Nat} {ls : Array Slot} {rest : List Value} {own : String} {g : GT} {A : Nat → Prop} {H0 : Heap} {ws ws' w w' : va_W} {ret : Option FieldType}
theorem ckc_some {α : Type} {sp dp k : Int32} {n0 n1 : Nat} {K : Option α} {r : α} (h : ckc sp dp k n0 n1 K = some r) : ¬ (sp < 0 ∨ dp < 0 ∨ k < 0 ∨ n0 < sp.toNatClampNeg + k.toNatClampNeg ∨ n1 < dp.toNatClampNeg + k.toNatClampNeg) ∧ K = some r := by
  unfold ckc at h
  split at h
  · cases h
  · rename_i h1
    exact ⟨h1, h⟩
theorem cp_I {a a0 n0 n1 index : Nat} {f f2 : Nat → Int32} {sp dp k : Int32} {lv : List (Nat × Value)} (X : Cx p s m args meth c cc n own ret) (hI : In g A H0 s ws H locs) (h0 : Has ws (a0, .inl (g.2 0, n0, .inl f))) (hm : Ups ws ws' (a, .inl (g.2 0, n1, .inl f2)) (a, .inl (g.2 0, n1, .inl (va_cpy f f2 sp.toNatClampNeg dp.toNatClampNeg k.toNatClampNeg)))) (hc : ¬ (sp < 0 ∨ dp < 0 ∨ k < 0 ∨ n0 < sp.toNatClampNeg + k.toNatClampNeg ∨ n1 < dp.toNatClampNeg + k.toNatClampNeg))
    (hlink : (Cond.methodLink own index arraycopyName).before args s = true) (hnat : (Cond.native arraycopyName).before args s = true) (hstat : (Cond.static arraycopyName).before args s = true) (hini : (Cond.initialized "java/lang/System").before args s = true) (hl : lv_has ls n lv) (hframes : Nat.ble 1 R.frames = true) (hlocals : Nat.ble ((rest.map fun v => v.category).sum + (nativeFrameWords "java/lang/System" "arraycopy" 5 + 11)) R.locals = true) (hd : decode cc pc = .ok (.invokestatic index, 3))
    (kk : ∀ (H1 : Heap) (locs1 : List Loc), In g A H0 s ws' H1 locs1 → W p l e R s m args below meth c H1 locs1 cells slots Q (F0 m (pc + 3) ls rest)) : W p l e R s m args below meth c H locs cells slots Q (F0 m pc ls (.int k :: .int dp :: .ref a :: .int sp :: .ref a0 :: rest)) := by
  obtain ⟨q0, h0⟩ := h0
  obtain ⟨q1, hm, hu⟩ := hm
  refine va_copyi (ty := .int) X.1 X.2.1 (by rw [X.2.2.1]; exact hl.1.symm) X.2.2.2.1 hlink hnat hstat hini hI.1.1 hI.2.1 hI.2.2.1 hI.2.2.2.1 q0 q1 0 0 h0 hm rfl rfl rfl (fun q => hc (Or.inl q)) (fun q => hc (Or.inr (Or.inl q))) (fun q => hc (Or.inr (Or.inr (Or.inl q)))) (Nat.not_lt.mp fun q => hc (Or.inr (Or.inr (Or.inr (Or.inl q))))) (Nat.not_lt.mp fun q => hc (Or.inr (Or.inr (Or.inr (Or.inr q))))) (fun i _ => rfl) (Nat.le_of_ble_eq_true hframes) (Nat.le_of_ble_eq_true hlocals) hd (fun H1 locs1 h1 h2 h3 => ?_)
  rw [hu] at h1 h2
  exact kk H1 locs1 ⟨hI.1, h1, h2, h3, hI.2.2.2.2⟩
theorem w_acL : Cond.methodLink RX6 81 arraycopyName ∈ tblG := List.mem_filter.mpr ⟨List.mem_of_getElem? (i := 899) (by decide +kernel), rfl⟩
theorem w_acS : Cond.static arraycopyName ∈ tblG := List.mem_filter.mpr ⟨List.mem_of_getElem? (i := 900) (by decide +kernel), rfl⟩
theorem w_acN : Cond.native arraycopyName ∈ tblG := List.mem_filter.mpr ⟨List.mem_of_getElem? (i := 901) (by decide +kernel), rfl⟩
theorem w_acI : Cond.initialized "java/lang/System" ∈ tblG := List.mem_filter.mpr ⟨by decide +kernel, rfl⟩
theorem va_ldcSW (hexec : p.tables.exec = Jvm.exec) (hb : c.code = cc) {tx : String} {index q : Nat} (hown : s.vm.findClass own = some m.cls) (hZ : vk_R own index tx q s) (hdg : decode cc pc = .ok (.ldc_w index, 3))
    (k : W p l e R s m args below meth c H locs cells slots Q (F0 m (pc + 3) ls (.ref q :: rest))) : W p l e R s m args below meth c H locs cells slots Q (F0 m pc ls rest) := by
  intro T hT X
  obtain ⟨t, a1, b1⟩ := k T hT X
  exact ⟨t, X.ldcStringW hexec hown (text := tx) (a := q) hZ.1 hZ.2 (g := F0 m pc ls rest) rfl (by rw [hb]; exact hdg) t a1, b1⟩
end CPY
