/-! ===== BEGIN new T[n][m]: the outer array a place, the inner ones among the pooled ===== -/
/-- f, but v at every address of l -/
def vr_up {α : Type} (f : Nat → α) (l : List Nat) (v : α) : Nat → α := fun a => if a ∈ l then v else f a
theorem vr_up_in {α : Type} {f : Nat → α} {l : List Nat} {v : α} {a : Nat} (h : a ∈ l) : vr_up f l v a = v := if_pos h
theorem vr_up_ne {α : Type} {f : Nat → α} {l : List Nat} {v : α} {a : Nat} (h : a ∉ l) : vr_up f l v a = f a := if_neg h
theorem vr_rows {L l : List Nat} {f : Nat → va_E} {e : va_E} (h : ∀ a, a ∈ l → a ∉ L) : va_pl L f ++ l.map (fun a => (a, e)) = va_pl (L ++ l) (vr_up f l e) := by
  unfold va_pl
  rw [List.map_append]
  congr 1
  · apply List.map_congr_left
    intro a ha
    rw [vr_up_ne (fun q => h a q ha)]
  · apply List.map_congr_left
    intro a ha
    rw [vr_up_in ha]
theorem vr_lay {X rows : va_W} {x : Nat × va_E} {pl : va_W} {D : va_G} {cl : List vw_C} {H : Heap} (hP : va_P D cl (((X ++ pl) ++ [x]) ++ rows) H) : va_P D cl ((X ++ [x]) ++ (pl ++ rows)) H := by
  rw [List.append_assoc (X ++ pl)] at hP
  have h := va_P.swap hP
  rw [← List.append_assoc X] at h
  have h2 := va_P.swap h
  rw [List.append_assoc (X ++ [x])] at h2
  exact h2
theorem vr_layD {X rows : va_W} {x : Nat × va_E} {pl : va_W} {A : Nat → Prop} (hD : va_D A (((X ++ pl) ++ [x]) ++ rows)) : va_D A ((X ++ [x]) ++ (pl ++ rows)) := by
  rw [List.append_assoc (X ++ pl)] at hD
  have h := va_D.swap hD
  rw [← List.append_assoc X] at h
  have h2 := va_D.swap h
  rw [List.append_assoc (X ++ [x])] at h2
  exact h2
theorem vr_outer (c : ClassId) (N h0 : Nat) : ∀ i : Nat, Jvm.Free.Multi.outerC c N h0 i = arrV c N (fun j => va_rf (if j < i then some (h0 + 1 + j) else none))
  | 0 => by
    show ({ cls := c, slots := Array.replicate N .null, vm := .none } : Cell) = _
    rw [arrV_new]
    refine congrArg (arrV c N) (funext fun j => ?_)
    simp [va_rf]
  | i + 1 => by
    show (Jvm.Free.Multi.outerC c N h0 i).setSlot i (.ref (h0 + 1 + i)) = _
    rw [vr_outer c N h0 i, arrV_store]
    refine congrArg (arrV c N) (funext fun j => ?_)
    by_cases e : j = i
    · subst e
      simp [updV, va_rf]
    · by_cases h : j < i
      · simp [updV, e, h, Nat.lt_succ_of_lt h]
      · simp [updV, e, h, show ¬ j < i + 1 by omega]
section VGM
variable {p : Program} {l : Launch} {e : Env} {R : Room} {s : State} {m : MethodId} {args : Array Value} {below : List Frame} {meth : Method} {c : Code} {H : Heap} {locs : List Loc} {cells slots : Nat} {Q : State → Prop}
variable {cc : ByteArray} {pc : Nat} {ls : Array Slot} {rest : List Value} {D : va_G} {cl : List vw_C} {A : Nat → Prop} {a : Nat} {tys : List (ClassId × FieldType)} {ws : va_W} {H0 : Heap}
theorem va_mna {X : va_W} {L : List Nat} {f : Nat → va_E} {cc : ByteArray} (hexec : p.tables.exec = Jvm.exec) (hb : c.code = cc) {own : String} {index : Nat} {ty : FieldType} {cy : ClassId} (hown : s.vm.findClass own = some m.cls) (hclink : (Cond.classLink own index ("[" ++ (FieldType.array ty).toString)).before args s = true) (hover : va_AOA ty s) (harr : (Cond.arrayClass ty).before args s = true) (hcy : s.vm.findClass (FieldType.array ty).toString = some cy)
    (hK : va_K D cl tys s) (hP : va_P D cl (X ++ va_pl L f) H) (hD : va_D A (X ++ va_pl L f)) (hS : va_S A H0 H locs) (hA : ∀ q, H0.size ≤ q → A q) {n k : Int32} {N' K' : Nat} {z : vp_A} (hn : ¬ n < 0) (hk : ¬ k < 0) (hN : n.toNatClampNeg = N') (hM : k.toNatClampNeg = K')
    (hb1 : N' * 4 ≤ 536870912) (hb2 : K' * componentBytes ty ≤ 536870912) (hb3 : K' ≤ 536870912) (hdf : fits ty (defaultValue ty) = true) (hdd : (defaultValue ty).isDefault = true) (hcells : cells + (1 + N') ≤ R.cells) (hslots : slots + (N' + N' * K') ≤ R.slots) (hz : ∀ c : ClassId, Jvm.Free.Multi.innerC c K' (defaultValue ty) = vp_cell c z) (hdg : decode cc pc = .ok (.multianewarray index 2, 4))
    (kk : ∀ (q : Nat) (r : Nat → Nat) (cA : ClassId) (H1 : Heap), (∀ i j : Nat, i < N' → j < N' → r i = r j → i = j) → (∀ i : Nat, i < N' → r i ∉ L) → va_K D cl (tys ++ [(cA, .array ty)]) s →
      va_P D cl ((X ++ [(q, .inl (cA, N', .inr (.inr (.inr (.inr (fun i => if i < N' then some (r i) else none))))))]) ++ va_pl (L ++ (List.range N').map r) (vr_up f ((List.range N').map r) (.inl (cy, z)))) H1 → va_D A ((X ++ [(q, .inl (cA, N', .inr (.inr (.inr (.inr (fun i => if i < N' then some (r i) else none))))))]) ++ va_pl (L ++ (List.range N').map r) (vr_up f ((List.range N').map r) (.inl (cy, z)))) → va_S A H0 H1 locs →
      W p l e R s m args below meth c H1 locs (cells + 1 + N') (slots + N' + N' * K') Q (F0 m (pc + 4) ls (.ref q :: rest))) : W p l e R s m args below meth c H locs cells slots Q (F0 m pc ls (.int k :: .int n :: rest)) := by
  subst hN
  subst hM
  intro T hT Xs
  obtain ⟨vm₁, cA, comp, -, fA, fC, hO, -, X', step⟩ := Xs.multianewarray2F hexec hown hclink (va_AOA.use hover) harr (g := F0 m pc ls (.int k :: .int n :: rest)) rfl (by rw [hb]; exact hdg) rfl hn hk hb1 hb2 hb3 hdf hdd hcells hslots
  have ec : some cy = some comp := hcy.symm.trans fC
  cases ec
  generalize hF : Jvm.Free.Multi.fill (T.setVm vm₁) cA cy n.toNatClampNeg k.toNatClampNeg (defaultValue ty) n.toNatClampNeg = F at X' step
  have hTh : (T.setVm vm₁).heap = H := hT
  obtain ⟨f1, f2, -, -⟩ := Jvm.Free.Multi.fill_facts (T.setVm vm₁) cA cy n.toNatClampNeg k.toNatClampNeg (defaultValue ty) n.toNatClampNeg
  rw [hF, hTh] at f1 f2
  have hold : ∀ x : Nat, x < H.size → F.heap[x]? = H[x]? := fun x hx => by
    have := Jvm.Free.Multi.fill_old (T.setVm vm₁) cA cy n.toNatClampNeg k.toNatClampNeg (defaultValue ty) (a := x) (by rw [hTh]; exact hx) n.toNatClampNeg
    rw [hF, hTh] at this
    exact this
  have hrow : ∀ j : Nat, j < n.toNatClampNeg → F.heap[H.size + 1 + j]? = some (vp_cell cy z) := fun j hj => by
    have := Jvm.Free.Multi.fill_inner (T.setVm vm₁) cA cy n.toNatClampNeg k.toNatClampNeg (defaultValue ty) n.toNatClampNeg j hj
    rw [hF, hTh, hz] at this
    exact this
  have hout : Jvm.Free.Multi.outerC cA n.toNatClampNeg H.size n.toNatClampNeg = vp_cell cA (n.toNatClampNeg, .inr (.inr (.inr (.inr (fun i => if i < n.toNatClampNeg then some (H.size + 1 + i) else none))))) := by
    rw [vp_cell_q]
    exact vr_outer cA n.toNatClampNeg H.size n.toNatClampNeg
  rw [hout] at f2
  have hlt : ∀ a, a ∈ L → a < H.size := fun a ha => by
    obtain ⟨k9, hk9⟩ := va_pl_get (X := X) (f := f) ha
    exact (hP k9 _ hk9).lt
  have hnl : ∀ i : Nat, i < n.toNatClampNeg → H.size + 1 + i ∉ L := fun i _ h => by
    have := hlt _ h
    omega
  have hnm : ∀ a, a ∈ (List.range n.toNatClampNeg).map (fun i => H.size + 1 + i) → a ∉ L := fun a ha h => by
    obtain ⟨i, -, rfl⟩ := List.mem_map.mp ha
    have := hlt _ h
    omega
  have hP0 : va_P D cl (X ++ va_pl L f) F.heap := hP.kept (fun k9 x hx => hold x.1 ((hP k9 x hx).lt))
  have hP1 : va_P D cl ((X ++ va_pl L f) ++ [(H.size, .inl (cA, n.toNatClampNeg, .inr (.inr (.inr (.inr (fun i => if i < n.toNatClampNeg then some (H.size + 1 + i) else none))))))]) F.heap := hP0.app (fun k9 x hx => by
    have h0 : k9 < 1 := (List.getElem?_eq_some_iff.mp hx).1
    rw [show k9 = 0 by omega] at hx
    cases hx
    exact f2)
  have hP2 : va_P D cl (((X ++ va_pl L f) ++ [(H.size, .inl (cA, n.toNatClampNeg, .inr (.inr (.inr (.inr (fun i => if i < n.toNatClampNeg then some (H.size + 1 + i) else none))))))]) ++ ((List.range n.toNatClampNeg).map (fun i => H.size + 1 + i)).map (fun a => (a, .inl (cy, z)))) F.heap := hP1.app (fun k9 x hx => by
    obtain ⟨a, ha, rfl⟩ := List.mem_map.mp (List.mem_of_getElem? hx)
    obtain ⟨i, hi, rfl⟩ := List.mem_map.mp ha
    exact hrow i (List.mem_range.mp hi))
  have hD2 : va_D A (((X ++ va_pl L f) ++ [(H.size, .inl (cA, n.toNatClampNeg, .inr (.inr (.inr (.inr (fun i => if i < n.toNatClampNeg then some (H.size + 1 + i) else none))))))]) ++ ((List.range n.toNatClampNeg).map (fun i => H.size + 1 + i)).map (fun a => (a, .inl (cy, z)))) := by
    have hD1 := hD.push (e := .inl (cA, n.toNatClampNeg, .inr (.inr (.inr (.inr (fun i => if i < n.toNatClampNeg then some (H.size + 1 + i) else none)))))) hP rfl (hA _ hS.1)
    generalize hW1 : (X ++ va_pl L f) ++ [(H.size, .inl (cA, n.toNatClampNeg, .inr (.inr (.inr (.inr (fun i => if i < n.toNatClampNeg then some (H.size + 1 + i) else none))))))] = W1 at hD1 hP1 ⊢
    have hle : ∀ (k9 : Nat) (x : Nat × va_E), W1[k9]? = some x → x.1 ≤ H.size := fun k9 x hx => by
      rw [← hW1] at hx
      by_cases hl : k9 < (X ++ va_pl L f).length
      · rw [List.getElem?_append_left hl] at hx
        exact Nat.le_of_lt ((hP k9 x hx).lt)
      · rw [List.getElem?_append_right (by omega)] at hx
        have h0 : k9 - (X ++ va_pl L f).length < 1 := (List.getElem?_eq_some_iff.mp hx).1
        rw [show k9 - (X ++ va_pl L f).length = 0 by omega] at hx
        cases hx
        exact Nat.le_refl _
    have hr : ∀ (k9 : Nat) (x : Nat × va_E), (((List.range n.toNatClampNeg).map (fun i => H.size + 1 + i)).map (fun a => ((a, .inl (cy, z)) : Nat × va_E)))[k9]? = some x → x.1 = H.size + 1 + k9 := fun k9 x hx => by
      rw [List.getElem?_map, List.getElem?_map] at hx
      by_cases h9 : k9 < n.toNatClampNeg
      · rw [List.getElem?_range h9] at hx
        cases hx
        rfl
      · have hn0 : (List.range n.toNatClampNeg)[k9]? = none := List.getElem?_eq_none (by rw [List.length_range]; omega)
        rw [hn0] at hx
        cases hx
    refine ⟨fun i j x y hi hj hxy => ?_, fun k9 x hx => ?_⟩
    · by_cases h1 : i < W1.length <;> by_cases h2 : j < W1.length
      · rw [List.getElem?_append_left h1] at hi
        rw [List.getElem?_append_left h2] at hj
        exact hD1.1 i j x y hi hj hxy
      · rw [List.getElem?_append_left h1] at hi
        rw [List.getElem?_append_right (by omega)] at hj
        have := hle _ _ hi
        have := hr _ _ hj
        omega
      · rw [List.getElem?_append_right (by omega)] at hi
        rw [List.getElem?_append_left h2] at hj
        have := hle _ _ hj
        have := hr _ _ hi
        omega
      · rw [List.getElem?_append_right (by omega)] at hi hj
        have := hr _ _ hi
        have := hr _ _ hj
        omega
    · by_cases h1 : k9 < W1.length
      · rw [List.getElem?_append_left h1] at hx
        exact hD1.2 k9 x hx
      · rw [List.getElem?_append_right (by omega)] at hx
        have := hr _ _ hx
        exact hA _ (by have := hS.1; omega)
  have hAr : ArrOfT s cA (.array ty) := fun N9 z9 => by
    obtain ⟨-, k9, hk9, cm9, hkk9⟩ := (hO 0 0 0).1
    exact ⟨(fun q hq => by cases hq), k9, hk9, cm9, hkk9⟩
  have hK2 : va_K D cl (tys ++ [(cA, .array ty)]) s := ⟨hK.1, fun k9 x hx => by
    by_cases hl : k9 < tys.length
    · rw [List.getElem?_append_left hl] at hx
      exact hK.2 k9 x hx
    · rw [List.getElem?_append_right (by omega)] at hx
      have h0 : k9 - tys.length < 1 := (List.getElem?_eq_some_iff.mp hx).1
      rw [show k9 - tys.length = 0 by omega] at hx
      cases hx
      exact ⟨hAr, fA⟩⟩
  obtain ⟨t, a1, b1⟩ := kk H.size (fun i => H.size + 1 + i) cA F.heap (fun i j _ _ h => by have h9 : H.size + 1 + i = H.size + 1 + j := h; omega) hnl hK2 (by rw [← vr_rows hnm]; exact vr_lay hP2) (by rw [← vr_rows hnm]; exact vr_layD hD2) ⟨by rw [f1]; have := hS.1; omega, fun x h1 h2 => (hold x (Nat.lt_of_lt_of_le h1 hS.1)).trans (hS.2.1 x h1 h2), hS.2.2⟩ F rfl X'
  refine ⟨t, step t ?_, b1⟩
  have e : T.heap.size = H.size := by rw [hT]
  rw [e]
  exact a1
end VGM
/-! ===== END ===== -/

section IC
variable {p : Program} {l : Launch} {e : Env} {R : Room} {s : State} {m : MethodId} {args : Array Value} {below : List Frame} {meth : Method} {c : Code} {H : Heap} {locs : List Loc} {cells slots : Nat} {Q : State → Prop}
variable {cc : ByteArray} {pc n : Nat} {ls : Array Slot} {rest : List Value} {own : String} {g : GT} {A : Nat → Prop} {H0 : Heap} {ws ws' w w' : va_W} {ret : Option FieldType}
theorem In.cell {x x' : Nat × va_E} {r : va_W} (hI : In g A H0 s ((ws ++ [x]) ++ r) H locs) (h : x.1 = x'.1) (hv : va_at g.1.1 vwCl x H → va_at g.1.1 vwCl x' H) : In g A H0 s ((ws ++ [x']) ++ r) H locs := by
  refine ⟨hI.1, va_P_mem.mpr (fun q hq => ?_), va_D_nd.mpr ⟨?_, fun q hq => ?_⟩, hI.2.2.2⟩
  · rcases List.mem_append.mp hq with hq | hq
    · rcases List.mem_append.mp hq with hq | hq
      · exact va_P_mem.mp hI.2.1 q (List.mem_append_left _ (List.mem_append_left _ hq))
      · rw [List.mem_singleton.mp hq]
        exact hv (va_P_mem.mp hI.2.1 x (List.mem_append_left _ (List.mem_append_right _ (List.mem_singleton.mpr rfl))))
    · exact va_P_mem.mp hI.2.1 q (List.mem_append_right _ hq)
  · have h1 := (va_D_nd.mp hI.2.2.1).1
    simp only [List.map_append, List.map_cons, List.map_nil] at h1 ⊢
    rw [← h]
    exact h1
  · rcases List.mem_append.mp hq with hq | hq
    · rcases List.mem_append.mp hq with hq | hq
      · exact (va_D_nd.mp hI.2.2.1).2 q (List.mem_append_left _ (List.mem_append_left _ hq))
      · rw [List.mem_singleton.mp hq, ← h]
        exact (va_D_nd.mp hI.2.2.1).2 x (List.mem_append_left _ (List.mem_append_right _ (List.mem_singleton.mpr rfl)))
    · exact (va_D_nd.mp hI.2.2.1).2 q (List.mem_append_right _ hq)
theorem arr_eq {cA : ClassId} {N : Nat} {f f2 : Nat → Option Nat} (h : ∀ i, i < N → f i = f2 i) : vp_cell cA (N, .inr (.inr (.inr (.inr f)))) = vp_cell cA (N, .inr (.inr (.inr (.inr f2)))) := by
  rw [vp_cell_q, vp_cell_q]
  unfold arrV
  have e : (fun j : Fin N => va_rf (f j.val)) = fun j : Fin N => va_rf (f2 j.val) := funext (fun j => by rw [h j.val j.isLt])
  rw [e]
theorem new_W {idx : Nat} (X : Cx p s m args meth c cc n own ret) (hI : In g A H0 s ws H locs) (hcl : Cond.classLink own idx "[[I" ∈ tblG) (hc : Nat.ble (cells + 8) R.cells = true) (hs : Nat.ble (slots + 119) R.slots = true) (hd : decode cc pc = .ok (.multianewarray idx 2, 4))
    (kk : ∀ (q : Nat) (r : Nat → Nat) (H1 : Heap), In g A H0 s ((ws ++ [(q, .inl (g.2 5, 7, .inr (.inr (.inr (.inr (fun i => some (r i)))))))]) ++ (List.range 7).map (fun j => (r j, .inl (g.2 0, 16, .inl (fun _ => 0))))) H1 locs → W p l e R s m args below meth c H1 locs (cells + 1 + 7) (slots + 7 + 7 * 16) Q (F0 m (pc + 4) ls (.ref q :: rest))) : W p l e R s m args below meth c H locs cells slots Q (F0 m pc ls (.int 16 :: .int 7 :: rest)) := by
  have es : ("[" ++ (FieldType.array FieldType.int).toString) = "[[I" := by decide +kernel
  refine va_mna (X := ws) (L := []) (f := fun _ => .inr (0, [])) (ty := .int) (cy := g.2 0) (z := (16, .inl (fun _ => 0))) X.1 X.2.1 X.2.2.2.1 (by rw [es]; exact X.2.2.2.2.1 _ hcl) hI.1.2.2.1 (X.2.2.2.2.1 _ w_280) (hI.1.1.2 0 _ (show (tyL g)[0]? = some (g.2 0, .int) from rfl)).2 hI.1.1 (by simpa [va_pl] using hI.2.1) (by simpa [va_pl] using hI.2.2.1) hI.2.2.2.1 hI.2.2.2.2.1 (N' := 7) (K' := 16) (by decide) (by decide) (by decide) (by decide) (by decide) (by decide) (by decide) rfl rfl (Nat.le_of_ble_eq_true hc) (Nat.le_of_ble_eq_true hs) (fun cA => rfl) hd (fun q r cA H1 hr1 hr2 hK1 h1 h2 h3 => ?_)
  have e : cA = g.2 5 := Option.some.inj ((hK1.2 6 (cA, .array .int) rfl).2.symm.trans (hI.1.1.2 5 _ (show (tyL g)[5]? = some (g.2 5, .array .int) from rfl)).2)
  subst e
  have ep : va_pl ([] ++ (List.range 7).map r) (vr_up (fun _ => (.inr (0, []) : va_E)) ((List.range 7).map r) (.inl (g.2 0, 16, .inl (fun _ => 0)))) = (List.range 7).map (fun j => (r j, .inl (g.2 0, 16, .inl (fun _ => 0)))) := by
    unfold va_pl
    rw [List.nil_append, List.map_map]
    refine List.map_congr_left (fun j hj => ?_)
    show (r j, vr_up _ _ _ (r j)) = _
    rw [vr_up_in (List.mem_map.mpr ⟨j, hj, rfl⟩)]
  rw [ep] at h1 h2
  refine kk q r H1 (In.cell (x := (q, .inl (g.2 5, 7, .inr (.inr (.inr (.inr (fun i => if i < 7 then some (r i) else none))))))) ⟨hI.1, h1, h2, h3, hI.2.2.2.2⟩ rfl (fun h => ?_))
  show H1[q]? = some (vp_cell _ _)
  rw [show H1[q]? = some (vp_cell _ _) from h]
  exact congrArg some (arr_eq (fun i hi => if_pos hi))
end IC
abbrev rm_X2_init : Room := { frames := 1, cells := 11, slots := 140, locals := 12 }
theorem x_642 : Cond.classLink RX2 21 "[[I" ∈ tblG := tgm (in_t3 _ (List.mem_of_getElem? (i := 24) rfl)) rfl
theorem x_641 : Cond.methodLink RX2 3 Lib.objectInit ∈ tblG := tgm (in_t3 _ (List.mem_of_getElem? (i := 23) rfl)) rfl
set_option maxRecDepth 20000 in
theorem c_X2_init (l : Launch) (g : GT) (h : Nat) : CN l yX2_init cX2_init 1 rm_X2_init g [.ref h] [(h, .inr (2, [.null, .null, .null, .null, .int 0]))] h (fun B => wCo g (B 0) Co0) := by
  refine start2 (y := yX2_init) (cc := cX2_init) (n := 1) (av := [.ref h]) (ws := [(h, .inr (2, [.null, .null, .null, .null, .int 0]))]) (Qc := fun sz => va_Qv (fun B : Nat → Nat → Nat => B 0 0 = h) (fun B t => CB g [(h, .inr (2, [.null, .null, .null, .null, .int 0]))] (wCo g (B 0) Co0) sz t) (va_A [(h, .inr (2, [.null, .null, .null, .null, .int 0]))] sz)) (by decide) rfl ?_
  intro p e s m args below meth c ls Q A ha hQ hA X hl hI hin
  have X : Cx p s m args meth c cX2_init 1 RX2 none := X
  have hl : lv_has ls 1 [(0, .ref h)] := hl
  obtain ⟨hx, hb, hml, hown, ht, hr, hlk⟩ := id X
  refine lv_aload_n hx hb dX2_init_0 rfl (lv_at hl 0 rfl) ?_
  refine oi X hl x_641 dX2_init_1 rfl rfl ?_
  refine lv_aload_n hx hb dX2_init_4 rfl (lv_at hl 0 rfl) ?_
  refine lv_bipush (v := 7) hx hb dX2_init_5 (by decide) ?_
  refine new_I (N := 7) X hI (by decide) (by decide) rfl rfl rfl dX2_init_7 (fun q1 H hI => ?_)
  have hI : In g A s.heap s [(h, .inr (2, [.null, .null, .null, .null, .int 0])), (q1, .inl (g.2 0, 7, .inl (fun _ => 0)))] H _ := hI
  refine putF_f (ws' := [(h, .inr (2, [.ref q1, .null, .null, .null, .int 0])), (q1, .inl (g.2 0, 7, .inl (fun _ => 0)))]) (ci := 2) (k := 0) (ty := tyX2 0) X hI ⟨0, rfl, rfl⟩ inG2 tyX2_ok nmX2 rfl rfl w_644 rfl (hin rfl) rfl (by decide +kernel) rfl rfl rfl rfl dX2_init_9 (fun H locs hI => ?_)
  refine lv_aload_n hx hb dX2_init_12 rfl (lv_at hl 0 rfl) ?_
  refine lv_bipush (v := 7) hx hb dX2_init_13 (by decide) ?_
  refine new_I (N := 7) X hI (by decide) (by decide) rfl rfl rfl dX2_init_15 (fun q2 H hI => ?_)
  have hI : In g A s.heap s [(h, .inr (2, [.ref q1, .null, .null, .null, .int 0])), (q1, .inl (g.2 0, 7, .inl (fun _ => 0))), (q2, .inl (g.2 0, 7, .inl (fun _ => 0)))] H _ := hI
  refine putF_f (ws' := [(h, .inr (2, [.ref q1, .ref q2, .null, .null, .int 0])), (q1, .inl (g.2 0, 7, .inl (fun _ => 0))), (q2, .inl (g.2 0, 7, .inl (fun _ => 0)))]) (ci := 2) (k := 1) (ty := tyX2 1) X hI ⟨0, rfl, rfl⟩ inG2 tyX2_ok nmX2 rfl rfl w_645 rfl (hin rfl) rfl (by decide +kernel) rfl rfl rfl rfl dX2_init_17 (fun H locs hI => ?_)
  refine lv_aload_n hx hb dX2_init_20 rfl (lv_at hl 0 rfl) ?_
  refine lv_bipush (v := 7) hx hb dX2_init_21 (by decide) ?_
  refine new_I (N := 7) X hI (by decide) (by decide) rfl rfl rfl dX2_init_23 (fun q3 H hI => ?_)
  have hI : In g A s.heap s [(h, .inr (2, [.ref q1, .ref q2, .null, .null, .int 0])), (q1, .inl (g.2 0, 7, .inl (fun _ => 0))), (q2, .inl (g.2 0, 7, .inl (fun _ => 0))), (q3, .inl (g.2 0, 7, .inl (fun _ => 0)))] H _ := hI
  refine putF_f (ws' := [(h, .inr (2, [.ref q1, .ref q2, .ref q3, .null, .int 0])), (q1, .inl (g.2 0, 7, .inl (fun _ => 0))), (q2, .inl (g.2 0, 7, .inl (fun _ => 0))), (q3, .inl (g.2 0, 7, .inl (fun _ => 0)))]) (ci := 2) (k := 2) (ty := tyX2 2) X hI ⟨0, rfl, rfl⟩ inG2 tyX2_ok nmX2 rfl rfl w_646 rfl (hin rfl) rfl (by decide +kernel) rfl rfl rfl rfl dX2_init_25 (fun H locs hI => ?_)
  refine lv_aload_n hx hb dX2_init_28 rfl (lv_at hl 0 rfl) ?_
  refine lv_bipush (v := 7) hx hb dX2_init_29 (by decide) ?_
  refine lv_bipush (v := 16) hx hb dX2_init_31 (by decide) ?_
  refine new_W X hI x_642 rfl rfl dX2_init_33 (fun q4 r H hI => ?_)
  refine putF_f (ws' := [(h, .inr (2, [.ref q1, .ref q2, .ref q3, .ref q4, .int 0])), (q1, .inl (g.2 0, 7, .inl (fun _ => 0))), (q2, .inl (g.2 0, 7, .inl (fun _ => 0))), (q3, .inl (g.2 0, 7, .inl (fun _ => 0))), (q4, .inl (g.2 5, 7, .inr (.inr (.inr (.inr (fun i => some (r i)))))))] ++ (List.range 7).map (fun j => (r j, .inl (g.2 0, 16, .inl (fun _ => 0))))) (ci := 2) (k := 3) (ty := tyX2 3) X hI ⟨0, rfl, rfl⟩ inG2 tyX2_ok nmX2 rfl rfl w_647 rfl (hin rfl) rfl (by decide +kernel) rfl rfl rfl rfl dX2_init_37 (fun H locs hI => ?_)
  have ef : (fun i => some (r i)) = fun i => some ((fun k => if k < 5 then [h, q1, q2, q3, q4].getD k 0 else r (k - 5)) (5 + Co_pi Co0 i)) := by
    funext i
    show some (r i) = some (if 5 + i < 5 then _ else r (5 + i - 5))
    rw [if_neg (by omega), Nat.add_sub_cancel_left]
  have er : (List.range 7).map (fun j => (r j, (.inl (g.2 0, 16, .inl (fun _ => 0)) : va_E))) = (List.range 7).map (fun j => ((fun k => if k < 5 then [h, q1, q2, q3, q4].getD k 0 else r (k - 5)) (5 + j), .inl (g.2 0, 16, .inl (Co_rw Co0 j)))) := by
    refine List.map_congr_left (fun j _ => ?_)
    show (r j, _) = ((if 5 + j < 5 then _ else r (5 + j - 5)), _)
    rw [if_neg (by omega), Nat.add_sub_cancel_left]
    rfl
  rw [ef, er] at hI
  exact end_N (mk := fun B => wCo g (B 0) Co0) (fun _ k => if k < 5 then [h, q1, q2, q3, q4].getD k 0 else r (k - 5)) rfl hQ hA X hI rfl rfl dX2_init_40
/-! History: sixteen moments, three marks -/
def HW (g : GT) (h q1 q2 : Nat) (m1 m2 : List Nat) : va_W := [(h, .inr (3, [.ref q1, .ref q2, .int 0, .int 0, .int 0])), (q1, .inl (g.2 4, 16, .inr (.inr (.inr (.inr (fun k => m1[k]?)))))), (q2, .inl (g.2 4, 3, .inr (.inr (.inr (.inr (fun k => m2[k]?))))))] ++ (m1 ++ m2).map (fun a => (a, oMo (fun _ => a) Mo0))
theorem up_get {m1 : List Nat} {i q : Nat} (h : m1.length = i) : va_up (fun k => m1[k]?) i (some q) = fun k => (m1 ++ [q])[k]? := by
  funext k
  show (if k = i then some q else m1[k]?) = _
  by_cases hk : k = i
  · subst hk
    rw [if_pos rfl, ← h, List.getElem?_append_right (Nat.le_refl _), Nat.sub_self]
    rfl
  · rw [if_neg hk]
    rcases Nat.lt_or_ge k m1.length with hl | hl
    · rw [List.getElem?_append_left hl]
    · rw [List.getElem?_eq_none hl, List.getElem?_eq_none]
      rw [List.length_append, List.length_singleton]
      omega
abbrev rm_X3_init : Room := { frames := 2, cells := 21, slots := 95, locals := 32 }
theorem x_509b : Cond.methodLink RX3 3 Lib.objectInit ∈ tblG := tgm (in_t2 _ (List.mem_of_getElem? (i := 131) rfl)) rfl
theorem x_510b : Cond.classLink RX3 11 RX4 ∈ tblG := tgm (in_t2 _ (List.mem_of_getElem? (i := 132) rfl)) rfl
