/-! the law's loop: the world, and what each case needs -/
def wM (g : GT) (am an : Nat → Nat) (qr : Option Nat) (md : MdS) (ot : Option TnS) : va_W := match ot with
  | none => wMd g am none qr md ++ []
  | some tn => wMd g am (some (an 0)) qr md ++ (wTn g an tn ++ [])
abbrev wOut (g : GT) (qo : Nat) (fo : Nat → Int64) : va_W := [(qo, .inl (g.2 1, 1, .inr (.inl fo)))]
abbrev wAll (g : GT) (B : Nat → Nat → Nat) (am an : Nat → Nat) (qr : Option Nat) (qo : Nat) (hk : HKS) (re : ReS) (ta : TaS) (se : SeS) (co : CoS) (bo sb wb : BoS) (hi : HiS) (tr now : MoS) (ch : ChS) (ri : RiS) (to : ToS) (md : MdS) (ot : Option TnS) (fo : Nat → Int64) : va_W :=
  wHK g (B 0) (B 1 0) (B 13 0) (B 11 0) (B 10 0) (B 9 0) (B 6 0) (B 3 0) (B 4 0) (B 5 0) (B 12 0) hk ++ (wRe g (B 1) (B 2 0) (B 14 0) re ++ (wTa g (B 2) ta ++ (wSe g (B 3) (B 7 0) se ++ (wWi g (B 4) (B 13 0) (B 8 0) ++ (wCo g (B 5) co ++ (wBo g (B 6) (B 13 0) bo ++ (wBo g (B 7) (B 13 0) sb ++ (wBo g (B 8) (B 13 0) wb ++ (wHi g (B 9) hi ++ (wMo g (B 10) tr ++ (wMo g (B 11) now ++ (wCh g (B 12) ch ++ (wRi g (B 13) ri ++ (wTo g (B 14) to ++ (wOut g qo fo ++ wM g am an qr md ot)))))))))))))))
abbrev Ah (s : State) : Nat → Prop := fun q => s.heap.size ≤ q
/-- class and reference, at the loop's head -/
def LzI (g : GT) (s : State) (B : Nat → Nat → Nat) (am : Nat → Nat) (qo : Nat) (H : Heap) (locs : List Loc) : Prop :=
  ∃ (hk : HKS) (re : ReS) (ta : TaS) (se : SeS) (co : CoS) (bo sb wb : BoS) (hi : HiS) (tr now : MoS) (ch : ChS) (ri : RiS) (to : ToS) (md : MdS) (ot : Option TnS) (an : Nat → Nat) (qr : Option Nat) (fo : Nat → Int64),
    INV hk re ta ri now hi bo se co ch md ot ∧ In g (Ah s) s.heap s (wAll g B am an qr qo hk re ta se co bo sb wb hi tr now ch ri to md ot fo) H locs
/-- what is fixed: the law's frame, the script -/
def LC (p : Program) (s : State) (m : MethodId) (meth : Method) (c : Code) (b L i : Nat) (xs : Nat → Int32) : Prop :=
  Cx p s m #[.ref b] meth c cL_law 7 "HandKnotLaw" (some .boolean) ∧ va_X b L xs s s.heap ∧ b < s.heap.size ∧ i + 5 < L ∧ L ≤ 3072
abbrev lo5 (b : Nat) (B : Nat → Nat → Nat) (am : Nat → Nat) (qo i : Nat) : List (Nat × Value) := [(0, .ref b), (1, .ref (B 0 0)), (2, .ref (am 0)), (3, .ref qo), (4, .int (nI i))]
section LB
variable {p : Program} {l : Launch} {e : Env} {R : Room} {s : State} {m : MethodId} {args : Array Value} {below : List Frame} {meth : Method} {c : Code} {H : Heap} {locs : List Loc} {cells slots : Nat} {Q : State → Prop}
variable {pc : Nat} {ls : Array Slot} {rest : List Value} {g : GT} {B : Nat → Nat → Nat} {am : Nat → Nat} {qo b L i : Nat} {xs : Nat → Int32} {ws : va_W}
theorem sc_ld {k : Nat} {kz : Int} (D : LC p s m meth c b L i xs) (hI : In g (Ah s) s.heap s ws H locs) (hl : lv_has ls 7 (lo5 b B am qo i)) (hk : Nat.blt k 6 = true) (hv : Int32.ofInt kz = nI k)
    (d0 : decode cL_law pc = .ok (.aload_n 0, 1)) (d1 : decode cL_law (pc + 1) = .ok (.iload 4, 2)) (d2 : decode cL_law (pc + 3) = .ok (.iconst kz, 1)) (d3 : decode cL_law (pc + 4) = .ok (.iadd, 1)) (d4 : decode cL_law (pc + 5) = .ok (.iaload, 1))
    (kk : W p l e R s m #[.ref b] below meth c H locs cells slots Q (F0 m (pc + 6) ls (.int (xs (i + k)) :: rest))) : W p l e R s m #[.ref b] below meth c H locs cells slots Q (F0 m pc ls rest) := by
  obtain ⟨X, hX, hbl, hi, hL⟩ := D
  have hk : k < 6 := Nat.le_of_ble_eq_true hk
  refine lv_aload_n X.1 X.2.1 d0 rfl (lv_at hl 0 rfl) ?_
  refine lv_iload X.1 X.2.1 d1 (lv_at hl 4 rfl) ?_
  refine lv_iconst (v := nI k) X.1 X.2.1 d2 hv ?_
  refine lv_iadd X.1 X.2.1 d3 ?_
  rw [show nI i + nI k = nI (i + k) from (Int32.ofNat_add i k).symm]
  refine va_sld X.1 X.2.1 hX hbl (Nat.not_le.mpr hbl) hI.2.2.2.1 ((vp_in_I (by omega)).mpr (by omega)) d4 ?_
  rw [show (nI (i + k)).toNatClampNeg = i + k from cl_I (by omega)]
  exact kk
theorem sc_bool {v : Int32} (D : LC p s m meth c b L i xs)
    (d0 : decode cL_law pc = .ok (.ifCond .eq 7, 3)) (d1 : decode cL_law (pc + 3) = .ok (.iconst 1, 1)) (d2 : decode cL_law (pc + 4) = .ok (.goto 4, 3)) (d3 : decode cL_law (pc + 7) = .ok (.iconst 0, 1))
    (kk : W p l e R s m #[.ref b] below meth c H locs cells slots Q (F0 m (pc + 8) ls (.int (bI (decide (v ≠ 0))) :: rest))) : W p l e R s m #[.ref b] below meth c H locs cells slots Q (F0 m pc ls (.int v :: rest)) := by
  obtain ⟨X, -⟩ := D
  refine lv_if_eq (tgt := pc + 7) X.1 X.2.1 d0 (by omega) (fun h_ => ?_) (fun h_ => ?_)
  · refine lv_iconst (v := 0) X.1 X.2.1 d3 (by decide) ?_
    rw [show bI (decide (v ≠ 0)) = 0 by rw [decide_eq_false (fun h => h h_)]; rfl] at kk
    exact kk
  · refine lv_iconst (v := 1) X.1 X.2.1 d1 (by decide) ?_
    refine lv_goto (tgt := pc + 8) X.1 X.2.1 d2 (by omega) ?_
    rw [show bI (decide (v ≠ 0)) = 1 by rw [decide_eq_true h_]; rfl] at kk
    exact kk
theorem lz_eq {x y : Int32} {off : Int} (D : LC p s m meth c b L i xs) (h : x = y) (d0 : decode cL_law pc = .ok (.if_icmp .eq off, 3)) (ht : (pc : Int) + off = 1655)
    (kk : W p l e R s m #[.ref b] below meth c H locs (cells + 24) (slots + 311) Q (F0 m 1655 ls [])) : W p l e R s m #[.ref b] below meth c H locs cells slots Q (F0 m pc ls [.int y, .int x]) := by
  obtain ⟨X, -⟩ := D
  refine lv_icmp_eq (tgt := 1655) X.1 X.2.1 d0 ht (fun _ => ?_) (fun h_ => absurd h h_)
  exact W.widen (Nat.le_add_right _ _) (Nat.le_add_right _ _) kk
theorem lz_eqL {x y : Int64} {off : Int} (D : LC p s m meth c b L i xs) (h : x = y) (d0 : decode cL_law pc = .ok (.lcmp, 1)) (d1 : decode cL_law (pc + 1) = .ok (.ifCond .eq off, 3)) (ht : ((pc + 1 : Nat) : Int) + off = 1655)
    (kk : W p l e R s m #[.ref b] below meth c H locs (cells + 24) (slots + 311) Q (F0 m 1655 ls [])) : W p l e R s m #[.ref b] below meth c H locs cells slots Q (F0 m pc ls [.long y, .long x]) := by
  obtain ⟨X, -⟩ := D
  refine W.lcmp X.1 X.2.1 d0 ?_
  refine lv_if_eq (tgt := 1655) X.1 X.2.1 d1 ht (fun _ => ?_) (fun h_ => absurd (by rw [h]; simp [lg_cmp]) h_)
  exact W.widen (Nat.le_add_right _ _) (Nat.le_add_right _ _) kk
end LB
