def E2 (ri : RiS) (tn : TnS) (pt : Option Nat) (t : Int64) (p i c : Nat) : Nat := rowE p (ra ri tn pt t (sp tn t (2 * (xL tn t (nX tn)).getD i 0 + 1))) (ra ri tn pt t (sp tn t (2 * (xL tn t (nX tn)).getD i 0))) (rb ri tn pt t (sp tn t (2 * (xL tn t (nX tn)).getD i 0))) c
theorem rowE_steps {p A B C c : Nat} (hp : p = 3 ∨ p = 5 ∨ p = 7) : (if c = C then ((if c = B then ((if c = A then (0 + 2) % p else 0) + (p - 1)) % p else (if c = A then (0 + 2) % p else 0)) + (p - 1)) % p else (if c = B then ((if c = A then (0 + 2) % p else 0) + (p - 1)) % p else (if c = A then (0 + 2) % p else 0))) = rowE p A B C c := by
  unfold rowE
  rcases hp with rfl | rfl | rfl <;> (repeat' split) <;> omega
section RCOL2
variable {ri : RiS} {tn : TnS} {pt : Option Nat} {t : Int64} {p : Nat}
theorem rI_lt {r j : Nat} (hj : j ≤ uN ri tn pt t r) : rI ri tn pt t r j < BA ri tn pt t r + nA ri tn pt t r := by
  unfold rI nA
  by_cases h : opB tn pt r = true
  · rw [if_pos (Or.inl h), if_pos h]; omega
  · by_cases h2 : uN ri tn pt t r = 0
    · rw [if_pos (Or.inr h2), if_neg h]; omega
    · rw [if_neg (fun e => e.elim h h2), if_neg h]
      have := Nat.mod_lt j (show 0 < uN ri tn pt t r by omega)
      omega
theorem ra_lt (hT : TW tn) (hR : TR ri tn) (hD : DW tn pt t) {s : Nat} (hs : s < nS tn) (ls : nib t s ≠ 15) : ra ri tn pt t s < BA ri tn pt t (nR tn) ∧ rb ri tn pt t s < BA ri tn pt t (nR tn) := by
  have h := jb_bound (t := t) hR hD.pt hT hs ls
  have hr := hT.rgR hs
  have hm := BA_mono (ri := ri) (tn := tn) (pt := pt) (t := t) (show rg tn s + 1 ≤ nR tn by omega)
  rw [BA_succ] at hm
  constructor
  · have := rI_lt (ri := ri) (tn := tn) (pt := pt) (t := t) (r := rg tn s) (j := jb ri tn pt t s) (by omega)
    unfold ra; omega
  · have := rI_lt (ri := ri) (tn := tn) (pt := pt) (t := t) (r := rg tn s) (j := jb ri tn pt t s + uI t s) h
    unfold rb; omega
theorem adds_e {md : MdS} (hp : p = 3 ∨ p = 5 ∨ p = 7) {e A v x : Nat} (he : e < 7) (hA : A < 24) (hv : v ≤ 7) (hx : x < 7) (h : Md_equation md (24 * e + A) = nI x) : f_X13_adds md (nI e) (nI A) (nI v) (nI p) = some (Md_equation' md (upd (Md_equation md) (24 * e + A) (nI ((x + v) % p)))) := by
  unfold f_X13_adds
  rw [i24, ckI (by omega) (by decide), nz_i (nI_ne0 (by omega) (by omega)), ckI (by omega) (by decide), lt1_e, nI_clamp (by omega), h, nI_add, nI_rem (by omega) (by omega)]
theorem rcol_e (hT : TW tn) (hR : TR ri tn) {md : MdS} (hno : Md_now md = t) (hD : DW tn pt t) (hpt : Md_parted md = ptv pt) (hp : p = 3 ∨ p = 5 ∨ p = 7) :
    Ok (f_X13_coloursNow md tn (nI p)) (fun q => Sc md q.2 ∧ ∃ r E pc, r ≤ (xL tn t (nX tn)).length ∧ q.1 = nI (BA ri tn pt t (nR tn)) - nI r ∧ PRG p (xL tn t (nX tn)).length (BA ri tn pt t (nR tn)) r (BA ri tn pt t (nR tn)) (E2 ri tn pt t p) E pc) := by
  have h7 := hT.x7
  have h14 := hT.s14
  have h15 := BA15 hT hR hD (Nat.le_refl (nR tn))
  have hC := hD.1
  have hp7 : p ≤ 7 ∧ 3 ≤ p := by omega
  have epm : nI p - 1 = nI (p - 1) := by rw [li_1, nI_sub (by omega)]
  unfold f_X13_coloursNow
  rw [Ok_bd1]
  refine (laysArcs_e hT hR hno hD hpt).mono (fun md1 h1 => ?_)
  obtain ⟨s1, a1, r1⟩ := h1
  rw [Ok_bd1, s1.now.trans hno]
  refine (rLooks hT hC hD.pt (s1.parted.trans hpt)).mono (fun md2 h2 => ?_)
  obtain ⟨k2, L2⟩ := h2
  have sc2 : Sc md md2 := s1.trans k2.sc
  have ar2 : Md_arcs md2 = nI (BA ri tn pt t (nR tn)) := k2.arcs.trans a1
  have RA2 : RAs ri tn pt t md2 (preL ri tn pt t (nR tn)) := fun s hs => by rw [k2.ahead, k2.after]; exact r1 s hs
  have key : ∀ n x md3, nX tn - x < n → x ≤ nX tn → Qc md2 md3 → (∀ i y, (xL tn t x)[i]? = some y → ∀ c, c < 24 → Md_equation md3 (24 * i + c) = nI (rowE p (ra ri tn pt t (sp tn t (2 * y + 1))) (ra ri tn pt t (sp tn t (2 * y))) (rb ri tn pt t (sp tn t (2 * y))) c)) →
      Ok (f_X13_coloursNow_L16 n (nI p) (nI (xL tn t x).length) (nI x) md3 tn) (fun q => Sc md q.2 ∧ ∃ r E pc, r ≤ (xL tn t (nX tn)).length ∧ q.1 = nI (BA ri tn pt t (nR tn)) - nI r ∧ PRG p (xL tn t (nX tn)).length (BA ri tn pt t (nR tn)) r (BA ri tn pt t (nR tn)) (E2 ri tn pt t p) E pc) := by
    intro n
    induction n with
    | zero => intro x md3 h; omega
    | succ n ih =>
      intro x md3 hn hx hq hE
      have hxl := xL_len tn t x
      rw [f_X13_coloursNow_L16, hT.X]
      by_cases e : x = nX tn
      · subst e
        rw [if_pos (nI_le (Nat.le_refl _) (by omega))]
        refine (rrank_L (E0 := E2 ri tn pt t p) hp (by omega) h15 ar2 FU 0 0 md3 (E2 ri tn pt t p) (fun _ => 0) (by rw [FU_e]; omega) (by omega) hq (fun i hi c hc => ?_) PRG.start).mono (fun q h => ⟨sc2.trans h.1.sc, h.2⟩)
        have hgx : (xL tn t (nX tn))[i]? = some ((xL tn t (nX tn)).getD i 0) := by
          rw [List.getElem?_eq_getElem hi, List.getD_eq_getElem?_getD, List.getElem?_eq_getElem hi]
          rfl
        refine ⟨hE i _ hgx c (by omega), ?_⟩
        unfold E2 rowE
        exact Nat.mod_lt _ (by omega)
      · have hx2 : x < nX tn := by omega
        rw [if_neg (nI_ge hx2 (by omega)), i2, ckI (by omega) (by decide), nI_clamp (by omega), hq.spotOf, L2.1 _ (by omega)]
        have es := xL_succ tn t x
        cases hs : spt tn t (2 * x) with
        | none =>
          rw [hs] at es
          rw [if_neg (by simp), List.append_nil] at es
          rw [if_pos (show oI none = -1 from rfl)]
          unfold f_X13_coloursNow_L140
          rw [lt1_e, nI_1, ← es]
          exact ih (x + 1) md3 (by omega) (by omega) hq (by rw [es]; exact hE)
        | some s0 =>
          rw [hs] at es
          rw [if_pos (by rfl)] at es
          have hsome : (spt tn t (2 * x)).isSome = true := by rw [hs]; rfl
          obtain ⟨l0, l1⟩ := left_lv hC hx2 h7 hsome
          obtain ⟨e0, b0, n0⟩ := lv_sp l0 hC (by omega)
          obtain ⟨e1, b1, n1⟩ := lv_sp l1 hC (by omega)
          have m0 := (mem_preL (t := t) hR hD.pt (Nat.le_refl (nR tn))).mpr ⟨b0, hT.rgR b0, by omega⟩
          have m1 := (mem_preL (t := t) hR hD.pt (Nat.le_refl (nR tn))).mpr ⟨b1, hT.rgR b1, by omega⟩
          obtain ⟨g0, g0'⟩ := RA2 _ m0
          obtain ⟨g1, _⟩ := RA2 _ m1
          have t0 := ra_lt hT hR hD b0 (by omega)
          have t1 := ra_lt hT hR hD b1 (by omega)
          have hne : ¬ oI (some s0) = -1 := by
            have : s0 < nS tn := by
              unfold spt at hs
              exact List.mem_range.mp (List.mem_of_find?_eq_some hs)
            show ¬ nI s0 = -1
            rw [nI_neg1 (by omega)]; exact fun h => h
          rw [if_neg hne]
          -- the row is emptied, then its three sums
          have zero : ∀ g k md4, 24 - k < g → k ≤ 24 → Qc md2 md4 → (∀ i y, (xL tn t x)[i]? = some y → ∀ c, c < 24 → Md_equation md4 (24 * i + c) = nI (rowE p (ra ri tn pt t (sp tn t (2 * y + 1))) (ra ri tn pt t (sp tn t (2 * y))) (rb ri tn pt t (sp tn t (2 * y))) c)) → (∀ c, c < k → Md_equation md4 (24 * (xL tn t x).length + c) = 0) →
              Ok (f_X13_coloursNow_L45 g (nI p) (nI (xL tn t x).length) (nI x) (nI k) md4 tn (fun y0 y1 y2 y3 y4 => f_X13_coloursNow_L16 n y0 y1 y2 y3 y4)) (fun q => Sc md q.2 ∧ ∃ r E pc, r ≤ (xL tn t (nX tn)).length ∧ q.1 = nI (BA ri tn pt t (nR tn)) - nI r ∧ PRG p (xL tn t (nX tn)).length (BA ri tn pt t (nR tn)) r (BA ri tn pt t (nR tn)) (E2 ri tn pt t p) E pc) := by
            intro g
            induction g with
            | zero => intro k md4 h; omega
            | succ g ihg =>
              intro k md4 hg hk hq4 hE4 hz
              rw [f_X13_coloursNow_L45]
              by_cases ek : k = 24
              · subst ek
                have spx : ∀ {m5 : MdS}, Qc md2 m5 → Md_spotOf m5 (2 * x + 1) = nI (sp tn t (2 * x + 1)) ∧ Md_spotOf m5 (2 * x) = nI (sp tn t (2 * x)) := fun {m5} h5 => by
                  rw [h5.spotOf, L2.1 _ (by omega), L2.1 _ (by omega), e1, e0]; exact ⟨rfl, rfl⟩
                generalize hA : ra ri tn pt t (sp tn t (2 * x + 1)) = A at *
                generalize hB : ra ri tn pt t (sp tn t (2 * x)) = B at *
                generalize hCc : rb ri tn pt t (sp tn t (2 * x)) = C at *
                generalize hl : (xL tn t x).length = l at *
                have v1 : ∀ c, c < 24 → upd (Md_equation md4) (24 * l + A) (nI ((0 + 2) % p)) (24 * l + c) = nI (if c = A then (0 + 2) % p else 0) := fun c hc => by
                  by_cases ec : c = A
                  · rw [ec, upd_at, if_pos rfl]
                  · rw [upd_ne (by omega), hz c hc, if_neg ec]; rfl
                have w1 : ∀ c, (if c = A then (0 + 2) % p else 0) < 7 := fun c => by
                  have := Nat.mod_lt (0 + 2) (show 0 < p by omega)
                  split <;> omega
                have q1 := adds_e (md := md4) hp (e := l) (A := A) (v := 2) (x := 0) (by omega) (by omega) (by omega) (by omega) (hz A (by omega))
                have v2 : ∀ c, c < 24 → upd (upd (Md_equation md4) (24 * l + A) (nI ((0 + 2) % p))) (24 * l + B) (nI (((if B = A then (0 + 2) % p else 0) + (p - 1)) % p)) (24 * l + c) = nI (if c = B then ((if c = A then (0 + 2) % p else 0) + (p - 1)) % p else (if c = A then (0 + 2) % p else 0)) := fun c hc => by
                  by_cases ec : c = B
                  · rw [ec, upd_at, if_pos rfl]
                  · rw [upd_ne (by omega), v1 c hc, if_neg ec]
                have w2 : ∀ c, (if c = B then ((if c = A then (0 + 2) % p else 0) + (p - 1)) % p else (if c = A then (0 + 2) % p else 0)) < 7 := fun c => by
                  have := Nat.mod_lt ((if c = A then (0 + 2) % p else 0) + (p - 1)) (show 0 < p by omega)
                  have := w1 c
                  split <;> omega
                have q2 := adds_e (md := Md_equation' md4 (upd (Md_equation md4) (24 * l + A) (nI ((0 + 2) % p)))) hp (e := l) (A := B) (v := p - 1) (x := if B = A then (0 + 2) % p else 0) (by omega) (by omega) (by omega) (w1 B) (by rw [gs_equation]; exact v1 B (by omega))
                rw [gs_equation] at q2
                have ee : Md_equation' (Md_equation' md4 (upd (Md_equation md4) (24 * l + A) (nI ((0 + 2) % p)))) (upd (upd (Md_equation md4) (24 * l + A) (nI ((0 + 2) % p))) (24 * l + B) (nI (((if B = A then (0 + 2) % p else 0) + (p - 1)) % p))) = Md_equation' md4 (upd (upd (Md_equation md4) (24 * l + A) (nI ((0 + 2) % p))) (24 * l + B) (nI (((if B = A then (0 + 2) % p else 0) + (p - 1)) % p))) := rfl
                rw [ee] at q2
                have q3 := adds_e (md := Md_equation' md4 (upd (upd (Md_equation md4) (24 * l + A) (nI ((0 + 2) % p))) (24 * l + B) (nI (((if B = A then (0 + 2) % p else 0) + (p - 1)) % p)))) hp (e := l) (A := C) (v := p - 1) (x := if C = B then ((if C = A then (0 + 2) % p else 0) + (p - 1)) % p else (if C = A then (0 + 2) % p else 0)) (by omega) (by omega) (by omega) (w2 C) (by rw [gs_equation]; exact v2 C (by omega))
                rw [gs_equation] at q3
                have x1 := hq4.u (upd (Md_equation md4) (24 * l + A) (nI ((0 + 2) % p)))
                have x2 := hq4.u (upd (upd (Md_equation md4) (24 * l + A) (nI ((0 + 2) % p))) (24 * l + B) (nI (((if B = A then (0 + 2) % p else 0) + (p - 1)) % p)))
                rw [if_pos (by decide), i21, i2, ckI (by omega) (by decide), nI_clamp (by omega), (spx hq4).1, ckI (by omega) (by decide), nI_clamp (by omega), hq4.ahead, g1, li_2, bd1_e q1, ckI (by omega) (by decide), nI_clamp (by omega), (spx x1).2, ckI (by omega) (by decide), nI_clamp (by omega), x1.ahead, g0, epm, bd1_e q2, ckI (by omega) (by decide), (spx x2).2, ckI (by omega) (by decide), nI_clamp (by omega), x2.after, g0', bd1_e q3, lt1_e, nI_1]
                unfold f_X13_coloursNow_L140
                rw [lt1_e, nI_1]
                have el : (xL tn t (x + 1)).length = l + 1 := by rw [es, List.length_append, hl]; rfl
                rw [← el]
                refine ih (x + 1) _ (by omega) (by omega) (x2.u _) (fun i y hi c hc => ?_)
                rw [gs_equation]
                rw [es] at hi
                by_cases ei : i = l
                · rw [ei, ← hl] at hi
                  rw [List.getElem?_append_right (Nat.le_refl _), Nat.sub_self] at hi
                  cases hi
                  rw [hA, hB, hCc, ← rowE_steps hp, ei]
                  by_cases ec : c = C
                  · rw [ec, upd_at, if_pos rfl]
                  · rw [upd_ne (by omega), v2 c hc, if_neg ec]
                · have hi2 : i < l := by
                    have := (List.getElem?_eq_some_iff.mp hi).1
                    rw [List.length_append, List.length_singleton, hl] at this
                    omega
                  rw [List.getElem?_append_left (by rw [hl]; exact hi2)] at hi
                  rw [upd_ne (by omega), upd_ne (by omega), upd_ne (by omega)]
                  exact hE4 i y hi c hc
              · have hk2 : k < 24 := by omega
                rw [li_24, if_neg (nI_ge hk2 (by omega)), nI_mul, nI_add, ckI (by omega) (by decide), lt1_e, lt1_e, nI_1, nI_clamp (by omega)]
                refine ihg (k + 1) _ (by omega) (by omega) (hq4.u _) (fun i y hi c hc => ?_) (fun c hc => ?_)
                · have := (List.getElem?_eq_some_iff.mp hi).1
                  rw [gs_equation, upd_ne (by omega)]
                  exact hE4 i y hi c hc
                · rw [gs_equation]
                  by_cases ec : c = k
                  · rw [ec, upd_at]
                  · rw [upd_ne (by omega)]; exact hz c (by omega)
          exact zero FU 0 md3 (by rw [FU_e]; omega) (by omega) hq hE (fun c h => by omega)
  exact key FU 0 md2 (by rw [FU_e]; omega) (by omega) (Qc.refl md2) (fun i y hi => by cases hi)
end RCOL2
