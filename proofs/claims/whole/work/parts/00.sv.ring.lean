/-! round a ring -/
def xr (h : Nat) : Nat := if h % 2 = 0 then h + 1 else h - 1
theorem xr_2 (h : Nat) : xr h / 2 = h / 2 := by unfold xr; split <;> omega
theorem xr_xr (h : Nat) : xr (xr h) = h := by unfold xr; repeat' split
                                              all_goals omega
theorem xr_ne (h : Nat) : xr h ≠ h := by unfold xr; split <;> omega
theorem same2 {a m : Nat} (h : a / 2 = m / 2) : a = m ∨ a = xr m := by unfold xr; split <;> omega
theorem xr_lt {h P : Nat} (hh : h < 2 * P) : xr h < 2 * P := by unfold xr; split <;> omega
theorem xr_e : ∀ m, m < 16 → nI m ^^^ (1 : Int32) = nI (xr m) := by decide +kernel
/-- hands by which a ring is gone, from the left one of p on -/
def RGK (to : ToS) (P p : Nat) (E : List Nat) : Prop :=
  (∀ a : Nat, E[0]? = some a → a = 2 * p) ∧ (∀ (i a : Nat), E[i]? = some a → a < 2 * P) ∧ (∀ (i a c : Nat), E[i]? = some a → E[i + 1]? = some c → c = xr (mtv to a)) ∧ (∀ (i j a c : Nat), E[i]? = some a → E[j]? = some c → a / 2 = c / 2 → i = j)
section RING
variable {to : ToS} {P p : Nat} {E : List Nat}
theorem RGK.one (hp : p < P) : RGK to P p [2 * p] := by
  refine ⟨fun a h => by simpa using h.symm, fun i a h => ?_, fun i a c _ h => ?_, fun i j a c h1 h2 _ => ?_⟩
  · have := (List.getElem?_eq_some_iff.mp h).1
    have e : i = 0 := by simpa using this
    subst e
    have : a = 2 * p := by simpa using h.symm
    omega
  · have := (List.getElem?_eq_some_iff.mp h).1
    simp at this
  · have := (List.getElem?_eq_some_iff.mp h1).1
    have := (List.getElem?_eq_some_iff.mp h2).1
    simp at *
    omega
theorem ring_next (hF : HF to P) (h : RGK to P p E) {k e : Nat} (hk : E[k]? = some e) (hl : k + 1 = E.length) : mtv to e = 2 * p + 1 ∨ (mtv to e / 2 ≠ p ∧ ∀ (i a : Nat), E[i]? = some a → a / 2 ≠ mtv to e / 2) := by
  obtain ⟨h1, h2, h3, h4⟩ := h
  obtain ⟨m1, m2, m3, m4⟩ := hF.mt (h2 k e hk)
  by_cases hex : ∃ (i a : Nat), E[i]? = some a ∧ a / 2 = mtv to e / 2
  · obtain ⟨i, a, hi, ha⟩ := hex
    have hil : i < E.length := (List.getElem?_eq_some_iff.mp hi).1
    rcases same2 ha with c | c
    · exfalso
      by_cases hik : i = k
      · subst hik
        have : a = e := by rw [hi] at hk; injection hk
        exact m3 (by rw [← c, this])
      · have hc : i + 1 < E.length := by omega
        have h5 := h3 i a E[i + 1] hi (List.getElem?_eq_getElem hc)
        rw [c, m2] at h5
        have h6 := h4 (i + 1) k E[i + 1] e (List.getElem?_eq_getElem hc) hk (by rw [h5, xr_2])
        have h7 : E[i + 1] = e := by
          have z := List.getElem?_eq_getElem hc
          rw [← h6, z] at hk
          injection hk
        rw [h7] at h5
        exact xr_ne e h5.symm
    · cases i with
      | zero =>
        left
        have := h1 a hi
        rw [this] at c
        have e2 : mtv to e = xr (2 * p) := by rw [c, xr_xr]
        rw [e2]
        unfold xr
        rw [if_pos (by omega)]
      | succ i =>
        exfalso
        have hc : i < E.length := by omega
        have h5 := h3 i E[i] a (List.getElem?_eq_getElem hc) hi
        have h6 : mtv to e = mtv to E[i] := by
          have : xr (mtv to e) = xr (mtv to E[i]) := by rw [← c, h5]
          rw [← xr_xr (mtv to e), this, xr_xr]
        have h7 : E[i] = e := by
          have z := (hF.mt (h2 i E[i] (List.getElem?_eq_getElem hc))).2.1
          rw [← h6, m2] at z
          exact z.symm
        have h8 := h4 i k E[i] e (List.getElem?_eq_getElem hc) hk (by rw [h7])
        omega
  · right
    refine ⟨fun e0 => hex ?_, fun i a hi ha => hex ⟨i, a, hi, ha⟩⟩
    have hlen : 0 < E.length := by omega
    refine ⟨0, E[0], List.getElem?_eq_getElem hlen, ?_⟩
    rw [h1 E[0] (List.getElem?_eq_getElem hlen), e0]
    omega
theorem RGK.snoc (hF : HF to P) (h : RGK to P p E) {k e : Nat} (hk : E[k]? = some e) (hl : k + 1 = E.length) (hn : ∀ (i a : Nat), E[i]? = some a → a / 2 ≠ mtv to e / 2) : RGK to P p (E ++ [xr (mtv to e)]) := by
  have h0 := h
  obtain ⟨h1, h2, h3, h4⟩ := h
  have m1 := (hF.mt (h2 k e hk)).1
  refine ⟨fun a ha => ?_, fun i a ha => ?_, fun i a c ha hc => ?_, fun i j a c ha hc hac => ?_⟩
  · rw [List.getElem?_append_left (by omega)] at ha; exact h1 a ha
  · rcases getE_snoc ha with ⟨_, ha⟩ | ⟨_, rfl⟩
    · exact h2 i a ha
    · exact xr_lt m1
  · rcases getE_snoc hc with ⟨l2, hc⟩ | ⟨l2, rfl⟩
    · rw [List.getElem?_append_left (by omega)] at ha; exact h3 i a c ha hc
    · rw [List.getElem?_append_left (by omega)] at ha
      have : i = k := by omega
      subst this
      rw [ha] at hk
      injection hk with hk
      rw [hk]
  · rcases getE_snoc ha with ⟨l1, ha⟩ | ⟨l1, rfl⟩
    · rcases getE_snoc hc with ⟨l2, hc⟩ | ⟨l2, rfl⟩
      · exact h4 i j a c ha hc hac
      · exact absurd (by rw [hac, xr_2]) (hn i a ha)
    · rcases getE_snoc hc with ⟨l2, hc⟩ | ⟨l2, rfl⟩
      · exact absurd (by rw [← hac, xr_2]) (hn j c hc)
      · omega
/-- those in the ring hold nobody else -/
theorem ring_closed (hF : HF to P) (h : RGK to P p E) {k e : Nat} (hk : E[k]? = some e) (hl : k + 1 = E.length) (hc : mtv to e = 2 * p + 1) {i a z : Nat} (hi : E[i]? = some a) (hz : z / 2 = a / 2) : ∃ (j c : Nat), E[j]? = some c ∧ c / 2 = mtv to z / 2 := by
  obtain ⟨h1, h2, h3, h4⟩ := h
  have hil : i < E.length := (List.getElem?_eq_some_iff.mp hi).1
  have h00 : E[0]? = some (2 * p) := by
    have := List.getElem?_eq_getElem (show 0 < E.length by omega)
    rw [this, h1 _ this]
  rcases same2 hz with c | c
  · subst c
    by_cases hik : i = k
    · subst hik
      have : z = e := by rw [hi] at hk; injection hk
      exact ⟨0, 2 * p, h00, by rw [this, hc]; omega⟩
    · have hlt : i + 1 < E.length := by omega
      have h5 := h3 i z E[i + 1] hi (List.getElem?_eq_getElem hlt)
      exact ⟨i + 1, E[i + 1], List.getElem?_eq_getElem hlt, by rw [h5, xr_2]⟩
  · cases i with
    | zero =>
      have := h1 a hi
      have e2 : z = 2 * p + 1 := by
        rw [c, this]
        unfold xr
        rw [if_pos (by omega)]
      have e3 := (hF.mt (h2 k e hk)).2.1
      rw [hc] at e3
      exact ⟨k, e, hk, by rw [e2, e3]⟩
    | succ i =>
      have hlt : i < E.length := by omega
      have h5 := h3 i E[i] a (List.getElem?_eq_getElem hlt) hi
      have e2 : z = mtv to E[i] := by rw [c, h5, xr_xr]
      have e3 := (hF.mt (h2 i E[i] (List.getElem?_eq_getElem hlt))).2.1
      exact ⟨i, E[i], List.getElem?_eq_getElem hlt, by rw [e2, e3]⟩
/-- and the links of their hands are those gone along -/
theorem ring_links (hF : HF to P) (h : RGK to P p E) {k e : Nat} (hk : E[k]? = some e) (hl : k + 1 = E.length) (hc : mtv to e = 2 * p + 1) {i a z : Nat} (hi : E[i]? = some a) (hz : z / 2 = a / 2) : ∃ (j c : Nat), E[j]? = some c ∧ hlv to c = hlv to z := by
  obtain ⟨h1, h2, h3, h4⟩ := h
  have hil : i < E.length := (List.getElem?_eq_some_iff.mp hi).1
  rcases same2 hz with c | c
  · subst c
    exact ⟨i, z, hi, rfl⟩
  · cases i with
    | zero =>
      have := h1 a hi
      have e2 : z = 2 * p + 1 := by
        rw [c, this]
        unfold xr
        rw [if_pos (by omega)]
      have e3 := (hF.mt (h2 k e hk)).2.2.2
      rw [hc] at e3
      exact ⟨k, e, hk, by rw [e2, e3]⟩
    | succ i =>
      have hlt : i < E.length := by omega
      have h5 := h3 i E[i] a (List.getElem?_eq_getElem hlt) hi
      have e2 : z = mtv to E[i] := by rw [c, h5, xr_xr]
      have e3 := (hF.mt (h2 i E[i] (List.getElem?_eq_getElem hlt))).2.2.2
      exact ⟨i, E[i], List.getElem?_eq_getElem hlt, by rw [e2, e3]⟩
end RING
