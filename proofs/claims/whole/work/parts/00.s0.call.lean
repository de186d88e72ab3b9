section CALLF
variable {ri : RiS} {tn : TnS} {hk : HKS} {now : MoS} {bo wb : BoS} {md : MdS} {hi : HiS}
theorem amF_mem {f : Nat → Nat} {P : Nat → Prop} : ∀ (L : List Nat) (o : Option (Nat × Nat)), (∀ b l, o = some (b, l) → P b) → (∀ m, m ∈ L → P m) → ∀ b l, L.foldl (amS f) o = some (b, l) → P b := by
  intro L
  induction L with
  | nil => intro o h _ b l e; exact h b l e
  | cons a L ih =>
    intro o h hL b l e
    rw [List.foldl_cons] at e
    refine ih _ (fun b' l' e' => ?_) (fun m hm => hL m (List.mem_cons_of_mem _ hm)) b l e
    unfold amS at e'
    have ha := hL a List.mem_cons_self
    cases o with
    | none => simp at e'; rw [← e'.1]; exact ha
    | some p =>
      obtain ⟨p1, p2⟩ := p
      simp only at e'
      split at e'
      · have := Option.some.inj e'
        rw [← (Prod.mk.inj this).1]; exact ha
      · exact h b' l' e'
theorem am_val {f : Nat → Nat} {L : List Nat} : amI (amL f L) = -2 ∨ ∃ m, m ∈ L ∧ amI (amL f L) = nI m := by
  cases e : amL f L with
  | none => exact Or.inl rfl
  | some p =>
    obtain ⟨b, l⟩ := p
    exact Or.inr ⟨b, amF_mem (P := fun m => m ∈ L) L none (fun _ _ e => by cases e) (fun _ h => h) b l e, rfl⟩
end CALLF
