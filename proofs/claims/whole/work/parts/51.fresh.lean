/-! new objects: what class and reference have in common at the start -/
theorem words0 : ∀ i, i < 11 → Ta_words Ta0 i = spvL.getD i 0 := by
  intro i hi
  rcases (show i = 0 ∨ i = 1 ∨ i = 2 ∨ i = 3 ∨ i = 4 ∨ i = 5 ∨ i = 6 ∨ i = 7 ∨ i = 8 ∨ i = 9 ∨ i = 10 by omega) with rfl | rfl | rfl | rfl | rfl | rfl | rfl | rfl | rfl | rfl | rfl <;> rfl
theorem ct0 : CT1 Se0 [] := by
  refine ⟨rfl, Nat.zero_le _, List.nodup_nil, fun i k h => (by simp at h), fun s _ => Or.inl rfl, fun i h => absurd h (Nat.not_lt_zero i), ?_⟩
  exact Lpr.empty (fun s _ => if_pos rfl)
theorem inv0 : INV HK0 Re0 Ta0 Ri0 Mo0 Hi0 Bo0 Se0 Co0 Ch0 Md0 none :=
  ⟨⟨rfl, (if_neg (show ¬ (0 : Int32) = 4 by decide)).symm, rfl⟩, ⟨⟨0, Nat.zero_le _, rfl, rfl, fun i _ => (show (0 : Int32) &&& 255 = 0 by decide)⟩, words0⟩, ⟨⟨[], ct0⟩, ⟨fun i h => h, fun i j _ _ e => e⟩, Or.inl ⟨rfl, fun i _ => ⟨rfl, rfl⟩⟩⟩, rfl, rfl, rfl⟩
