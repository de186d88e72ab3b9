section KEEPS
variable {hk : HKS} {re : ReS} {ta : TaS} {to : ToS} {ri : RiS} {now tr : MoS} {hi : HiS} {bo sb wb : BoS} {se : SeS} {co : CoS} {ch : ChS} {md : MdS} {ot : Option TnS}
theorem b1s {α β : Type} {a : α} {K : α → Option β} : bd1 (some a) K = K a := rfl
theorem b2s {α γ β : Type} {a : α} {b : γ} {K : α → γ → Option β} : bd2 (some (a, b)) K = K a b := rfl
theorem b3s {α γ δ β : Type} {a : α} {b : γ} {c : δ} {K : α → γ → δ → Option β} : bd3 (some (a, b, c)) K = K a b c := rfl
theorem INV.sc {md1 : MdS} (h : INV hk re ta ri now hi bo se co ch md ot) (k : Sc (Md_thrown' md 0) md1) : INV hk re ta ri now hi bo se co ch md1 ot := by
  obtain ⟨q1, q2, q3, q4, q5, q6⟩ := thr_e md 0
  obtain ⟨⟨i1, i2, i3⟩, ⟨⟨n0, hn0, t1, t2, t3⟩, i5⟩, i6, i7⟩ := id h
  refine h.stay (q1.trans k.same) rfl ⟨?_, ?_, ?_⟩ ⟨⟨n0, hn0, t1, ?_, fun i hi => ?_⟩, i5⟩ i6
  · rw [k.trouble, q5]; exact i1
  · rw [k.where, k.trouble, q5, q6]; exact i2
  · rw [k.fault, q4]; exact i3
  · rw [k.taped, q3]; exact t2
  · rw [k.tape, q2]; exact t3 i hi
theorem INV.thr (h : INV hk re ta ri now hi bo se co ch md ot) : INV hk re ta ri now hi bo se co ch (Md_thrown' md 0) ot := h.sc (Sc.refl _)
theorem INV.thr1 (h : INV hk re ta ri now hi bo se co ch md ot) (v : Int32) : INV hk re ta ri now hi bo se co ch (Md_thrown' md v) ot := by
  obtain ⟨q1, q2, q3, q4, q5, q6⟩ := thr_e md v
  obtain ⟨⟨i1, i2, i3⟩, ⟨⟨n0, hn0, t1, t2, t3⟩, i5⟩, i6, i7⟩ := id h
  refine h.stay q1 rfl ⟨?_, ?_, ?_⟩ ⟨⟨n0, hn0, t1, ?_, fun i hi => ?_⟩, i5⟩ i6
  · rw [q5]; exact i1
  · rw [q5, q6]; exact i2
  · rw [q4]; exact i3
  · rw [q3]; exact t2
  · rw [q2]; exact t3 i hi
theorem INV.an {hk' : HKS} {md' : MdS} {se' : SeS} {co' : CoS} {ch' : ChS} (h : INV hk re ta ri now hi bo se co ch md ot) (a : ANs hk md hk' md') (h4 : (∃ ks, CT1 se' ks) ∧ PIo co' ∧ ChI ch') : INV hk' re ta ri now hi bo se' co' ch' md' ot := by
  obtain ⟨k, md1, hk4, rfl, hs, rfl⟩ := a
  have h1 := h.sc hs
  obtain ⟨s1, s2, s3, s4, s5, s6⟩ := stt_e md1 k
  obtain ⟨⟨i1, i2, i3⟩, ⟨⟨n0, hn0, t1, t2, t3⟩, i5⟩, i6, i7⟩ := id h1
  refine h1.stay s1 rfl ⟨?_, ?_, ?_⟩ ⟨⟨n0, hn0, t1, ?_, fun i hi => ?_⟩, i5⟩ h4
  · rw [s2]; rfl
  · rw [s3, s2, if_neg hk4]
  · rw [s6]; exact i3
  · rw [s5]; exact t2
  · rw [s4]; exact t3 i hi
theorem INV.ac {tn : TnS} {r : Int32} {hk' : HKS} {bo' : BoS} {hi' : HiS} {now' : MoS} {q : Int32 × MdS} (h : INV hk re ta ri now hi bo se co ch md (some tn)) (a : AC tn ri hk md r hk' bo' hi' now' q) : r = q.1 ∧ INV hk' re ta ri now' hi' bo' se co ch q.2 (some tn) := by
  obtain ⟨a1, a2, a3, f1, f2, f3, f4, f5, f6, f7, f8⟩ := a
  obtain ⟨⟨i1, i2, i3⟩, ⟨⟨n0, hn0, t1, t2, t3⟩, i5⟩, i6, i7⟩ := h
  refine ⟨a1, ⟨f2, ?_, ?_⟩, ⟨⟨n0, hn0, t1, ?_, fun i hi => ?_⟩, i5⟩, i6, f1.trans i7.1, a2, a3, i7.2.2.2⟩
  · rw [f4, if_neg f3]
  · rw [f8]; exact i3
  · rw [f7]; exact t2
  · rw [f6]; exact t3 i hi
theorem PIo.of_acore {co co' : CoS} (h : PIo co) (e : acore co' = acore co) : PIo co' := by
  have e1 : Co_pi co' = Co_pi co := congrArg (fun z : (Nat → Nat) × (Nat → Nat → Int32) => z.1) e
  unfold PIo at h ⊢
  rw [e1]
  exact h
/-- no tangle: refused -/
theorem INV.no {k : Int32} (h : INV hk re ta ri now hi bo se co ch md ot) (hk4 : k ≠ 4) : INV (HK_trouble' hk k) re ta ri now hi bo se co ch (stt (Md_thrown' md 0) k) ot := h.an ⟨k, _, hk4, rfl, Sc.refl _, rfl⟩ h.2.2.1
end KEEPS
