/-! ===== bounds of a document (pure) ===== -/
theorem DBn_of {rm nd : Nat} {d : DOC} (h : ∀ a, d = .inr a → GOK rm nd a) (hnd : nd ≤ 16384) : DBn d ∧ ∀ a, d = .inr a → aN a 0 ≤ rm := by
  cases d with
  | inl fp => exact ⟨⟨Nat.zero_le _, Nat.zero_le _, fun i hi => absurd hi (Nat.not_lt_zero i)⟩, fun a ha => by cases ha⟩
  | inr a =>
    obtain ⟨⟨⟨-, -, ⟨r1, r2, -, -⟩, -, ⟨g3, g3'⟩, -⟩, -, hC⟩, -⟩ := h a rfl
    have e1 : elO (.inr a : DOC) = aL a := rfl
    have e2 : atO (.inr a : DOC) = aB a := rfl
    refine ⟨⟨by rw [e1]; omega, by rw [e2]; omega, fun i hi => ?_⟩, fun a' ha => ?_⟩
    · rw [e1] at hi ⊢
      rw [e2]
      refine (hC.1 _ ?_).1
      rw [List.getD_eq_getElem?_getD, List.getElem?_eq_getElem hi]
      exact List.getElem_mem _
    · cases ha
      omega
