theorem zlcmp_self (a : Int) : zlcmp a a = 0 := by unfold zlcmp; simp
theorem A_scal {μ : zM} (h : Rel μ) : f_X_asked μ = f_M_asked μ ∧ zlcmp (f_X_upper μ) (f_M_upper μ) = 0 ∧ zlcmp (f_X_lower μ) (f_M_lower μ) = 0 ∧ f_X_finding μ = f_M_finding μ := by
  obtain ⟨a1, a2, a3, a4, _⟩ := h.1
  refine ⟨a2, ?_, ?_, a1⟩
  · show zlcmp (μ 0 10) (μ 42 11) = 0
    rw [a3]; exact zlcmp_self _
  · show zlcmp (μ 0 11) (μ 42 12) = 0
    rw [a4]; exact zlcmp_self _
