/-! the chart's neighbourhood is the reference's distance -/
theorem around_b : ∀ a, a < 64 → ∀ e, e < 8 → ∀ c, c < 64 → lb (f_X0_around (nI a) (nI e)) c = decide (f_X7_far (nI c) (nI a) ≤ nI e) := by decide +kernel
