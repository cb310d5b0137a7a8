/-! a bearing's cells: the class's ray is the reference's walk -/
theorem ray_b : ∀ a, a < 64 → ∀ d, d < 8 → ∀ c, c < 64 → f_X7_bears (nI c) (nI a) (nI d) = bI (lb (f_X0_ray (nI a) (nI d)) c) := by decide +kernel
