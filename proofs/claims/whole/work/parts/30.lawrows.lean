/-! THE LAW'S printed instructions, and the law as a function -/
theorem dt_L_law : ∀ x ∈ mj_cd mY_L_law, decode (mj_by mY_L_law) x.1 = .ok x.2 := by decide +kernel
