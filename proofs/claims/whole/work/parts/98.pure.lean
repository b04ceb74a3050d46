/-- NOT PROVED YET -/
theorem pm_pure : pm_PURE := by
  sorry
