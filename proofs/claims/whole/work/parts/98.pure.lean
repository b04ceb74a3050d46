/-- the pure machine: the law ends with 1 on every script -/
theorem pm_pure : pm_PURE := pm_pure0
