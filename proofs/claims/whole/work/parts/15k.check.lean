/-! what a program decides of the law's code -/
theorem okL40 : okL GP 229 k229_40 = true := by decide +kernel
