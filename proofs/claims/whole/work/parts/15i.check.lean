/-! what a program decides of the law's code -/
theorem okL14 : okL GP 229 k229_14 = true := by decide +kernel
theorem okL15 : okL GP 229 k229_15 = true := by decide +kernel
theorem okL16 : okL GP 229 k229_16 = true := by decide +kernel
theorem okL17 : okL GP 229 k229_17 = true := by decide +kernel
theorem okL18 : okL GP 229 k229_18 = true := by decide +kernel
theorem okL19 : okL GP 229 k229_19 = true := by decide +kernel
theorem okL20 : okL GP 229 k229_20 = true := by decide +kernel
theorem okL21 : okL GP 229 k229_21 = true := by decide +kernel
theorem okL22 : okL GP 229 k229_22 = true := by decide +kernel
theorem okL23 : okL GP 229 k229_23 = true := by decide +kernel
theorem okL24 : okL GP 229 k229_24 = true := by decide +kernel
theorem okL25 : okL GP 229 k229_25 = true := by decide +kernel
theorem okL26 : okL GP 229 k229_26 = true := by decide +kernel
theorem okL27 : okL GP 229 k229_27 = true := by decide +kernel
