/-! what a program decides of the law's code -/
theorem okL0 : okL GP 229 k229_0 = true := by decide +kernel
theorem okL1 : okL GP 229 k229_1 = true := by decide +kernel
theorem okL2 : okL GP 229 k229_2 = true := by decide +kernel
theorem okL3 : okL GP 229 k229_3 = true := by decide +kernel
theorem okL4 : okL GP 229 k229_4 = true := by decide +kernel
theorem okL5 : okL GP 229 k229_5 = true := by decide +kernel
theorem okL6 : okL GP 229 k229_6 = true := by decide +kernel
theorem okL7 : okL GP 229 k229_7 = true := by decide +kernel
theorem okL8 : okL GP 229 k229_8 = true := by decide +kernel
theorem okL9 : okL GP 229 k229_9 = true := by decide +kernel
theorem okL10 : okL GP 229 k229_10 = true := by decide +kernel
theorem okL11 : okL GP 229 k229_11 = true := by decide +kernel
theorem okL12 : okL GP 229 k229_12 = true := by decide +kernel
theorem okL13 : okL GP 229 k229_13 = true := by decide +kernel
