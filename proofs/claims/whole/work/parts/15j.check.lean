/-! what a program decides of the law's code -/
theorem okL28 : okL GP 229 k229_28 = true := by decide +kernel
theorem okL29 : okL GP 229 k229_29 = true := by decide +kernel
theorem okL30 : okL GP 229 k229_30 = true := by decide +kernel
theorem okL31 : okL GP 229 k229_31 = true := by decide +kernel
theorem okL32 : okL GP 229 k229_32 = true := by decide +kernel
theorem okL33 : okL GP 229 k229_33 = true := by decide +kernel
theorem okL34 : okL GP 229 k229_34 = true := by decide +kernel
theorem okL35 : okL GP 229 k229_35 = true := by decide +kernel
theorem okL36 : okL GP 229 k229_36 = true := by decide +kernel
theorem okL37 : okL GP 229 k229_37 = true := by decide +kernel
theorem okL38 : okL GP 229 k229_38 = true := by decide +kernel
theorem okL39 : okL GP 229 k229_39 = true := by decide +kernel
