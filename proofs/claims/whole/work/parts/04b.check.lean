theorem okL_b1 : ((List.range 50).all fun i => okL (i + 84)) = true := by decide +kernel
theorem okL_b2 : ((List.range 36).all fun i => okL (i + 134)) = true := by decide +kernel
