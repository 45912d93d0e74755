theorem okL_c1 : ((List.range 50).all fun i => okL (i + 170)) = true := by decide +kernel
theorem okL_c2 : ((List.range 32).all fun i => okL (i + 220)) = true := by decide +kernel
