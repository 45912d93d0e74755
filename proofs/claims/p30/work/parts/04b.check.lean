theorem okL_b1 : ((List.range 26).all fun i => okL (i + 84)) = true := by decide +kernel
