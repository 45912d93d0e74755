theorem okL_c1 : ((List.range 20).all fun i => okL (i + 110)) = true := by decide +kernel
