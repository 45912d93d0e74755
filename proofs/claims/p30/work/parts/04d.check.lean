theorem okL_d1 : ((List.range 4).all fun i => okL (i + 130)) = true := by decide +kernel
