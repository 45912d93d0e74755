theorem okL_d0 : ((List.range 155).all fun i => okI 252 (i + 0) (insT 252 (i + 0))) = true := by decide +kernel
theorem okL_d1 : ((List.range 155).all fun i => okI 252 (i + 155) (insT 252 (i + 155))) = true := by decide +kernel
theorem okL_d2 : ((List.range 155).all fun i => okI 252 (i + 310) (insT 252 (i + 310))) = true := by decide +kernel
