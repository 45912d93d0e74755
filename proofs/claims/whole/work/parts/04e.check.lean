theorem okL_d3 : ((List.range 155).all fun i => okI 252 (i + 465) (insT 252 (i + 465))) = true := by decide +kernel
theorem okL_d4 : ((List.range 155).all fun i => okI 252 (i + 620) (insT 252 (i + 620))) = true := by decide +kernel
theorem okL_d5 : ((List.range 150).all fun i => okI 252 (i + 775) (insT 252 (i + 775))) = true := by decide +kernel
