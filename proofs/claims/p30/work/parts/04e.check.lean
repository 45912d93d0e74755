theorem okP_134_0 : ((List.range 150).all fun i => okI 134 (i + 0) (insT 134 (i + 0))) = true := by decide +kernel
theorem okP_134_1 : ((List.range 150).all fun i => okI 134 (i + 150) (insT 134 (i + 150))) = true := by decide +kernel
theorem okP_134_2 : ((List.range 39).all fun i => okI 134 (i + 300) (insT 134 (i + 300))) = true := by decide +kernel
theorem okL_k134 : okL 134 = true := by
  refine List.all_eq_true.mpr fun pc hp => ?_
  have hp : pc < 339 := List.mem_range.mp hp
  have g : ∀ (n d : Nat), ((List.range n).all fun i => okI 134 (i + d) (insT 134 (i + d))) = true → d ≤ pc → pc < d + n → okI 134 pc (insT 134 pc) = true := by
    intro n d ha h1 h2
    have h3 := List.all_eq_true.mp ha (pc - d) (List.mem_range.mpr (by omega))
    rwa [show pc - d + d = pc by omega] at h3
  by_cases h0 : pc < 150
  · exact g 150 0 okP_134_0 (by omega) (by omega)
  by_cases h1 : pc < 300
  · exact g 150 150 okP_134_1 (by omega) (by omega)
  · exact g 39 300 okP_134_2 (by omega) (by omega)
