theorem okP_136_0 : ((List.range 150).all fun i => okI 136 (i + 0) (insT 136 (i + 0))) = true := by decide +kernel
theorem okP_136_1 : ((List.range 150).all fun i => okI 136 (i + 150) (insT 136 (i + 150))) = true := by decide +kernel
theorem okP_136_2 : ((List.range 121).all fun i => okI 136 (i + 300) (insT 136 (i + 300))) = true := by decide +kernel
theorem okL_k136 : okL 136 = true := by
  refine List.all_eq_true.mpr fun pc hp => ?_
  have hp : pc < 421 := List.mem_range.mp hp
  have g : ∀ (n d : Nat), ((List.range n).all fun i => okI 136 (i + d) (insT 136 (i + d))) = true → d ≤ pc → pc < d + n → okI 136 pc (insT 136 pc) = true := by
    intro n d ha h1 h2
    have h3 := List.all_eq_true.mp ha (pc - d) (List.mem_range.mpr (by omega))
    rwa [show pc - d + d = pc by omega] at h3
  by_cases h0 : pc < 150
  · exact g 150 0 okP_136_0 (by omega) (by omega)
  by_cases h1 : pc < 300
  · exact g 150 150 okP_136_1 (by omega) (by omega)
  · exact g 121 300 okP_136_2 (by omega) (by omega)
