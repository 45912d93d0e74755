theorem okP_135_0 : ((List.range 150).all fun i => okI 135 (i + 0) (insT 135 (i + 0))) = true := by decide +kernel
theorem okP_135_1 : ((List.range 20).all fun i => okI 135 (i + 150) (insT 135 (i + 150))) = true := by decide +kernel
theorem okL_k135 : okL 135 = true := by
  refine List.all_eq_true.mpr fun pc hp => ?_
  have hp : pc < 170 := List.mem_range.mp hp
  have g : ∀ (n d : Nat), ((List.range n).all fun i => okI 135 (i + d) (insT 135 (i + d))) = true → d ≤ pc → pc < d + n → okI 135 pc (insT 135 pc) = true := by
    intro n d ha h1 h2
    have h3 := List.all_eq_true.mp ha (pc - d) (List.mem_range.mpr (by omega))
    rwa [show pc - d + d = pc by omega] at h3
  by_cases h0 : pc < 150
  · exact g 150 0 okP_135_0 (by omega) (by omega)
  · exact g 20 150 okP_135_1 (by omega) (by omega)
