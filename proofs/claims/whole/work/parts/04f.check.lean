theorem okL_d : okL 252 = true := by
  refine List.all_eq_true.mpr fun pc hp => ?_
  have hp : pc < 925 := List.mem_range.mp hp
  have g : ∀ (n d : Nat), ((List.range n).all fun i => okI 252 (i + d) (insT 252 (i + d))) = true → d ≤ pc → pc < d + n → okI 252 pc (insT 252 pc) = true := by
    intro n d ha h1 h2
    have h3 := List.all_eq_true.mp ha (pc - d) (List.mem_range.mpr (by omega))
    rwa [show pc - d + d = pc by omega] at h3
  by_cases h1 : pc < 155
  · exact g 155 0 okL_d0 (by omega) (by omega)
  by_cases h2 : pc < 310
  · exact g 155 155 okL_d1 (by omega) (by omega)
  by_cases h3 : pc < 465
  · exact g 155 310 okL_d2 (by omega) (by omega)
  by_cases h4 : pc < 620
  · exact g 155 465 okL_d3 (by omega) (by omega)
  by_cases h5 : pc < 775
  · exact g 155 620 okL_d4 (by omega) (by omega)
  · exact g 150 775 okL_d5 (by omega) (by omega)
theorem okL_k {k : Nat} (h : k < 253) : okL k = true := by
  have g : ∀ (n d : Nat), ((List.range n).all fun i => okL (i + d)) = true → d ≤ k → k < d + n → okL k = true := by
    intro n d ha h1 h2
    have h3 := List.all_eq_true.mp ha (k - d) (List.mem_range.mpr (by omega))
    rwa [show k - d + d = k by omega] at h3
  by_cases h1 : k < 84
  · exact List.all_eq_true.mp okL_a k (List.mem_range.mpr h1)
  by_cases h2 : k < 134
  · exact g 50 84 okL_b1 (by omega) (by omega)
  by_cases h3 : k < 170
  · exact g 36 134 okL_b2 (by omega) (by omega)
  by_cases h4 : k < 220
  · exact g 50 170 okL_c1 (by omega) (by omega)
  by_cases h5 : k < 252
  · exact g 32 220 okL_c2 (by omega) (by omega)
  · rw [show k = 252 by omega]; exact okL_d
theorem okI_k {k pc : Nat} (h : k < 253) (hp : pc < mLen k) : okI k pc (insT k pc) = true := List.all_eq_true.mp (okL_k h) pc (List.mem_range.mpr hp)
theorem okM_k {k : Nat} (h : k < 253) : okM k = true := List.all_eq_true.mp okM_a k (List.mem_range.mpr h)
theorem cN_k {i : Nat} (h : i < 14) : plainName (cN i) = true ∧ cN i ≠ "java/lang/invoke/MethodHandle" ∧ cN i ≠ "java/lang/invoke/VarHandle" := by
  have h1 := List.all_eq_true.mp cN_ok i (List.mem_range.mpr h)
  simp only [Bool.and_eq_true, decide_eq_true_eq] at h1
  exact h1
theorem dsT_k {i : Nat} (h : i < 31) : (parseMethodDescriptor (dsT i)).map (fun d => d.parameters.length) = some (dnT i) := by
  have h1 := List.all_eq_true.mp dsT_ok i (List.mem_range.mpr h)
  simp only [decide_eq_true_eq] at h1
  exact h1
theorem vT_k {a b : Nat} (h : a < 10) (hb : b < vN a) : (vT a b).1 = cN a := by
  have h1 := List.all_eq_true.mp (List.all_eq_true.mp vT_own a (List.mem_range.mpr h)) b (List.mem_range.mpr hb)
  simp only [decide_eq_true_eq] at h1
  exact h1
theorem rng_k : ((List.range 253).all fun k => Nat.ble (mCi k + 1) 14 && Nat.ble (mDi k + 1) 31) = true := by decide +kernel
theorem mCi_k {k : Nat} (h : k < 253) : mCi k < 14 ∧ mDi k < 31 := by
  have h1 := List.all_eq_true.mp rng_k k (List.mem_range.mpr h)
  simp only [Bool.and_eq_true] at h1
  exact ⟨Nat.le_of_ble_eq_true h1.1, Nat.le_of_ble_eq_true h1.2⟩
