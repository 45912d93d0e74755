theorem okL_k {k : Nat} (h : k < 137) : okL k = true := by
  have g : ∀ (n d : Nat), ((List.range n).all fun i => okL (i + d)) = true → d ≤ k → k < d + n → okL k = true := by
    intro n d ha h1 h2
    have h3 := List.all_eq_true.mp ha (k - d) (List.mem_range.mpr (by omega))
    rwa [show k - d + d = k by omega] at h3
  by_cases h1 : k < 84
  · exact List.all_eq_true.mp okL_a k (List.mem_range.mpr h1)
  by_cases h2 : k < 110
  · exact g 26 84 okL_b1 (by omega) (by omega)
  by_cases h3 : k < 130
  · exact g 20 110 okL_c1 (by omega) (by omega)
  by_cases h4 : k < 134
  · exact g 4 130 okL_d1 (by omega) (by omega)
  by_cases h5 : k = 134
  · rw [h5]; exact okL_k134
  by_cases h6 : k = 135
  · rw [h6]; exact okL_k135
  · rw [show k = 136 by omega]; exact okL_k136
theorem okI_k {k pc : Nat} (h : k < 137) (hp : pc < mLen k) : okI k pc (insT k pc) = true := List.all_eq_true.mp (okL_k h) pc (List.mem_range.mpr hp)
theorem okM_k {k : Nat} (h : k < 137) : okM k = true := List.all_eq_true.mp okM_a k (List.mem_range.mpr h)
theorem cN_k {i : Nat} (h : i < 12) : plainName (cN i) = true ∧ cN i ≠ "java/lang/invoke/MethodHandle" ∧ cN i ≠ "java/lang/invoke/VarHandle" := by
  have h1 := List.all_eq_true.mp cN_ok i (List.mem_range.mpr h)
  simp only [Bool.and_eq_true, decide_eq_true_eq] at h1
  exact h1
theorem dsT_k {i : Nat} (h : i < 30) : (parseMethodDescriptor (dsT i)).map (fun d => d.parameters.length) = some (dnT i) := by
  have h1 := List.all_eq_true.mp dsT_ok i (List.mem_range.mpr h)
  simp only [decide_eq_true_eq] at h1
  exact h1
theorem vT_k {a b : Nat} (h : a < 9) (hb : b < vN a) : (vT a b).1 = cN a := by
  have h1 := List.all_eq_true.mp (List.all_eq_true.mp vT_own a (List.mem_range.mpr h)) b (List.mem_range.mpr hb)
  simp only [decide_eq_true_eq] at h1
  exact h1
theorem rng_k : ((List.range 137).all fun k => Nat.ble (mCi k + 1) 12 && Nat.ble (mDi k + 1) 30) = true := by decide +kernel
theorem mCi_k {k : Nat} (h : k < 137) : mCi k < 12 ∧ mDi k < 30 := by
  have h1 := List.all_eq_true.mp rng_k k (List.mem_range.mpr h)
  simp only [Bool.and_eq_true] at h1
  exact ⟨Nat.le_of_ble_eq_true h1.1, Nat.le_of_ble_eq_true h1.2⟩
