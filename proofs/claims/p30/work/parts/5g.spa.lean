/-! What can be spared. -/
def spA (s : Sh) : Nat → Nat
  | 0 => 0
  | i + 1 => if tl s.2.2 i = 1 ∧ cmX s s.2.2 i s.1 = cmS s then spA s i ||| 1 <<< i else spA s i
theorem tl_out {B k i n : Nat} (hB : B < 2 ^ n) (hk : k < n) (hi : i < n) : tl (B &&& ((1 <<< k) ^^^ (2 ^ n - 1))) i = if i = k then 0 else tl B i := by
  have e : (2 ^ n - 1).testBit i = true := by rw [Nat.testBit_two_pow_sub_one]; simp [hi]
  have b1 : (1 <<< k).testBit i = decide (i = k) := by
    rw [Nat.testBit_shiftLeft]
    by_cases q : i = k
    · subst q; simp
    · by_cases w : k ≤ i
      · obtain ⟨m, hm⟩ : ∃ m, i - k = m + 1 := ⟨i - k - 1, by omega⟩
        simp [q, w, hm, Nat.testBit_succ]
      · simp [q, w]
  rw [tl_bit, tl_bit, Nat.testBit_and, Nat.testBit_xor, e, b1]
  by_cases q : i = k
  · simp [q]
  · simp [q]
theorem spareC_at {h : Hp} {s : Sh} (hS : shC h s) (hs : okS s) (hP : CP h) : Jyn_spare h = some (nI (spA s s.1)) := by
  have h6 := hs.1
  have hb := base_lt hs
  have cm := cmS_lt s
  obtain ⟨r, l1, l2⟩ := loop_cnt (fun t => Jyn_spare_L18 (nI s.2.2) (nI (cmS s)) h t.1 t.2) (fun i t => t = (nI (spA s i), nI i)) (fun r => r.1 = nI (spA s s.1)) s.1 (fun i t hi ht => by
      subst ht
      refine Or.inl ⟨(nI (spA s (i + 1)), nI (i + 1)), ?_, rfl⟩
      have a4 : (nI s.2.2 >>> (nI i &&& 31) : Int32) &&& (1 : Int32) = nI (tl s.2.2 i) := tl_e (by omega) (by omega)
      have lt2 : s.2.2 &&& ((1 <<< i) ^^^ 63) < 64 := Nat.lt_of_le_of_lt Nat.and_le_left hb
      have val : nI s.2.2 &&& (((1 : Int32) <<< (nI i &&& 31) : Int32) ^^^ (-1 : Int32)) = nI (s.2.2 &&& ((1 <<< i) ^^^ 63)) := by
        rw [shl1 (by omega), show (-1 : Int32) = -nI 1 from rfl, nI_not (n := 6) hb (by decide)]
      have co := commonOf_at hS hs hP (B := s.2.2 &&& ((1 <<< i) ^^^ 63)) (by omega)
      have eq : cmX s (s.2.2 &&& ((1 <<< i) ^^^ 63)) 99 s.1 = cmX s s.2.2 i s.1 := cmX_eq fun j hj => by
        rw [tl_out (n := 6) hb (by omega) (by omega)]
        by_cases z : j = i
        · simp [z]
        · simp [z]; omega
      rw [eq] at co
      have c4 := cmX_lt s s.2.2 i s.1
      show Jyn_spare_L18 (nI s.2.2) (nI (cmS s)) h (nI (spA s i)) (nI i) = _
      unfold Jyn_spare_L18
      rw [size_at hS, bd_some, if_pos ((nI_ltI (by omega) (by omega)).mpr hi), a4, val, co, bd_some, spA]
      rcases t01 (tl_le s.2.2 i) with q | q
      · rw [q, if_pos (show nI 0 = (0 : Int32) from rfl), if_neg (by omega), lit 1, nI_add]
      · rw [q, if_neg (by decide)]
        by_cases z : cmX s s.2.2 i s.1 = cmS s
        · rw [if_pos (by rw [z]), if_pos ⟨rfl, z⟩, shl1 (by omega), nI_or, lit 1, nI_add]
        · rw [if_neg (fun w => z ((nI_eq (by omega) (by omega)).mp w)), if_neg (fun w => z w.2), lit 1, nI_add]) (fun t ht => by
      subst ht
      refine ⟨(nI (spA s s.1), nI s.1), ?_, rfl⟩
      show Jyn_spare_L18 (nI s.2.2) (nI (cmS s)) h (nI (spA s s.1)) (nI s.1) = _
      unfold Jyn_spare_L18
      rw [size_at hS, bd_some, if_neg (fun w => absurd ((nI_ltI (by omega) (by omega)).mp w) (by omega))]) (F := 1000000) (by omega) (a := 0) (by omega) (s := (0, 0)) rfl
  unfold Jyn_spare
  rw [chosen_at hS, bd_some, commonC_at hS hs hP, bd_some]
  exact (bd_of l1).trans (by rw [l2])
