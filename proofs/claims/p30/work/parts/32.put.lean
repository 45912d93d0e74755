/-! Functions put on functions; the letters. -/
theorem lit (n : Nat) : (@OfNat.ofNat Int32 n Int32.instOfNat) = nI n := rfl
def pB (n f x y z : Nat) : Nat := (List.range n).foldl (fun r p => r ||| tl f (4 * tl x p + 2 * tl y p + tl z p) <<< p) 0
theorem pB_succ (n f x y z : Nat) : pB (n + 1) f x y z = pB n f x y z ||| tl f (4 * tl x n + 2 * tl y n + tl z n) <<< n := by
  simp [pB, List.range_succ, List.foldl_append]
theorem two_shl {b n : Nat} (h : b < 2) : b <<< n < 2 ^ (n + 1) := by
  rw [Nat.shiftLeft_eq, Nat.pow_succ, Nat.mul_comm]
  exact Nat.mul_lt_mul_of_pos_left h (Nat.two_pow_pos n)
theorem pB_lt (f x y z : Nat) : ∀ n, pB n f x y z < 2 ^ n
  | 0 => by simp [pB]
  | n + 1 => by
    rw [pB_succ]
    exact Nat.or_lt_two_pow (Nat.lt_trans (pB_lt f x y z n) (Nat.pow_lt_pow_succ (by decide))) (two_shl (tl_le _ _))
theorem idx3 : ∀ a, a < 2 → ∀ b, b < 2 → ∀ c, c < 2 → (a <<< 2 ||| b <<< 1 ||| c) = 4 * a + 2 * b + c := by decide
theorem idx_lt {a b c : Nat} (ha : a < 2) (hb : b < 2) (hc : c < 2) : 4 * a + 2 * b + c < 8 := by omega
theorem pw_le {n m : Nat} (h : n ≤ m) : 2 ^ n ≤ 2 ^ m := Nat.pow_le_pow_right (by decide) h
theorem tl_shl {b n : Nat} (h : b < 2) (hn : n ≤ 16) : b <<< n < 2 ^ 32 := Nat.lt_of_lt_of_le (two_shl h) (pw_le (by omega))
theorem tl_e {c p : Nat} (hc : c < 2 ^ 31) (hp : p < 32) : (nI c >>> (nI p &&& 31)) &&& 1 = nI (tl c p) := by
  rw [nI_shr hc hp, lit, nI_and]
  rfl
theorem putOnBits_L {f x y z i n : Nat} (hf : f < 2 ^ 31) (hx : x < 2 ^ 31) (hy : y < 2 ^ 31) (hz : z < 2 ^ 31) (hn : n ≤ 8) (hi : i < n) : Jco_putOnBits_L6 (nI f) (nI x) (nI y) (nI z) (nI n) (nI (pB i f x y z)) (nI i) = some (.inl (nI (pB (i + 1) f x y z), nI (i + 1))) := by
  unfold Jco_putOnBits_L6
  refine (if_pos (nI_lt hi (by omega))).trans ?_
  rw [tl_e hx (by omega), tl_e hy (by omega), tl_e hz (by omega)]
  have e1 : nI (tl x i) <<< ((2 : Int32) &&& 31) = nI (tl x i <<< 2) := nI_shl (b := 2) (tl_shl (tl_le _ _) (by omega)) (by decide)
  have e2 : nI (tl y i) <<< ((1 : Int32) &&& 31) = nI (tl y i <<< 1) := nI_shl (b := 1) (tl_shl (tl_le _ _) (by omega)) (by decide)
  rw [e1, e2, nI_or, nI_or, idx3 _ (tl_le _ _) _ (tl_le _ _) _ (tl_le _ _)]
  refine (bd_of (Jco_tells_at hf (idx_lt (tl_le _ _) (tl_le _ _) (tl_le _ _)))).trans ?_
  rw [nI_shl (tl_shl (tl_le _ _) (by omega)) (by omega), nI_or, ← pB_succ, lit, nI_add]
theorem Jco_putOnBits_at {f x y z n : Nat} (hf : f < 2 ^ 31) (hx : x < 2 ^ 31) (hy : y < 2 ^ 31) (hz : z < 2 ^ 31) (hn : n ≤ 8) : Jco_putOnBits (nI f) (nI x) (nI y) (nI z) (nI n) = some (nI (pB n f x y z)) := by
  unfold Jco_putOnBits
  obtain ⟨r, h1, h2⟩ := loop_cnt (fun s => Jco_putOnBits_L6 (nI f) (nI x) (nI y) (nI z) (nI n) s.1 s.2) (fun i s => s = (nI (pB i f x y z), nI i)) (fun r => r = (nI (pB n f x y z), nI n)) n (fun i s hi hs => by
    subst hs
    exact Or.inl ⟨_, putOnBits_L hf hx hy hz hn hi, rfl⟩) (fun s hs => by
    subst hs
    refine ⟨_, ?_, rfl⟩
    unfold Jco_putOnBits_L6
    exact if_neg (nI_nlt (Nat.le_refl n) (by omega))) (F := 1000000) (by omega) (a := 0) (Nat.zero_le n) (s := (0, 0)) rfl
  refine (bd_of h1).trans ?_
  rw [h2]
def pN (f x y z : Nat) : Nat := pB 8 f x y z
theorem pN_lt (f x y z : Nat) : pN f x y z < 256 := pB_lt f x y z 8
theorem Jco_putOn_at {f x y z : Nat} (hf : f < 2 ^ 31) (hx : x < 2 ^ 31) (hy : y < 2 ^ 31) (hz : z < 2 ^ 31) : Jco_putOn (nI f) (nI x) (nI y) (nI z) = some (nI (pN f x y z)) := by
  unfold Jco_putOn
  exact (bd_of (Jco_putOnBits_at (n := 8) hf hx hy hz (by omega))).trans rfl
theorem Jm_putOn_at {f x y z : Nat} (hf : f < 2 ^ 31) (hx : x < 2 ^ 31) (hy : y < 2 ^ 31) (hz : z < 2 ^ 31) : Jm_putOn (nI f) (nI x) (nI y) (nI z) = some (nI (pN f x y z)) := by
  unfold Jm_putOn
  obtain ⟨r, h1, h2⟩ := loop_cnt (fun s => Jm_putOn_L6 (nI f) (nI x) (nI y) (nI z) s.1 s.2) (fun i s => s = (nI (pB i f x y z), nI i)) (fun r => r = (nI (pB 8 f x y z), nI 8)) 8 (fun i s hi hs => by
    subst hs
    refine Or.inl ⟨_, ?_, rfl⟩
    show Jm_putOn_L6 (nI f) (nI x) (nI y) (nI z) (nI (pB i f x y z)) (nI i) = _
    unfold Jm_putOn_L6
    refine (if_pos (nI_lt hi (by omega))).trans ?_
    refine (bd_of (Jm_tells_at hx (by omega))).trans ?_
    refine (bd_of (Jm_tells_at hy (by omega))).trans ?_
    refine (bd_of (Jm_tells_at hz (by omega))).trans ?_
    rw [lit, lit, nI_mul, nI_mul, nI_add, nI_add]
    refine (bd_of (Jm_tells_at hf (Nat.lt_trans (idx_lt (tl_le _ _) (tl_le _ _) (tl_le _ _)) (by decide)))).trans ?_
    rw [nI_shl (tl_shl (tl_le _ _) (by omega)) (by omega), nI_or, ← pB_succ, lit, nI_add]) (fun s hs => by
    subst hs
    refine ⟨_, ?_, rfl⟩
    show Jm_putOn_L6 (nI f) (nI x) (nI y) (nI z) (nI (pB 8 f x y z)) (nI 8) = _
    unfold Jm_putOn_L6
    exact if_neg (nI_nlt (Nat.le_refl 8) (by omega))) (F := 1000000) (by omega) (a := 0) (Nat.zero_le 8) (s := (0, 0)) rfl
  refine (bd_of h1).trans ?_
  rw [h2]
  rfl
theorem tl_bit (c p : Nat) : tl c p = if c.testBit p then 1 else 0 := by
  unfold tl
  rw [Nat.and_one_is_mod, Nat.shiftRight_eq_div_pow, Nat.testBit_eq_decide_div_mod_eq]
  have h : c / 2 ^ p % 2 < 2 := Nat.mod_lt _ (by decide)
  by_cases q : c / 2 ^ p % 2 = 1
  · simp [q]
  · rw [if_neg (by simpa using q)]; omega
theorem tl_or (a b p : Nat) : tl (a ||| b) p = tl a p ||| tl b p := by
  rw [tl_bit, tl_bit, tl_bit, Nat.testBit_or]
  cases a.testBit p <;> cases b.testBit p <;> rfl
theorem tl_and (a b p : Nat) : tl (a &&& b) p = tl a p &&& tl b p := by
  rw [tl_bit, tl_bit, tl_bit, Nat.testBit_and]
  cases a.testBit p <;> cases b.testBit p <;> rfl
theorem tl_big {c p n : Nat} (h : c < 2 ^ n) (hp : n ≤ p) : tl c p = 0 := by
  rw [tl_bit, Nat.testBit_lt_two_pow (Nat.lt_of_lt_of_le h (pw_le hp))]
  rfl
theorem tl_sh {b n p : Nat} (h : b < 2) : tl (b <<< n) p = if p = n then b else 0 := by
  rw [tl_bit, Nat.testBit_shiftLeft]
  by_cases q : p = n
  · subst q
    have : b = 0 ∨ b = 1 := by omega
    rcases this with rfl | rfl <;> simp
  · rw [if_neg q]
    by_cases g : n ≤ p
    · have g2 : b.testBit (p - n) = false := Nat.testBit_lt_two_pow (Nat.lt_of_lt_of_le h (pw_le (n := 1) (by omega)))
      simp [g2]
    · simp [g]
theorem tl_pB (f x y z : Nat) : ∀ n p, tl (pB n f x y z) p = if p < n then tl f (4 * tl x p + 2 * tl y p + tl z p) else 0
  | 0, p => by
    rw [if_neg (Nat.not_lt_zero p)]
    simp [pB, tl]
  | n + 1, p => by
    rw [pB_succ, tl_or, tl_pB f x y z n p, tl_sh (tl_le _ _)]
    by_cases q : p = n
    · subst q; simp
    · rw [if_neg q, Nat.or_zero]
      by_cases g : p < n
      · rw [if_pos g, if_pos (by omega)]
      · rw [if_neg g, if_neg (by omega)]
theorem tl_pN {f x y z p : Nat} (hp : p < 8) : tl (pN f x y z) p = tl f (4 * tl x p + 2 * tl y p + tl z p) := by
  unfold pN
  rw [tl_pB, if_pos hp]
theorem tl_ext {a b n : Nat} (ha : a < 2 ^ n) (hb : b < 2 ^ n) (h : ∀ p, p < n → tl a p = tl b p) : a = b := by
  apply Nat.eq_of_testBit_eq
  intro p
  by_cases hp : p < n
  · have g := h p hp
    rw [tl_bit, tl_bit] at g
    cases h1 : a.testBit p <;> cases h2 : b.testBit p <;> simp [h1, h2] at g ⊢
  · rw [Nat.testBit_lt_two_pow (Nat.lt_of_lt_of_le ha (pw_le (by omega))), Nat.testBit_lt_two_pow (Nat.lt_of_lt_of_le hb (pw_le (by omega)))]
def lec (a : Nat) : Bool := decide (Jfm_bound (nI a) = Jm_wants (nI a)) && decide (Jfm_isFunction (nI a) = Jm_in (Int32.toInt64 (nI a)) 65 70) && decide (Jfm_isFunction (nI a) = some (if 65 ≤ a ∧ a ≤ 70 then 1 else 0)) && (decide (Jfm_bound (nI a) = some (-1)) || decide (Jfm_bound (nI a) = some 0) || decide (Jfm_bound (nI a) = some 1) || decide (Jfm_bound (nI a) = some 2) || decide (Jfm_bound (nI a) = some 3))
theorem le_ok : ((List.range 256).all lec) = true := by decide +kernel
