/-! Numbers, and loops of the functions. -/
theorem nI_and (a b : Nat) : nI a &&& nI b = nI (a &&& b) := Int32.toBitVec_inj.mp (by
  show BitVec.ofNat 32 a &&& BitVec.ofNat 32 b = BitVec.ofNat 32 (a &&& b)
  rw [BitVec.ofNat_and])
theorem nI_or (a b : Nat) : nI a ||| nI b = nI (a ||| b) := Int32.toBitVec_inj.mp (by
  show BitVec.ofNat 32 a ||| BitVec.ofNat 32 b = BitVec.ofNat 32 (a ||| b)
  rw [BitVec.ofNat_or])
theorem nI_xor (a b : Nat) : nI a ^^^ nI b = nI (a ^^^ b) := Int32.toBitVec_inj.mp (by
  show BitVec.ofNat 32 a ^^^ BitVec.ofNat 32 b = BitVec.ofNat 32 (a ^^^ b)
  rw [BitVec.ofNat_xor])
theorem sh31 : ∀ b, b < 32 → ((nI b &&& 31).toBitVec.smod 32).toNat = b := by decide +kernel
theorem nI_shr {a b : Nat} (ha : a < 2 ^ 31) (hb : b < 32) : nI a >>> (nI b &&& 31) = nI (a >>> b) := by
  rw [pk_shrN ha _ b (sh31 b hb), Nat.shiftRight_eq_div_pow]
theorem nI_shl {a b : Nat} (ha : a <<< b < 2 ^ 32) (hb : b < 32) : nI a <<< (nI b &&& 31) = nI (a <<< b) := by
  rw [Nat.shiftLeft_eq] at ha ⊢
  exact pk_shlN _ b (sh31 b hb) ha
theorem nI_sub {a b : Nat} (h : b ≤ a) : nI a - nI b = nI (a - b) := pk_sub h
theorem nI_mul (a b : Nat) : nI a * nI b = nI (a * b) := pk_mul a b
theorem ib_nI {i n : Nat} (h : i < n) (hi : i < 2 ^ 31) : ibB (nI i) n = true := by
  simp only [ibB, Bool.and_eq_true, Bool.not_eq_true', decide_eq_false_iff_not]
  exact ⟨nI_pos hi, by rw [nI_clamp hi]; exact Nat.ble_eq_true_of_le h⟩
theorem loopN_in {σ ρ : Type} {f : σ → Option (σ ⊕ ρ)} {s s' : σ} (h : f s = some (.inl s')) (n : Nat) : loopN (n + 1) f s = loopN n f s' := by
  simp only [loopN, h]
theorem loopN_out {σ ρ : Type} {f : σ → Option (σ ⊕ ρ)} {s : σ} {r : ρ} (h : f s = some (.inr r)) (n : Nat) : loopN (n + 1) f s = some r := by
  simp only [loopN, h]
/-- the loop ends, where a measure falls at each turn -/
theorem loop_inv {σ ρ : Type} (f : σ → Option (σ ⊕ ρ)) (P : σ → Prop) (μ : σ → Nat) (C : ρ → Prop) (h : ∀ s, P s → (∃ s', f s = some (.inl s') ∧ P s' ∧ μ s' < μ s) ∨ ∃ r, f s = some (.inr r) ∧ C r) : ∀ (F : Nat) (s : σ), P s → μ s < F → ∃ r, loopN F f s = some r ∧ C r
  | 0, _, _, hF => absurd hF (Nat.not_lt_zero _)
  | F + 1, s, hs, hF => by
    rcases h s hs with ⟨s', h1, h2, h3⟩ | ⟨r, h1, h2⟩
    · rw [loopN_in h1]
      exact loop_inv f P μ C h F s' h2 (by omega)
    · exact ⟨r, loopN_out h1 F, h2⟩
/-- a loop that counts from a up to b -/
theorem loop_cnt {σ ρ : Type} (f : σ → Option (σ ⊕ ρ)) (P : Nat → σ → Prop) (C : ρ → Prop) (b : Nat) (h : ∀ i s, i < b → P i s → (∃ s', f s = some (.inl s') ∧ P (i + 1) s') ∨ ∃ r, f s = some (.inr r) ∧ C r) (he : ∀ s, P b s → ∃ r, f s = some (.inr r) ∧ C r) {F : Nat} (hF : b < F) {a : Nat} (hab : a ≤ b) {s : σ} (hs : P a s) : ∃ r, loopN F f s = some r ∧ C r := by
  have key : ∀ (n F a : Nat) (s : σ), a ≤ b → b - a = n → n < F → P a s → ∃ r, loopN F f s = some r ∧ C r := by
    intro n
    induction n with
    | zero =>
      intro F a s h1 h2 h3 h4
      have : a = b := by omega
      subst this
      obtain ⟨r, g1, g2⟩ := he s h4
      obtain ⟨F, rfl⟩ : ∃ G, F = G + 1 := ⟨F - 1, by omega⟩
      exact ⟨r, loopN_out g1 F, g2⟩
    | succ n ih =>
      intro F a s h1 h2 h3 h4
      obtain ⟨F, rfl⟩ : ∃ G, F = G + 1 := ⟨F - 1, by omega⟩
      rcases h a s (by omega) h4 with ⟨s', g1, g2⟩ | ⟨r, g1, g2⟩
      · rw [loopN_in g1]
        exact ih F (a + 1) s' (by omega) (by omega) (by omega) g2
      · exact ⟨r, loopN_out g1 F, g2⟩
  exact key (b - a) F a s hab rfl (by omega) hs
theorem bd_some {α β : Type} {a : α} {f : α → Option β} : bd (some a) f = f a := rfl
theorem bd_of {α β : Type} {x : Option α} {a : α} {f : α → Option β} (h : x = some a) : bd x f = f a := by rw [h]; rfl
theorem lt_of' {α : Type} {x : Hp} {f : Hp → α} : lt x f = f x := rfl
theorem cond_t {α : Type} {b : Bool} {x y : α} (h : b = true) : (bif b then x else y) = x := by rw [h]; rfl
theorem hset_at {h : Hp} {i k : Nat} {x : Int32} : hset h i k x i k = x := by simp [hset, upd]
theorem hset_ne2 {h : Hp} {i k j : Nat} {x : Int32} (q : j ≠ k) : hset h i k x i j = h i j := by simp [hset, upd, q]
theorem hset_if {h : Hp} {i k a b : Nat} {x : Int32} : hset h i k x a b = if a = i ∧ b = k then x else h a b := by
  by_cases h1 : a = i
  · subst h1
    by_cases h2 : b = k
    · subst h2; simp [hset, upd]
    · simp [hset, upd, h2]
  · simp [hset, h1]
def tl (c p : Nat) : Nat := c >>> p &&& 1
theorem tl_le (c p : Nat) : tl c p < 2 := by
  unfold tl
  rw [Nat.and_one_is_mod]
  exact Nat.mod_lt _ (by decide)
theorem Jm_tells_at {c p : Nat} (hc : c < 2 ^ 31) (hp : p < 32) : Jm_tells (nI c) (nI p) = some (nI (tl c p)) := by
  show some ((nI c >>> (nI p &&& 31)) &&& nI 1) = _
  rw [nI_shr hc hp, nI_and]
  rfl
theorem and7 : ∀ p, p < 8 → p &&& 7 = p := by decide
theorem Jco_tells_at {c p : Nat} (hc : c < 2 ^ 31) (hp : p < 8) : Jco_tells (nI c) (nI p) = some (nI (tl c p)) := by
  show some ((nI c >>> ((nI p &&& nI 7) &&& 31)) &&& nI 1) = _
  rw [nI_and, and7 p hp, nI_shr hc (by omega), nI_and]
  rfl
