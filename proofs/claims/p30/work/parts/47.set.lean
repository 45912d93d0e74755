/-! The search: what is made is dropped and listed. -/
theorem cnt_mono (f : Nat → Bool) {n m : Nat} (h : n ≤ m) : cntT f n ≤ cntT f m := by
  induction h with
  | refl => exact Nat.le_refl _
  | @step k hk ih =>
    rw [show k.succ = k + 1 from rfl, cntT_succ]
    cases f k <;> simp <;> omega
theorem cnt_lt {f : Nat → Bool} {c n : Nat} (h : c < n) (hf : f c = true) : cntT f c < cntT f n := by
  have := cnt_mono f (show c + 1 ≤ n from h)
  rw [cntT_succ, hf, cond_true] at this
  omega
theorem cnt_inv {f : Nat → Bool} {c c' : Nat} (h : cntT f c < cntT f c') : c < c' := by
  refine Nat.not_le.mp fun q => ?_
  have := cnt_mono f q
  omega
theorem cnt_surj {f : Nat → Bool} : ∀ {n k : Nat}, k < cntT f n → ∃ c, c < n ∧ f c = true ∧ cntT f c = k
  | 0, k, h => by simp [cntT] at h
  | n + 1, k, h => by
    rw [cntT_succ] at h
    by_cases q : k < cntT f n
    · obtain ⟨c, h1, h2⟩ := cnt_surj q
      exact ⟨c, by omega, h2⟩
    · cases b : f n with
      | true => rw [b, cond_true] at h; exact ⟨n, by omega, b, by omega⟩
      | false => rw [b, cond_false] at h; exact absurd h q
theorem cnt_or {f g k : Nat → Bool} : ∀ {n : Nat}, (∀ c, c < n → f c = (g c || k c) ∧ ¬ (g c = true ∧ k c = true)) → cntT f n = cntT g n + cntT k n
  | 0, _ => by simp [cntT]
  | n + 1, h => by
    rw [cntT_succ, cntT_succ, cntT_succ, cnt_or (fun c hc => h c (by omega))]
    obtain ⟨h1, h2⟩ := h n (by omega)
    rw [h1]
    cases a : g n <;> cases b : k n <;> simp
    all_goals first | omega | exact (h2 ⟨a, b⟩).elim
theorem cnt_eq {f g : Nat → Bool} : ∀ {n : Nat}, (∀ c, c < n → f c = g c) → cntT f n = cntT g n
  | 0, _ => by simp [cntT]
  | n + 1, h => by
    rw [cntT_succ, cntT_succ, cnt_eq (fun c hc => h c (by omega)), h n (by omega)]
theorem cnt_z {f : Nat → Bool} : ∀ {n : Nat}, (∀ c, c < n → f c = false) → cntT f n = 0
  | 0, _ => by simp [cntT]
  | n + 1, h => by
    rw [cntT_succ, cnt_z (fun c hc => h c (by omega)), h n (by omega)]
    rfl
/-- costs less than m -/
def cb (C : Nat → Option Nat) (m c : Nat) : Bool := match C c with
  | some k => Nat.ble (k + 1) m
  | none => false
def ce (C : Nat → Option Nat) (m c : Nat) : Bool := match C c with
  | some k => Nat.beq k m
  | none => false
theorem ce_iff {C : Nat → Option Nat} {m c : Nat} : ce C m c = true ↔ C c = some m := by
  unfold ce
  cases C c with
  | none => simp
  | some k =>
    constructor
    · intro h; rw [Nat.eq_of_beq_eq_true h]
    · intro h; cases h; exact Nat.beq_refl m
theorem cb_iff {C : Nat → Option Nat} {m c : Nat} : cb C m c = true ↔ ∃ k, C c = some k ∧ k < m := by
  unfold cb
  cases C c with
  | none => simp
  | some k =>
    constructor
    · intro h; exact ⟨k, rfl, Nat.le_of_ble_eq_true h⟩
    · intro ⟨k', h1, h2⟩; cases h1; exact Nat.ble_eq_true_of_le h2
theorem cb_succ (C : Nat → Option Nat) (m n : Nat) : cntT (cb C (m + 1)) n = cntT (cb C m) n + cntT (ce C m) n := by
  refine cnt_or fun c _ => ?_
  unfold cb ce
  cases C c with
  | none => simp
  | some k =>
    simp only [Nat.ble_eq]
    by_cases h1 : k = m
    · subst h1
      refine ⟨?_, fun w => ?_⟩
      · rw [ble_e (Nat.le_refl (k + 1)), Nat.beq_refl, Bool.or_true]
      · omega
    · rw [beq_ne h1, Bool.or_false]
      refine ⟨?_, fun w => by simp at w⟩
      by_cases h2 : k + 1 ≤ m
      · rw [ble_e h2, ble_e (by omega)]
      · have a : Nat.ble (k + 1) m = false := by
          cases q : Nat.ble (k + 1) m with
          | false => rfl
          | true => exact absurd (Nat.le_of_ble_eq_true q) h2
        have b : Nat.ble (k + 1) (m + 1) = false := by
          cases q : Nat.ble (k + 1) (m + 1) with
          | false => rfl
          | true => have := Nat.le_of_ble_eq_true q; omega
        rw [a, b]
theorem cnt_two (C : Nat → Option Nat) (m n : Nat) : cntT (cb C m) n + cntT (ce C m) n ≤ n := by
  rw [← cb_succ]
  exact cntT_le _ _
theorem dropMade_at {h : Hp} {S : Nat} (M : MS h S) : ∃ h', Jcs_dropMade h = some h' ∧ MS h' S ∧ ∀ p k, p ≠ 15 → ¬ (p = 10 ∧ k = 10) → h' p k = h p k := by
  obtain ⟨q, mi, m1, m2, m3, m4⟩ := M
  obtain ⟨r, l1, l2⟩ := loop_cnt (fun s => Jcs_dropMade_L4 s.1 s.2.1 s.2.2) (fun i s => ∃ (a : Nat) (ai : Nat → Nat), s.1 = nI a ∧ s.2.1 = nI i ∧ a ≤ i ∧ (∀ j, j < a → s.2.2 15 j = nI (ai j) ∧ ai j < 256) ∧ (∀ j, j < i → h 11 (mi j) = -1 → ∃ l, l < a ∧ ai l = mi j) ∧ (∀ j, i ≤ j → s.2.2 15 j = h 15 j) ∧ ∀ p k, p ≠ 15 → s.2.2 p k = h p k) (fun r => ∃ (a : Nat) (ai : Nat → Nat), r.1 = nI a ∧ a ≤ q ∧ (∀ j, j < a → r.2.2 15 j = nI (ai j) ∧ ai j < 256) ∧ (∀ j, j < q → h 11 (mi j) = -1 → ∃ l, l < a ∧ ai l = mi j) ∧ ∀ p k, p ≠ 15 → r.2.2 p k = h p k) q (fun i s hi hs => by
      obtain ⟨a', i', hh⟩ := s
      obtain ⟨a, ai, e1, e2, h1, h2, h3, h4, h5⟩ := hs
      replace e1 : a' = nI a := e1
      replace e2 : i' = nI i := e2
      subst e1
      subst e2
      replace h2 : ∀ j, j < a → hh 15 j = nI (ai j) ∧ ai j < 256 := h2
      replace h4 : ∀ j, i ≤ j → hh 15 j = h 15 j := h4
      replace h5 : ∀ p k, p ≠ 15 → hh p k = h p k := h5
      obtain ⟨c0, c1⟩ := m3 i hi
      have u1 : hh 10 10 = nI q := (h5 10 10 (by decide)).trans m1
      have u2 : hh 15 i = nI (mi i) := (h4 i (Nat.le_refl i)).trans c0
      have v2 := isMade_at (h := hh) c1
      rw [h5 11 (mi i) (by decide)] at v2
      by_cases b : h 11 (mi i) = -1
      · rw [if_pos b] at v2
        refine Or.inl ⟨(nI (a + 1), nI (i + 1), hset hh 15 a (nI (mi i))), ?_, a + 1, fun l => if l = a then mi i else ai l, rfl, rfl, by omega, fun j hj => ?_, fun j j1 j2 => ?_, fun j hj => ?_, fun p k hp => ?_⟩
        · simp (disch := omega) only [Jcs_dropMade_L4, u1, u2, v2, bd_some, lt_of', sm_l, sm_r, lit, lN_n, hset_if, nI_ltP, nI_eqI, nI_add, nI_sub, nI_clamp, ib_nI, cond_true, if_pos, if_neg, and_self, and_true, true_and, false_and, and_false, ↓reduceIte, eq_self, nI_m1]
          all_goals simp
        · show hset hh 15 a (nI (mi i)) 15 j = _ ∧ _
          rw [hset_if]
          by_cases z : j = a
          · subst z; simp [c1]
          · have := h2 j (by omega)
            simp [z, this]
        · by_cases z : j = i
          · subst z
            exact ⟨a, by omega, if_pos rfl⟩
          · obtain ⟨l, w1, w2⟩ := h3 j (by omega) j2
            exact ⟨l, by omega, (if_neg (show ¬ l = a by omega)).trans w2⟩
        · show hset hh 15 a (nI (mi i)) 15 j = _
          rw [hset_if, if_neg (by omega)]
          exact h4 j (by omega)
        · show hset hh 15 a (nI (mi i)) p k = _
          rw [hset_if, if_neg (by simp [hp])]
          exact h5 p k hp
      · rw [if_neg b] at v2
        refine Or.inl ⟨(nI a, nI (i + 1), hh), ?_, a, ai, rfl, rfl, by omega, h2, fun j j1 j2 => ?_, fun j hj => h4 j (by omega), h5⟩
        · simp (disch := omega) only [Jcs_dropMade_L4, u1, u2, v2, bd_some, lt_of', sm_l, sm_r, lit, lN_n, hset_if, nI_ltP, nI_eqI, nI_add, nI_sub, nI_clamp, ib_nI, cond_true, if_pos, if_neg, and_self, and_true, true_and, false_and, and_false, ↓reduceIte, eq_self, nI_m1]
          all_goals simp
        · by_cases z : j = i
          · subst z; exact absurd j2 b
          · exact h3 j (by omega) j2) (fun s hs => by
      obtain ⟨a', i', hh⟩ := s
      obtain ⟨a, ai, e1, e2, h1, h2, h3, h4, h5⟩ := hs
      replace e1 : a' = nI a := e1
      replace e2 : i' = nI q := e2
      subst e1
      subst e2
      have u1 : hh 10 10 = nI q := (h5 10 10 (by decide)).trans m1
      exact ⟨(nI a, nI q, hh), by simp (disch := omega) only [Jcs_dropMade_L4, u1, bd_some, lt_of', sm_l, sm_r, lit, lN_n, hset_if, nI_ltP, nI_eqI, nI_add, nI_sub, nI_clamp, ib_nI, cond_true, if_pos, if_neg, and_self, and_true, true_and, false_and, and_false, ↓reduceIte, eq_self, nI_m1], a, ai, rfl, h1, h2, h3, h5⟩) (F := 1000000) (by omega) (a := 0) (by omega) (s := (0, 0, h)) ⟨0, fun _ => 0, rfl, rfl, Nat.le_refl 0, fun j hj => absurd hj (by omega), fun j hj => absurd hj (by omega), fun _ _ => rfl, fun _ _ _ => rfl⟩
  obtain ⟨a, ai, g1, g2, g3, g4, g5⟩ := l2
  refine ⟨hset r.2.2 10 10 (nI a), ?_, ⟨a, ai, by rw [hset_if, if_pos (by decide)], by omega, fun j hj => ?_, fun c hc u w => ?_⟩, fun p k w1 w2 => ?_⟩
  · unfold Jcs_dropMade
    refine (bd_of l1).trans ?_
    rw [lt_of', g1]
  · rw [hset_if, if_neg (by simp)]
    exact g3 j hj
  · rw [hset_if, if_neg (by simp), g5 11 c (by decide)] at u
    obtain ⟨i, i1, i2⟩ := m4 c hc u w
    obtain ⟨l, k1, k2⟩ := g4 i i1 (by rw [i2]; exact u)
    exact ⟨l, k1, k2.trans i2⟩
  · rw [hset_if, if_neg w2]
    exact g5 p k w1
