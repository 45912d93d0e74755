/-! Places: the class's questions, and the model's tables when they are laid. -/
theorem and255 : ∀ c, c < 256 → c &&& 255 = c := by decide +kernel
theorem and4095 {s : Nat} (h : s < 4096) : s &&& 4095 = s := by
  have := Nat.and_two_pow_sub_one_eq_mod s 12
  rw [show (2 ^ 12 - 1 : Nat) = 4095 from rfl] at this
  rw [this]
  exact Nat.mod_eq_of_lt h
theorem and_lt4 {a b : Nat} (h : a < 4096) : a &&& b < 4096 := Nat.lt_of_le_of_lt Nat.and_le_left h
def CP (h : Hp) : Prop := (∀ c, c < 256 → h 5 c = nI (trN c)) ∧ h 4 4 = nI 46 ∧ (∀ k, k < 46 → h 6 k = nI (plN k) ∧ h 7 (plN k) = nI k) ∧ ∀ s, s < 4096 → h 8 s = if isP s = true then nI (rkS s) else -1
theorem CP_fr {h h' : Hp} (a : h' 4 = h 4) (b : h' 5 = h 5) (c : h' 6 = h 6) (d : h' 7 = h 7) (e : h' 8 = h 8) (H : CP h) : CP h' := by
  unfold CP
  rw [a, b, c, d, e]
  exact H
theorem traitsOf_at {h : Hp} (H : CP h) {c : Nat} (hc : c < 256) : Jpl_traitsOf (nI c) h = some (nI (trN c)) := by
  have h1 := H.1 c hc
  have h2 := and255 c hc
  simp (disch := omega) only [Jpl_traitsOf, nI_and, h2, h1, bd_some, lt_of', sm_l, sm_r, lit, lN_n, hset_if, nI_ltP, nI_eqI, nI_add, nI_sub, nI_clamp, ib_nI, cond_true, if_pos, if_neg, and_self, and_true, true_and, false_and, and_false, ↓reduceIte, eq_self, nI_m1]
theorem numberOf_at {h : Hp} (H : CP h) {s : Nat} (hs : s < 4096) (hp : isP s = true) : Jpl_numberOf (nI s) h = some (nI (ixN s)) := by
  obtain ⟨e1, e2⟩ := isP_ix hs hp
  have h1 := (H.2.2.1 _ e1).2
  rw [e2] at h1
  have h2 := and4095 hs
  simp (disch := omega) only [Jpl_numberOf, nI_and, h2, h1, bd_some, lt_of', sm_l, sm_r, lit, lN_n, hset_if, nI_ltP, nI_eqI, nI_add, nI_sub, nI_clamp, ib_nI, cond_true, if_pos, if_neg, and_self, and_true, true_and, false_and, and_false, ↓reduceIte, eq_self, nI_m1]
theorem holdsP_yes {h : Hp} (H : CP h) {k : Nat} (hk : k < 46) : Jpl_holds (nI k) h = some 1 := by
  have h1 := H.2.1
  simp (disch := omega) only [Jpl_holds, h1, bd_some, lt_of', sm_l, sm_r, lit, lN_n, hset_if, nI_ltP, nI_eqI, nI_add, nI_sub, nI_clamp, ib_nI, cond_true, if_pos, if_neg, and_self, and_true, true_and, false_and, and_false, ↓reduceIte, eq_self, nI_m1]
theorem holdsP_no {h : Hp} (H : CP h) {v : Int32} (hv : v < 0 ∨ nI 46 ≤ v) : Jpl_holds v h = some 0 := by
  have h1 := H.2.1
  unfold Jpl_holds
  rcases hv with hv | hv
  · rw [if_pos hv]
  · by_cases q : v < 0
    · rw [if_pos q]
    · rw [if_neg q, h1, if_neg (Int32.not_lt.mpr hv)]
theorem setOf_at {h : Hp} (H : CP h) {k : Nat} (hk : k < 46) : Jpl_setOf (nI k) h = some (nI (plN k)) := by
  have h1 := (H.2.2.1 k hk).1
  unfold Jpl_setOf
  refine (bd_of (holdsP_yes H hk)).trans ?_
  simp (disch := omega) only [h1, bd_some, lt_of', sm_l, sm_r, lit, lN_n, hset_if, nI_ltP, nI_eqI, nI_add, nI_sub, nI_clamp, ib_nI, cond_true, if_pos, if_neg, and_self, and_true, true_and, false_and, and_false, ↓reduceIte, eq_self, nI_m1]
theorem notm {a b n : Nat} (ha : a < 2 ^ n) (hn : n ≤ 32) : a &&& (b ^^^ 4294967295) = a &&& (b ^^^ (2 ^ n - 1)) := by
  apply Nat.eq_of_testBit_eq
  intro i
  simp only [Nat.testBit_and, Nat.testBit_xor]
  by_cases hi : i < n
  · rw [show (4294967295 : Nat) = 2 ^ 32 - 1 from rfl, Nat.testBit_two_pow_sub_one, Nat.testBit_two_pow_sub_one]
    simp [hi, show i < 32 by omega]
  · rw [Nat.testBit_lt_two_pow (Nat.lt_of_lt_of_le ha (pw_le (by omega)))]
    simp
theorem nI_not {a b n : Nat} (ha : a < 2 ^ n) (hn : n ≤ 32) : nI a &&& (nI b ^^^ (-nI 1)) = nI (a &&& (b ^^^ (2 ^ n - 1))) := by
  rw [show (-nI 1 : Int32) = nI 4294967295 from by decide, nI_xor, nI_and, notm ha hn]
theorem pcD_at {k l : Nat} (hk : k < 46) (hl : l < 46) : isP (shD (plN k ||| plN l)) = true ∧ clN (plN k ||| plN l) = shD (plN k ||| plN l) ∧ isP (plN k &&& plN l) = true ∧ (plN k &&& plN l) < 4096 ∧ shD (plN k ||| plN l) < 4096 ∧ (plN k ||| plN l) < 4096 ∧ (abN k l = true ↔ (plN k ≠ plN l ∧ plN k &&& (4095 ^^^ plN l) = 0)) ∧ (plN k = plN l ↔ k = l) := by
  have h := al (al pcD_ok hk) hl
  simp only [Bool.and_eq_true, beq_iff_eq] at h
  obtain ⟨⟨⟨⟨⟨⟨⟨a, b⟩, c⟩, d⟩, e⟩, f⟩, g⟩, k⟩ := h
  refine ⟨a, Nat.eq_of_beq_eq_true b, c, Nat.lt_succ_of_le (Nat.le_of_ble_eq_true d), Nat.lt_succ_of_le (Nat.le_of_ble_eq_true e), Nat.lt_succ_of_le (Nat.le_of_ble_eq_true f), ?_, ?_⟩
  · rw [g, Bool.and_eq_true, Bool.not_eq_true']
    constructor
    · intro ⟨x, y⟩
      refine ⟨fun q => ?_, Nat.eq_of_beq_eq_true y⟩
      rw [q, Nat.beq_refl] at x
      cases x
    · intro ⟨x, y⟩
      refine ⟨?_, by rw [y]; rfl⟩
      cases hb : Nat.beq (plN _) (plN _) with
      | true => exact absurd (Nat.eq_of_beq_eq_true hb) x
      | false => rfl
  · constructor
    · intro q; rw [q, Nat.beq_refl] at k; exact Nat.eq_of_beq_eq_true k.symm
    · intro q; rw [q]
theorem bi_01 (b : Bool) : (if b = true then nI 1 else nI 0) = nI (if b = true then 1 else 0) := by cases b <;> rfl
theorem isAboveC_at {h : Hp} (H : CP h) {k l : Nat} (hk : k < 46) (hl : l < 46) : Jpl_isAbove (nI k) (nI l) h = some (nI (if abN k l = true then 1 else 0)) := by
  have hD := pcD_at hk hl
  have k4 := (pcB_at hk).1
  have l4 := (pcB_at hl).1
  unfold Jpl_isAbove
  refine (bd_of (setOf_at H hk)).trans ?_
  refine (bd_of (setOf_at H hl)).trans ?_
  by_cases q : plN k = plN l
  · have : ¬ abN k l = true := fun z => (hD.2.2.2.2.2.2.1.mp z).1 q
    rw [if_pos (by rw [q]), if_neg this]
    rfl
  · rw [if_neg (fun z => q ((nI_eq (by omega) (by omega)).mp z))]
    refine (bd_of (setOf_at H hk)).trans ?_
    refine (bd_of (setOf_at H hl)).trans ?_
    rw [show (-1 : Int32) = -nI 1 from rfl, nI_not (n := 12) k4 (by decide), Nat.xor_comm]
    by_cases z : plN k &&& (4095 ^^^ plN l) = 0
    · rw [if_pos (by rw [show (2 ^ 12 - 1 : Nat) = 4095 from rfl, z]; rfl), if_pos (hD.2.2.2.2.2.2.1.mpr ⟨q, z⟩)]
      rfl
    · rw [if_neg, if_neg (fun w => z (hD.2.2.2.2.2.2.1.mp w).2)]
      · rfl
      · intro w
        have hlt : plN k &&& (4095 ^^^ plN l) < 4096 := and_lt4 k4
        exact z ((nI_eq (a := plN k &&& (4095 ^^^ plN l)) (b := 0) (by omega) (by omega)).mp w)
def jaT (k l n : Nat) : Bool := abN k l && (List.range n).all fun m => !(abN k m && abN m l)
theorem jaT_succ (k l n : Nat) : jaT k l (n + 1) = (jaT k l n && !(abN k n && abN n l)) := by
  simp only [jaT, List.range_succ, List.all_append, List.all_cons, List.all_nil, Bool.and_true, Bool.and_assoc]
theorem jaT_mono {k l n m : Nat} (h : n ≤ m) (hf : jaT k l n = false) : jaT k l m = false := by
  induction h with
  | refl => exact hf
  | step _ ih => rw [jaT_succ, ih]; rfl
theorem isJustC_at {h : Hp} (H : CP h) {k l : Nat} (hk : k < 46) (hl : l < 46) : Jpl_isJustAbove (nI k) (nI l) h = some (nI (if jaT k l 46 = true then 1 else 0)) := by
  unfold Jpl_isJustAbove
  refine (bd_of (isAboveC_at H hk hl)).trans ?_
  cases ha : abN k l with
  | false =>
    have hf : jaT k l 46 = false := jaT_mono (n := 0) (by omega) (by simp [jaT, ha])
    rw [hf]
    simp (disch := omega) only [bd_some, lt_of', sm_l, sm_r, lit, lN_n, hset_if, nI_ltP, nI_eqI, nI_add, nI_sub, nI_clamp, ib_nI, cond_true, if_pos, if_neg, and_self, and_true, true_and, false_and, and_false, ↓reduceIte, eq_self, nI_m1]
    rfl
  | true =>
    have h4 := H.2.1
    obtain ⟨r, e1, e2⟩ := loop_cnt (fun s => Jpl_isJustAbove_L13 (nI k) (nI l) h s) (fun i s => s = nI i ∧ jaT k l i = true) (fun r => sm r (fun _ => jaT k l 46 = true) (fun v => v = nI 0 ∧ jaT k l 46 = false)) 46 (fun i s hi hs => by
      obtain ⟨rfl, g⟩ := hs
      have a1 := isAboveC_at H hk hi
      have a2 := isAboveC_at H hi hl
      cases b1 : abN k i with
      | false =>
        rw [b1] at a1
        refine Or.inl ⟨nI (i + 1), ?_, rfl, by rw [jaT_succ, g, b1]; rfl⟩
        simp (disch := omega) only [Jpl_isJustAbove_L13, h4, a1, bd_some, lt_of', sm_l, sm_r, lit, lN_n, hset_if, nI_ltP, nI_eqI, nI_add, nI_sub, nI_clamp, ib_nI, cond_true, if_pos, if_neg, and_self, and_true, true_and, false_and, and_false, ↓reduceIte, eq_self, nI_m1]
        simp
      | true =>
        rw [b1] at a1
        cases b2 : abN i l with
        | false =>
          rw [b2] at a2
          refine Or.inl ⟨nI (i + 1), ?_, rfl, by rw [jaT_succ, g, b1, b2]; rfl⟩
          simp (disch := omega) only [Jpl_isJustAbove_L13, h4, a1, a2, bd_some, lt_of', sm_l, sm_r, lit, lN_n, hset_if, nI_ltP, nI_eqI, nI_add, nI_sub, nI_clamp, ib_nI, cond_true, if_pos, if_neg, and_self, and_true, true_and, false_and, and_false, ↓reduceIte, eq_self, nI_m1]
          simp
        | true =>
          rw [b2] at a2
          refine Or.inr ⟨.inr (nI 0), ?_, rfl, jaT_mono (n := i + 1) (by omega) (by rw [jaT_succ, b1, b2]; simp)⟩
          simp (disch := omega) only [Jpl_isJustAbove_L13, h4, a1, a2, bd_some, lt_of', sm_l, sm_r, lit, lN_n, hset_if, nI_ltP, nI_eqI, nI_add, nI_sub, nI_clamp, ib_nI, cond_true, if_pos, if_neg, and_self, and_true, true_and, false_and, and_false, ↓reduceIte, eq_self, nI_m1]) (fun s hs => by
      obtain ⟨rfl, g⟩ := hs
      exact ⟨.inl (nI 46), by simp (disch := omega) only [Jpl_isJustAbove_L13, h4, bd_some, lt_of', sm_l, sm_r, lit, lN_n, hset_if, nI_ltP, nI_eqI, nI_add, nI_sub, nI_clamp, ib_nI, cond_true, if_pos, if_neg, and_self, and_true, true_and, false_and, and_false, ↓reduceIte, eq_self, nI_m1], g⟩) (F := 1000000) (by omega) (a := 0) (by omega) (s := 0) ⟨rfl, by simp [jaT, ha]⟩
    rw [if_neg (by decide)]
    refine (bd_of e1).trans ?_
    cases r with
    | inl t =>
      rw [show jaT k l 46 = true from e2]
      rfl
    | inr v =>
      obtain ⟨rfl, e3⟩ := e2
      rw [e3]
      rfl
