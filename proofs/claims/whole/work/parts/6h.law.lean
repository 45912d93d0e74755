/-! The start: both sides are made, and hold the empty state. -/
theorem hnew_at {h : Hp} {i k : Nat} : hnew h i i k = 0 := by
  show (if i = i then fun _ => (0 : Int32) else h i) k = 0
  rw [if_pos rfl]
theorem pl_init (h : Hp) : ∃ h', Jpl_init h = some h' ∧ CP h' ∧ ∀ p, p ∉ SJpl_init → h' p = h p := by
  obtain ⟨h0, e0⟩ : ∃ y, y = hset (hnew (hnew (hnew (hnew h 5) 6) 7) 8) 4 4 0 := ⟨_, rfl⟩
  obtain ⟨r, a1, a2, a3⟩ := init47 (h := h0)
  obtain ⟨h1, b1, b2, b3⟩ := findSets_at a2
  have z : h1 4 4 = 0 := by rw [b3 4 (by decide) (by decide), a3 4 (by decide), e0, hset_at]
  obtain ⟨h2, c1, c2, c3, c4⟩ := numberSets_at b2 z
  have run : Jpl_init h = some h2 := by
    unfold Jpl_init
    rw [lt_of', lt_of', lt_of', lt_of', lt_of', ← e0, a1, bd_some, b1, bd_some, c1, bd_some]
  refine ⟨h2, run, ⟨fun c hc => ?_, c2, c3, fun s hs => ?_⟩, FJpl_init _ _ run⟩
  · rw [c4 5 (by decide) (by decide) (by decide), b3 5 (by decide) (by decide)]; exact a2 c hc
  · rw [c4 8 (by decide) (by decide) (by decide)]; exact b2 s hs
theorem yn_init (h : Hp) : ∃ h', Jyn_init h = some h' ∧ CP h' ∧ h' 10 8 = -1 ∧ h' 1 2 = 0 ∧ h' 29 1 = 0 ∧ h' 29 2 = 0 ∧ h' 26 2 = 0 ∧ h' 31 3 = 0 ∧ h' 31 4 = 0 ∧ (∀ i, h' 36 i = 0) ∧ h' 0 8 = 0 ∧ h' 0 9 = -1 := by
  obtain ⟨h2, e2, a2⟩ : ∃ x, Jfm_init (hnew h 1) = some x ∧ x 1 2 = 0 := ⟨_, rfl, rfl⟩
  obtain ⟨h4, e4, cp, f4⟩ := pl_init (hnew h2 4)
  obtain ⟨h6, e6, a6⟩ : ∃ x, Jwy_init (hnew h4 9) = some x ∧ x 10 8 = -1 := ⟨_, rfl, rfl⟩
  obtain ⟨h8, e8, a8⟩ : ∃ x, Jbk_init (hnew h6 26) = some x ∧ x 26 2 = 0 := ⟨_, rfl, rfl⟩
  obtain ⟨h10, e10, a10, a10'⟩ : ∃ x, Jsh_init (hnew h8 29) = some x ∧ x 29 1 = 0 ∧ x 29 2 = 0 := ⟨_, rfl, rfl, rfl⟩
  obtain ⟨h12, e12, a12, a12'⟩ : ∃ x, Jpa_init (hnew h10 31) = some x ∧ x 31 3 = 0 ∧ x 31 4 = 0 := ⟨_, rfl, rfl, rfl⟩
  have f6 := FJwy_init _ _ e6
  have f8 := FJbk_init _ _ e8
  have f10 := FJsh_init _ _ e10
  have f12 := FJpa_init _ _ e12
  obtain ⟨h13, e13⟩ : ∃ y, y = hnew (hnew h12 35) 36 := ⟨_, rfl⟩
  obtain ⟨h15, e15⟩ : ∃ y, y = hset (hset h13 0 8 0) 0 9 (-1) := ⟨_, rfl⟩
  have g : ∀ p, p ≠ 0 → p ≠ 35 → p ≠ 36 → h15 p = h12 p := fun p x y z => by rw [e15, hset_ne x, hset_ne x, e13, hnew_ne z, hnew_ne y]
  have g12 : ∀ p, p ≠ 31 → p ∉ SJpa_init → h12 p = h10 p := fun p x y => by rw [f12 p y, hnew_ne x]
  have g10 : ∀ p, p ≠ 29 → p ∉ SJsh_init → h10 p = h8 p := fun p x y => by rw [f10 p y, hnew_ne x]
  have g8 : ∀ p, p ≠ 26 → p ∉ SJbk_init → h8 p = h6 p := fun p x y => by rw [f8 p y, hnew_ne x]
  have g6 : ∀ p, p ≠ 9 → p ∉ SJwy_init → h6 p = h4 p := fun p x y => by rw [f6 p y, hnew_ne x]
  have low : ∀ p, p ≠ 0 → p ≠ 35 → p ≠ 36 → p ≠ 31 → p ∉ SJpa_init → p ≠ 29 → p ∉ SJsh_init → p ≠ 26 → p ∉ SJbk_init → p ≠ 9 → p ∉ SJwy_init → h15 p = h4 p := fun p x1 x2 x3 x4 x5 x6 x7 x8 x9 x10 x11 => by rw [g p x1 x2 x3, g12 p x4 x5, g10 p x6 x7, g8 p x8 x9, g6 p x10 x11]
  refine ⟨h15, ?_, CP_fr (low 4 (by decide) (by decide) (by decide) (by decide) (by decide) (by decide) (by decide) (by decide) (by decide) (by decide) (by decide)) (low 5 (by decide) (by decide) (by decide) (by decide) (by decide) (by decide) (by decide) (by decide) (by decide) (by decide) (by decide)) (low 6 (by decide) (by decide) (by decide) (by decide) (by decide) (by decide) (by decide) (by decide) (by decide) (by decide) (by decide)) (low 7 (by decide) (by decide) (by decide) (by decide) (by decide) (by decide) (by decide) (by decide) (by decide) (by decide) (by decide)) (low 8 (by decide) (by decide) (by decide) (by decide) (by decide) (by decide) (by decide) (by decide) (by decide) (by decide) (by decide)) cp, ?_, ?_, ?_, ?_, ?_, ?_, ?_, fun i => ?_, ?_, ?_⟩
  · unfold Jyn_init
    rw [lt_of', e2, bd_some, lt_of', e4, bd_some, lt_of', e6, bd_some, lt_of', e8, bd_some, lt_of', e10, bd_some, lt_of', e12, bd_some, lt_of', lt_of', ← e13, lt_of', lt_of', ← e15]
  · rw [g 10 (by decide) (by decide) (by decide), g12 10 (by decide) (by decide), g10 10 (by decide) (by decide), g8 10 (by decide) (by decide)]; exact a6
  · rw [low 1 (by decide) (by decide) (by decide) (by decide) (by decide) (by decide) (by decide) (by decide) (by decide) (by decide) (by decide), f4 1 (by decide), hnew_ne (by decide)]; exact a2
  · rw [g 29 (by decide) (by decide) (by decide), g12 29 (by decide) (by decide)]; exact a10
  · rw [g 29 (by decide) (by decide) (by decide), g12 29 (by decide) (by decide)]; exact a10'
  · rw [g 26 (by decide) (by decide) (by decide), g12 26 (by decide) (by decide), g10 26 (by decide) (by decide)]; exact a8
  · rw [g 31 (by decide) (by decide) (by decide)]; exact a12
  · rw [g 31 (by decide) (by decide) (by decide)]; exact a12'
  · rw [e15, hset_ne (by decide), hset_ne (by decide), e13, hnew_at]
  · rw [e15, hset_ne2 (by decide), hset_at]
  · rw [e15, hset_at]
theorem m_init (h : Hp) : ∃ h', Jm_init (hnew h 37) = some h' ∧ h' 38 0 = 0 ∧ h' 38 7 = 0 ∧ h' 37 1 = 0 ∧ h' 37 2 = 0 ∧ h' 37 3 = 0 ∧ h' 37 6 = 0 ∧ h' 37 7 = -1 ∧ h' 37 10 = 0 ∧ h' 37 12 = 0 ∧ (∀ c, h' 43 c = 0) ∧ h' 37 14 = 0 ∧ h' 37 16 = 0 ∧ h' 37 23 = 0 ∧ ∀ p, p < 37 → h' p = h p := by
  obtain ⟨h1, e1, a1, a2, a3, a4, a5, a6, a7, a8, a9, a10, a11, a12, a13⟩ : ∃ x, Jm_init (hnew h 37) = some x ∧ x 38 0 = 0 ∧ x 38 7 = 0 ∧ x 37 1 = 0 ∧ x 37 2 = 0 ∧ x 37 3 = 0 ∧ x 37 6 = 0 ∧ x 37 7 = -1 ∧ x 37 10 = 0 ∧ x 37 12 = 0 ∧ (∀ c, x 43 c = 0) ∧ x 37 14 = 0 ∧ x 37 16 = 0 ∧ x 37 23 = 0 := ⟨_, rfl, rfl, rfl, rfl, rfl, rfl, rfl, rfl, rfl, rfl, fun c => rfl, rfl, rfl, rfl⟩
  refine ⟨h1, e1, a1, a2, a3, a4, a5, a6, a7, a8, a9, a10, a11, a12, a13, fun p hp => ?_⟩
  rw [FJm_init _ _ e1 p (fun z => by
    rw [show SJm_init = [37, 38, 39, 40, 41, 42, 43, 44, 45, 46, 47, 48, 49, 50, 51, 52] from rfl] at z
    simp only [List.mem_cons, List.not_mem_nil, or_false] at z
    omega), hnew_ne (by omega)]
theorem inv_start (h : Hp) : ∃ h2 h4, Jyn_init h = some h2 ∧ Jm_init (hnew h2 37) = some h4 ∧ Inv h4 := by
  obtain ⟨h2, e2, cp, a1, a2, a3, a4, a5, a6, a7, a8, a9, a10⟩ := yn_init h
  obtain ⟨h4, e4, b1, b2, b3, b4, b5, b6, b7, b8, b9, b10, b11, b12, b13, fr⟩ := m_init h2
  have c : clI h2 ((0, fun _ => 0, 0), (0, fun _ => 0), -1, (0, fun _ => 0, fun _ => 0), 0, (0, fun _ => (0, fun _ => 0, 0)), (fun _ => false, fun _ => (0, fun _ => 0, 0), fun _ => 0)) :=
    ⟨⟨a3, a4, fun i hi => absurd hi (Nat.not_lt_zero i)⟩, ⟨a2, fun i hi => absurd hi (Nat.not_lt_zero i)⟩, a10, ⟨a5, fun i hi => absurd hi (Nat.not_lt_zero i)⟩, a9, ⟨a6, by decide, 0, by decide, a7, fun j hj => absurd hj (Nat.not_lt_zero j)⟩, fun i _ => ⟨a8 i, fun q => by cases q⟩, cp, Or.inl a1⟩
  have d : mdI h4 ((0, fun _ => 0, 0), (0, fun _ => 0), -1, (0, fun _ => 0, fun _ => 0), 0, (0, fun _ => (0, fun _ => 0, 0)), (fun _ => false, fun _ => (0, fun _ => 0, 0), fun _ => 0)) :=
    ⟨⟨⟨b1, b2, fun i hi => absurd hi (Nat.not_lt_zero i)⟩, Or.inl b13⟩, ⟨b6, fun i hi => absurd hi (Nat.not_lt_zero i)⟩, b7, ⟨b8, fun i hi => absurd hi (Nat.not_lt_zero i)⟩, b5, ⟨b3, by decide, fun j hj => absurd hj (Nat.not_lt_zero j)⟩, ⟨b4, fun i _ q => by cases q⟩, ⟨Or.inl ⟨b9, fun c _ => b10 c⟩, Or.inl b11, Or.inl b12⟩⟩
  exact ⟨h2, h4, e2, e4, _, ⟨⟨by decide, fun i hi => absurd hi (Nat.not_lt_zero i), by decide⟩, ⟨by decide, fun i hi => absurd hi (Nat.not_lt_zero i)⟩, ⟨by decide, fun i hi => absurd hi (Nat.not_lt_zero i)⟩, by decide, fun j hj => absurd hj (Nat.not_lt_zero j), fun i _ q => by cases q⟩, clI_M fr c, d⟩
/-! The law's loop: every call's answers are alike. -/
theorem lawA {X : Option (Int32 × Hp)} {Y : Hp → Option (Int32 × Hp)} {v : Int32} (H : ∃ r h1 h2, X = some (r, h1) ∧ Y h1 = some (r, h2) ∧ Inv h2) : ∃ s' : Int32 × Hp, (bd X fun c => bd (Y c.2) fun d => if c.1 = d.1 then (some (.inl (v, d.2)) : Option ((Int32 × Hp) ⊕ ((Int32 × Hp) ⊕ (Int32 × Hp)))) else some (.inr (.inr (0, d.2)))) = some (.inl s') ∧ s'.1 = v ∧ Inv s'.2 := by
  obtain ⟨r, h1, h2, a, b, c⟩ := H
  refine ⟨(v, h2), ?_, rfl, c⟩
  rw [a, bd_some]
  dsimp only
  rw [b, bd_some]
  dsimp only
  rw [if_pos rfl]
theorem lawN {X Y : Option Int32} {v : Int32} {h : Hp} (h0 : Inv h) (H : ∃ r, X = some r ∧ Y = some r) : ∃ s' : Int32 × Hp, (bd X fun c => bd Y fun d => if c = d then (some (.inl (v, h)) : Option ((Int32 × Hp) ⊕ ((Int32 × Hp) ⊕ (Int32 × Hp)))) else some (.inr (.inr (0, h)))) = some (.inl s') ∧ s'.1 = v ∧ Inv s'.2 := by
  obtain ⟨r, a, b⟩ := H
  refine ⟨(v, h), ?_, rfl, h0⟩
  rw [a, bd_some, b, bd_some, if_pos rfl]
theorem lawP {X : Option Int32} {Y : Option (Int32 × Hp)} {v : Int32} (H : ∃ r h2, X = some r ∧ Y = some (r, h2) ∧ Inv h2) : ∃ s' : Int32 × Hp, (bd X fun c => bd Y fun d => if c = d.1 then (some (.inl (v, d.2)) : Option ((Int32 × Hp) ⊕ ((Int32 × Hp) ⊕ (Int32 × Hp)))) else some (.inr (.inr (0, d.2)))) = some (.inl s') ∧ s'.1 = v ∧ Inv s'.2 := by
  obtain ⟨r, h2, a, b, c⟩ := H
  refine ⟨(v, h2), ?_, rfl, c⟩
  rw [a, bd_some, b, bd_some]
  dsimp only
  rw [if_pos rfl]
set_option maxHeartbeats 4000000 in
theorem law_step {L : Nat} {xs : Nat → Int32} {i : Nat} {h : Hp} (hL : L ≤ 2560) (hi : i + 5 ≤ L) (H : Inv h) : ∃ s', Jlaw_law_L18 L xs (nI i) h = some (.inl s') ∧ s'.1 = nI i + 5 ∧ Inv s'.2 := by
  have c0 : ¬ (Int32.ofNat L) - (5 : Int32) < nI i := by
    rw [show (Int32.ofNat L) - (5 : Int32) = nI (L - 5) from nI_sub (b := 5) (by omega)]
    exact nI_nlt (by omega) (by omega)
  have b0 : (ibB (nI i) L && true) = true := by rw [ib_nI (by omega) (by omega)]; rfl
  have b1 : (ibB (nI i + (1 : Int32)) L && true) = true := by rw [show nI i + (1 : Int32) = nI (i + 1) from nI_add i 1, ib_nI (by omega) (by omega)]; rfl
  have b2 : (ibB (nI i + (2 : Int32)) L && true) = true := by rw [show nI i + (2 : Int32) = nI (i + 2) from nI_add i 2, ib_nI (by omega) (by omega)]; rfl
  have b3 : (ibB (nI i + (3 : Int32)) L && true) = true := by rw [show nI i + (3 : Int32) = nI (i + 3) from nI_add i 3, ib_nI (by omega) (by omega)]; rfl
  have b4 : (ibB (nI i + (4 : Int32)) L && true) = true := by rw [show nI i + (4 : Int32) = nI (i + 4) from nI_add i 4, ib_nI (by omega) (by omega)]; rfl
  unfold Jlaw_law_L18
  rw [if_neg c0, b0, cond_true]
  simp only [b1, b2, b3, b4, cond_true]
  generalize xs (Int32.toNatClampNeg (nI i)) &&& (31 : Int32) = w
  generalize xs (Int32.toNatClampNeg (nI i + (1 : Int32))) = a1
  generalize xs (Int32.toNatClampNeg (nI i + (2 : Int32))) = a2
  generalize xs (Int32.toNatClampNeg (nI i + (3 : Int32))) = a3
  generalize xs (Int32.toNatClampNeg (nI i + (4 : Int32))) = a4
  by_cases q0 : w = 0
  · rw [if_pos q0]
    exact lawA (Y := fun g => Jm_feed a1 g) (feed_inv a1 H)
  rw [if_neg q0]
  by_cases q1 : w = 1
  · rw [if_pos q1]
    exact lawA (Y := fun g => Jm_tell g) (tell_inv H)
  rw [if_neg q1]
  by_cases q2 : w = 2
  · rw [if_pos q2]
    exact lawN H (fault_both H)
  rw [if_neg q2]
  by_cases q3 : w = 3
  · rw [if_pos q3]
    exact lawA (Y := fun g => Jm_told a1 g) (told_inv a1 H)
  rw [if_neg q3]
  by_cases q4 : w = 4
  · rw [if_pos q4]
    exact lawA (Y := fun g => Jm_function a1 a2 g) (function_inv a1 a2 H)
  rw [if_neg q4]
  by_cases q5 : w = 5
  · rw [if_pos q5]
    exact lawN H (fails_inv a1 a2 H)
  rw [if_neg q5]
  by_cases q6 : w = 6
  · rw [if_pos q6]
    exact lawA (Y := fun g => Jm_cost a1 a2 g) (cost_inv a1 a2 H)
  rw [if_neg q6]
  by_cases q7 : w = 7
  · rw [if_pos q7]
    exact lawA (Y := fun g => Jm_spell a1 a2 g) (spell_inv a1 a2 H)
  rw [if_neg q7]
  by_cases q8 : w = 8
  · rw [if_pos q8]
    exact lawA (Y := fun g => Jm_costing a1 g) (costing_inv a1 H)
  rw [if_neg q8]
  by_cases q9 : w = 9
  · rw [if_pos q9]
    exact lawP (place_inv a1 a2 H)
  rw [if_neg q9]
  by_cases q10 : w = 10
  · rw [if_pos q10]
    exact lawP (above_inv a1 a2 H)
  rw [if_neg q10]
  by_cases q11 : w = 11
  · rw [if_pos q11]
    exact lawP (below_inv a1 a2 H)
  rw [if_neg q11]
  by_cases q12 : w = 12
  · rw [if_pos q12]
    exact lawP (meet_inv a1 a2 H)
  rw [if_neg q12]
  by_cases q13 : w = 13
  · rw [if_pos q13]
    exact lawP (join_inv a1 a2 H)
  rw [if_neg q13]
  by_cases q14 : w = 14
  · rw [if_pos q14]
    exact lawP (relation_inv a1 a2 a3 H)
  rw [if_neg q14]
  by_cases q15 : w = 15
  · rw [if_pos q15]
    exact lawN H (keeps_inv a1 a2 a3 H)
  rw [if_neg q15]
  by_cases q16 : w = 16
  · rw [if_pos q16]
    exact lawA (Y := fun g => Jm_put a1 a2 a3 a4 g) (put_inv a1 a2 a3 a4 H)
  rw [if_neg q16]
  by_cases q17 : w = 17
  · rw [if_pos q17]
    exact lawA (Y := fun g => Jm_turn a1 g) (turn_inv a1 H)
  rw [if_neg q17]
  by_cases q18 : w = 18
  · rw [if_pos q18]
    exact lawA (Y := fun g => Jm_take a1 g) (take_inv a1 H)
  rw [if_neg q18]
  by_cases q19 : w = 19
  · rw [if_pos q19]
    exact lawA (Y := fun g => Jm_base a1 g) (base_inv a1 H)
  rw [if_neg q19]
  by_cases q20 : w = 20
  · rw [if_pos q20]
    exact lawA (Y := fun g => Jm_drift a1 g) (drift_inv a1 H)
  rw [if_neg q20]
  by_cases q21 : w = 21
  · rw [if_pos q21]
    exact lawA (Y := fun g => Jm_undo a1 g) (undo_inv a1 H)
  rw [if_neg q21]
  by_cases q22 : w = 22
  · rw [if_pos q22]
    exact lawA (Y := fun g => Jm_write a1 a2 g) (write_inv a1 a2 H)
  rw [if_neg q22]
  by_cases q23 : w = 23
  · rw [if_pos q23]
    exact lawA (Y := fun g => Jm_tear g) (tear_inv H)
  rw [if_neg q23]
  by_cases q24 : w = 24
  · rw [if_pos q24]
    exact lawA (Y := fun g => Jm_seed a1 g) (seed_inv a1 H)
  rw [if_neg q24]
  by_cases q25 : w = 25
  · rw [if_pos q25]
    exact lawA (Y := fun g => Jm_keep a1 g) (keep_inv a1 H)
  rw [if_neg q25]
  by_cases q26 : w = 26
  · rw [if_pos q26]
    exact lawA (Y := fun g => Jm_goBack a1 g) (goBack_inv a1 H)
  rw [if_neg q26]
  exact ⟨(nI i + 5, h), rfl, rfl, H⟩
theorem law_low : ∀ L, L < 5 → (Int32.ofNat L) - (5 : Int32) < nI 0 := by decide +kernel
theorem law_ok {L : Nat} (xs : Nat → Int32) (hL : L ≤ 2560) : ∃ h', Jlaw_law L xs (fun _ _ => 0) = some (1, h') := by
  obtain ⟨h2, h4, e2, e4, iv⟩ := inv_start (hnew (fun _ _ => 0) 0)
  obtain ⟨r, l1, x, rfl⟩ := loop_cnt (fun s => Jlaw_law_L18 L xs s.1 s.2) (fun t x => x.1 = nI (5 * t) ∧ Inv x.2) (fun r => ∃ x : Int32 × Hp, r = Sum.inl x) (L / 5) (fun t x ht hx => by
    obtain ⟨a, x⟩ := x
    obtain ⟨e, hI⟩ := hx
    replace e : a = nI (5 * t) := e
    subst e
    obtain ⟨s', a1, a2, a3⟩ := law_step (xs := xs) hL (show 5 * t + 5 ≤ L by omega) hI
    refine Or.inl ⟨s', a1, ?_, a3⟩
    rw [a2, show nI (5 * t) + (5 : Int32) = nI (5 * t + 5) from nI_add _ 5, Nat.mul_succ]) (fun x hx => by
    obtain ⟨a, x⟩ := x
    obtain ⟨e, hI⟩ := hx
    replace e : a = nI (5 * (L / 5)) := e
    subst e
    refine ⟨.inl (nI (5 * (L / 5)), x), ?_, _, rfl⟩
    show Jlaw_law_L18 L xs (nI (5 * (L / 5))) x = _
    have c0 : (Int32.ofNat L) - (5 : Int32) < nI (5 * (L / 5)) := by
      by_cases q : L < 5
      · have z : L / 5 = 0 := by omega
        rw [z]
        exact law_low L q
      · rw [show (Int32.ofNat L) - (5 : Int32) = nI (L - 5) from nI_sub (b := 5) (by omega)]
        exact nI_lt (by omega) (by omega)
    unfold Jlaw_law_L18
    rw [if_pos c0]) (F := 1000000) (by omega) (a := 0) (Nat.zero_le _) (s := (0, h4)) ⟨rfl, iv⟩
  refine ⟨x.2, ?_⟩
  unfold Jlaw_law
  rw [lt_of', e2, bd_some, lt_of', e4, bd_some, l1, bd_some, sm_l]
