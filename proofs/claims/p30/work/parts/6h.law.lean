/-! The start: both sides are made, and hold the empty state. -/
theorem hnew_at {h : Hp} {i k : Nat} : hnew h i i k = 0 := by
  show (if i = i then fun _ => (0 : Int32) else h i) k = 0
  rw [if_pos rfl]
theorem pl_init (h : Hp) : ∃ h', Jpl_init h = some h' ∧ CP h' ∧ ∀ p, p ∉ SJpl_init → h' p = h p := by
  obtain ⟨h0, e0⟩ : ∃ y, y = hset (hnew (hnew (hnew (hnew h 5) 6) 7) 8) 4 4 0 := ⟨_, rfl⟩
  obtain ⟨r, a1, a2, a3⟩ := init47 (h := h0)
  obtain ⟨h1, b1, b2, b3⟩ := findSets_at a2
  have z : h1 4 4 = 0 := by rw [b3 4 (by decide) (by decide), a3 4 (by decide), e0, hset_at]
  obtain ⟨h2, c1, c2, c3, c4⟩ := numberSets_at b2 z
  have run : Jpl_init h = some h2 := by
    unfold Jpl_init
    rw [lt_of', lt_of', lt_of', lt_of', lt_of', ← e0, a1, bd_some, b1, bd_some, c1, bd_some]
  refine ⟨h2, run, ⟨fun c hc => ?_, c2, c3, fun s hs => ?_⟩, FJpl_init _ _ run⟩
  · rw [c4 5 (by decide) (by decide) (by decide), b3 5 (by decide) (by decide)]; exact a2 c hc
  · rw [c4 8 (by decide) (by decide) (by decide)]; exact b2 s hs
theorem yn_init (h : Hp) : ∃ h', Jyn_init h = some h' ∧ CP h' ∧ h' 10 8 = -1 ∧ h' 1 2 = 0 ∧ h' 29 1 = 0 ∧ h' 29 2 = 0 ∧ h' 26 2 = 0 ∧ h' 31 3 = 0 ∧ h' 31 4 = 0 ∧ (∀ i, h' 36 i = 0) ∧ h' 0 8 = 0 ∧ h' 0 9 = -1 := by
  obtain ⟨h2, e2, a2⟩ : ∃ x, Jfm_init (hnew h 1) = some x ∧ x 1 2 = 0 := ⟨_, rfl, rfl⟩
  obtain ⟨h4, e4, cp, f4⟩ := pl_init (hnew h2 4)
  obtain ⟨h6, e6, a6⟩ : ∃ x, Jwy_init (hnew h4 9) = some x ∧ x 10 8 = -1 := ⟨_, rfl, rfl⟩
  obtain ⟨h8, e8, a8⟩ : ∃ x, Jbk_init (hnew h6 26) = some x ∧ x 26 2 = 0 := ⟨_, rfl, rfl⟩
  obtain ⟨h10, e10, a10, a10'⟩ : ∃ x, Jsh_init (hnew h8 29) = some x ∧ x 29 1 = 0 ∧ x 29 2 = 0 := ⟨_, rfl, rfl, rfl⟩
  obtain ⟨h12, e12, a12, a12'⟩ : ∃ x, Jpa_init (hnew h10 31) = some x ∧ x 31 3 = 0 ∧ x 31 4 = 0 := ⟨_, rfl, rfl, rfl⟩
  have f6 := FJwy_init _ _ e6
  have f8 := FJbk_init _ _ e8
  have f10 := FJsh_init _ _ e10
  have f12 := FJpa_init _ _ e12
  obtain ⟨h13, e13⟩ : ∃ y, y = hnew (hnew h12 35) 36 := ⟨_, rfl⟩
  obtain ⟨h15, e15⟩ : ∃ y, y = hset (hset h13 0 8 0) 0 9 (-1) := ⟨_, rfl⟩
  have g : ∀ p, p ≠ 0 → p ≠ 35 → p ≠ 36 → h15 p = h12 p := fun p x y z => by rw [e15, hset_ne x, hset_ne x, e13, hnew_ne z, hnew_ne y]
  have g12 : ∀ p, p ≠ 31 → p ∉ SJpa_init → h12 p = h10 p := fun p x y => by rw [f12 p y, hnew_ne x]
  have g10 : ∀ p, p ≠ 29 → p ∉ SJsh_init → h10 p = h8 p := fun p x y => by rw [f10 p y, hnew_ne x]
  have g8 : ∀ p, p ≠ 26 → p ∉ SJbk_init → h8 p = h6 p := fun p x y => by rw [f8 p y, hnew_ne x]
  have g6 : ∀ p, p ≠ 9 → p ∉ SJwy_init → h6 p = h4 p := fun p x y => by rw [f6 p y, hnew_ne x]
  have low : ∀ p, p ≠ 0 → p ≠ 35 → p ≠ 36 → p ≠ 31 → p ∉ SJpa_init → p ≠ 29 → p ∉ SJsh_init → p ≠ 26 → p ∉ SJbk_init → p ≠ 9 → p ∉ SJwy_init → h15 p = h4 p := fun p x1 x2 x3 x4 x5 x6 x7 x8 x9 x10 x11 => by rw [g p x1 x2 x3, g12 p x4 x5, g10 p x6 x7, g8 p x8 x9, g6 p x10 x11]
  refine ⟨h15, ?_, CP_fr (low 4 (by decide) (by decide) (by decide) (by decide) (by decide) (by decide) (by decide) (by decide) (by decide) (by decide) (by decide)) (low 5 (by decide) (by decide) (by decide) (by decide) (by decide) (by decide) (by decide) (by decide) (by decide) (by decide) (by decide)) (low 6 (by decide) (by decide) (by decide) (by decide) (by decide) (by decide) (by decide) (by decide) (by decide) (by decide) (by decide)) (low 7 (by decide) (by decide) (by decide) (by decide) (by decide) (by decide) (by decide) (by decide) (by decide) (by decide) (by decide)) (low 8 (by decide) (by decide) (by decide) (by decide) (by decide) (by decide) (by decide) (by decide) (by decide) (by decide) (by decide)) cp, ?_, ?_, ?_, ?_, ?_, ?_, ?_, fun i => ?_, ?_, ?_⟩
  · unfold Jyn_init
    rw [lt_of', e2, bd_some, lt_of', e4, bd_some, lt_of', e6, bd_some, lt_of', e8, bd_some, lt_of', e10, bd_some, lt_of', e12, bd_some, lt_of', lt_of', ← e13, lt_of', lt_of', ← e15]
  · rw [g 10 (by decide) (by decide) (by decide), g12 10 (by decide) (by decide), g10 10 (by decide) (by decide), g8 10 (by decide) (by decide)]; exact a6
  · rw [low 1 (by decide) (by decide) (by decide) (by decide) (by decide) (by decide) (by decide) (by decide) (by decide) (by decide) (by decide), f4 1 (by decide), hnew_ne (by decide)]; exact a2
  · rw [g 29 (by decide) (by decide) (by decide), g12 29 (by decide) (by decide)]; exact a10
  · rw [g 29 (by decide) (by decide) (by decide), g12 29 (by decide) (by decide)]; exact a10'
  · rw [g 26 (by decide) (by decide) (by decide), g12 26 (by decide) (by decide), g10 26 (by decide) (by decide)]; exact a8
  · rw [g 31 (by decide) (by decide) (by decide)]; exact a12
  · rw [g 31 (by decide) (by decide) (by decide)]; exact a12'
  · rw [e15, hset_ne (by decide), hset_ne (by decide), e13, hnew_at]
  · rw [e15, hset_ne2 (by decide), hset_at]
  · rw [e15, hset_at]
theorem m_init (h : Hp) : ∃ h', Jm_init (hnew h 37) = some h' ∧ h' 38 0 = 0 ∧ h' 38 7 = 0 ∧ h' 37 1 = 0 ∧ h' 37 2 = 0 ∧ h' 37 3 = 0 ∧ h' 37 6 = 0 ∧ h' 37 7 = -1 ∧ h' 37 10 = 0 ∧ h' 37 12 = 0 ∧ (∀ c, h' 43 c = 0) ∧ h' 37 14 = 0 ∧ h' 37 16 = 0 ∧ h' 37 23 = 0 ∧ ∀ p, p < 37 → h' p = h p := by
  obtain ⟨h1, e1, a1, a2, a3, a4, a5, a6, a7, a8, a9, a10, a11, a12, a13⟩ : ∃ x, Jm_init (hnew h 37) = some x ∧ x 38 0 = 0 ∧ x 38 7 = 0 ∧ x 37 1 = 0 ∧ x 37 2 = 0 ∧ x 37 3 = 0 ∧ x 37 6 = 0 ∧ x 37 7 = -1 ∧ x 37 10 = 0 ∧ x 37 12 = 0 ∧ (∀ c, x 43 c = 0) ∧ x 37 14 = 0 ∧ x 37 16 = 0 ∧ x 37 23 = 0 := ⟨_, rfl, rfl, rfl, rfl, rfl, rfl, rfl, rfl, rfl, rfl, fun c => rfl, rfl, rfl, rfl⟩
  refine ⟨h1, e1, a1, a2, a3, a4, a5, a6, a7, a8, a9, a10, a11, a12, a13, fun p hp => ?_⟩
  rw [FJm_init _ _ e1 p (fun z => by
    rw [show SJm_init = [37, 38, 39, 40, 41, 42, 43, 44, 45, 46, 47, 48, 49, 50, 51, 52] from rfl] at z
    simp only [List.mem_cons, List.not_mem_nil, or_false] at z
    omega), hnew_ne (by omega)]
theorem inv_start (h : Hp) : ∃ h2 h4, Jyn_init h = some h2 ∧ Jm_init (hnew h2 37) = some h4 ∧ Inv h4 := by
  obtain ⟨h2, e2, cp, a1, a2, a3, a4, a5, a6, a7, a8, a9, a10⟩ := yn_init h
  obtain ⟨h4, e4, b1, b2, b3, b4, b5, b6, b7, b8, b9, b10, b11, b12, b13, fr⟩ := m_init h2
  have c : clI h2 ((0, fun _ => 0, 0), (0, fun _ => 0), -1, (0, fun _ => 0, fun _ => 0), 0, (0, fun _ => (0, fun _ => 0, 0)), (fun _ => false, fun _ => (0, fun _ => 0, 0), fun _ => 0)) :=
    ⟨⟨a3, a4, fun i hi => absurd hi (Nat.not_lt_zero i)⟩, ⟨a2, fun i hi => absurd hi (Nat.not_lt_zero i)⟩, a10, ⟨a5, fun i hi => absurd hi (Nat.not_lt_zero i)⟩, a9, ⟨a6, by decide, 0, by decide, a7, fun j hj => absurd hj (Nat.not_lt_zero j)⟩, fun i _ => ⟨a8 i, fun q => by cases q⟩, cp, Or.inl a1⟩
  have d : mdI h4 ((0, fun _ => 0, 0), (0, fun _ => 0), -1, (0, fun _ => 0, fun _ => 0), 0, (0, fun _ => (0, fun _ => 0, 0)), (fun _ => false, fun _ => (0, fun _ => 0, 0), fun _ => 0)) :=
    ⟨⟨⟨b1, b2, fun i hi => absurd hi (Nat.not_lt_zero i)⟩, Or.inl b13⟩, ⟨b6, fun i hi => absurd hi (Nat.not_lt_zero i)⟩, b7, ⟨b8, fun i hi => absurd hi (Nat.not_lt_zero i)⟩, b5, ⟨b3, by decide, fun j hj => absurd hj (Nat.not_lt_zero j)⟩, ⟨b4, fun i _ q => by cases q⟩, ⟨Or.inl ⟨b9, fun c _ => b10 c⟩, Or.inl b11, Or.inl b12⟩⟩
  exact ⟨h2, h4, e2, e4, _, ⟨⟨by decide, fun i hi => absurd hi (Nat.not_lt_zero i), by decide⟩, ⟨by decide, fun i hi => absurd hi (Nat.not_lt_zero i)⟩, ⟨by decide, fun i hi => absurd hi (Nat.not_lt_zero i)⟩, by decide, fun j hj => absurd hj (Nat.not_lt_zero j), fun i _ q => by cases q⟩, clI_M fr c, d⟩
