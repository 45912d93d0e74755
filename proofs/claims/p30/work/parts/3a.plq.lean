/-! Places: the model's questions. -/
theorem placeOf_at {h : Hp} (H : tRaw h ∨ tLaid h) (H2 : h 37 14 = nI 0 ∨ pLaid h) {s : Nat} (hs : s < 4096) (hp : isP s = true) : ∃ h', Jm_placeOf (nI s) h = some (nI (ixN s), h') ∧ pLaid h' ∧ (∀ j, j ≠ 12 → j ≠ 14 → h' 37 j = h 37 j) ∧ ∀ p, p ≠ 37 → p ≠ 43 → p ≠ 44 → h' p = h p := by
  obtain ⟨h1, e1, t1, t2, t3⟩ := layPlaces_at H H2
  obtain ⟨i1, i2⟩ := isP_ix hs hp
  obtain ⟨r, e2, g1⟩ := loop_cnt (fun x => Jm_placeOf_L8 (nI s) h1 x.1 x.2) (fun i x => x = ((if ixN s < i then nI (ixN s) else -nI 1), nI i)) (fun r => r.1 = nI (ixN s)) 46 (fun i x hi hx => by
    subst hx
    have a1 := t1.2.2 i hi
    have b1 := (pcB_at hi).1
    have a2 := t1.2.1
    refine Or.inl ⟨_, ?_, rfl⟩
    by_cases q : i = ixN s
    · have q2 : plN i = s := by rw [q]; exact i2
      rw [if_neg (show ¬ ixN s < i by omega), if_pos (show ixN s < i + 1 by omega), ← q]
      simp (disch := omega) only [Jm_placeOf_L8, a1, a2, q2, bd_some, lt_of', sm_l, sm_r, lit, lN_n, hset_if, nI_ltP, nI_eqI, nI_add, nI_sub, nI_clamp, ib_nI, cond_true, if_pos, if_neg, and_self, and_true, true_and, false_and, and_false, ↓reduceIte, eq_self, nI_m1]
    · have q2 : ¬ plN i = s := fun z => q (by rw [← z]; exact (pcB_at hi).2.2.1.symm)
      by_cases z : ixN s < i
      · rw [if_pos z, if_pos (show ixN s < i + 1 by omega)]
        simp (disch := omega) only [Jm_placeOf_L8, a1, a2, q2, bd_some, lt_of', sm_l, sm_r, lit, lN_n, hset_if, nI_ltP, nI_eqI, nI_add, nI_sub, nI_clamp, ib_nI, cond_true, if_pos, if_neg, and_self, and_true, true_and, false_and, and_false, ↓reduceIte, eq_self, nI_m1]
      · rw [if_neg z, if_neg (show ¬ ixN s < i + 1 by omega)]
        simp (disch := omega) only [Jm_placeOf_L8, a1, a2, q2, bd_some, lt_of', sm_l, sm_r, lit, lN_n, hset_if, nI_ltP, nI_eqI, nI_add, nI_sub, nI_clamp, ib_nI, cond_true, if_pos, if_neg, and_self, and_true, true_and, false_and, and_false, ↓reduceIte, eq_self, nI_m1]) (fun x hx => by
    subst hx
    have a2 := t1.2.1
    refine ⟨(nI (ixN s), nI 46), ?_, rfl⟩
    rw [if_pos i1]
    simp (disch := omega) only [Jm_placeOf_L8, a2, bd_some, lt_of', sm_l, sm_r, lit, lN_n, hset_if, nI_ltP, nI_eqI, nI_add, nI_sub, nI_clamp, ib_nI, cond_true, if_pos, if_neg, and_self, and_true, true_and, false_and, and_false, ↓reduceIte, eq_self, nI_m1]) (F := 1000000) (by omega) (a := 0) (by omega) (s := (-1, 0)) rfl
  refine ⟨h1, ?_, t1, t2, t3⟩
  unfold Jm_placeOf
  refine (bd_of e1).trans ?_
  refine (bd_of e2).trans ?_
  rw [g1]
theorem isPlace_yes {h : Hp} (H : tRaw h ∨ tLaid h) (H2 : h 37 14 = nI 0 ∨ pLaid h) {k : Nat} (hk : k < 46) : ∃ h', Jm_isPlace (nI k) h = some (nI 1, h') ∧ pLaid h' ∧ (∀ j, j ≠ 12 → j ≠ 14 → h' 37 j = h 37 j) ∧ ∀ p, p ≠ 37 → p ≠ 43 → p ≠ 44 → h' p = h p := by
  obtain ⟨h1, e1, t1, t2, t3⟩ := layPlaces_at H H2
  refine ⟨h1, ?_, t1, t2, t3⟩
  unfold Jm_isPlace
  refine (bd_of e1).trans ?_
  rw [t1.2.1, show (nI 46 - 1 : Int32) = nI 45 from rfl, nI_l (n := 45) (by decide)]
  refine (bd_of (in_yes (a := 0) (by omega) (by omega) (by decide))).trans ?_
  rfl
theorem isPlace_no {h : Hp} (H : tRaw h ∨ tLaid h) (H2 : h 37 14 = nI 0 ∨ pLaid h) {v : Int32} (hv : v < 0 ∨ nI 46 ≤ v) : ∃ h', Jm_isPlace v h = some (nI 0, h') ∧ pLaid h' ∧ (∀ j, j ≠ 12 → j ≠ 14 → h' 37 j = h 37 j) ∧ ∀ p, p ≠ 37 → p ≠ 43 → p ≠ 44 → h' p = h p := by
  obtain ⟨h1, e1, t1, t2, t3⟩ := layPlaces_at H H2
  refine ⟨h1, ?_, t1, t2, t3⟩
  unfold Jm_isPlace
  refine (bd_of e1).trans ?_
  rw [t1.2.1, show (nI 46 - 1 : Int32) = nI 45 from rfl, nI_l (n := 45) (by decide)]
  have hz : Jm_in (Int32.toInt64 v) 0 (lN 45) = some 0 := by
    by_cases q : v < 0
    · exact in_neg q (a := 0) (by decide) _
    · obtain ⟨j, hj, rfl⟩ := nI_of q
      rcases hv with hv | hv
      · exact absurd hv q
      · exact in_high 0 (by have := (nI_leI (a := 46) (by decide) hj).mp hv; omega) hj (by decide)
  refine (bd_of hz).trans ?_
  rfl
theorem isAboveM_at {h : Hp} (H : pLaid h) {k l : Nat} (hk : k < 46) (hl : l < 46) : Jm_isAbove (nI k) (nI l) h = some (nI (if abN k l = true then 1 else 0)) := by
  have a1 := H.2.2 k hk
  have a2 := H.2.2 l hl
  have k4 := (pcB_at hk).1
  have l4 := (pcB_at hl).1
  have m4 : plN l &&& plN k < 4096 := and_lt4 l4
  unfold Jm_isAbove
  by_cases q : k = l
  · rw [if_pos (by rw [q])]
    have : abN k l = false := by simp [abN, q, Nat.beq_refl]
    rw [this]
    rfl
  · rw [if_neg (fun z => q ((nI_eq (by omega) (by omega)).mp z)), ib_nI (by omega) (by omega), ib_nI (by omega) (by omega)]
    simp only [cond_true]
    rw [nI_clamp (by omega), nI_clamp (by omega), a1, a2]
    unfold Jm_hasAll
    rw [nI_and]
    have qb : Nat.beq k l = false := by
      cases hb : Nat.beq k l with
      | true => exact absurd (Nat.eq_of_beq_eq_true hb) q
      | false => rfl
    by_cases z : plN l &&& plN k = plN k
    · have : abN k l = true := by simp [abN, qb, z, Nat.beq_refl]
      rw [if_pos (by rw [z]), this]
      rfl
    · have : abN k l = false := by
        simp only [abN, qb, Bool.not_false, Bool.true_and]
        cases hb : Nat.beq (plN l &&& plN k) (plN k) with
        | true => exact absurd (Nat.eq_of_beq_eq_true hb) z
        | false => rfl
      rw [if_neg (fun w => z ((nI_eq (by omega) (by omega)).mp w)), this]
      rfl
theorem isJustM_at {h : Hp} (H : pLaid h) {k l : Nat} (hk : k < 46) (hl : l < 46) : Jm_isJustAbove (nI k) (nI l) h = some (nI (if jaT k l 46 = true then 1 else 0)) := by
  have h4 := H.2.1
  obtain ⟨r, e1, e2⟩ := loop_cnt (fun s => Jm_isJustAbove_L10 (nI k) (nI l) h s.1 s.2) (fun i s => s = (nI (if jaT k l i = true then 1 else 0), nI i)) (fun r => r.1 = nI (if jaT k l 46 = true then 1 else 0)) 46 (fun i s hi hs => by
    subst hs
    have a1 := isAboveM_at H hk hi
    have a2 := isAboveM_at H hi hl
    refine Or.inl ⟨_, ?_, rfl⟩
    rw [jaT_succ]
    cases b0 : jaT k l i with
    | false =>
      simp (disch := omega) only [Jm_isJustAbove_L10, h4, bd_some, lt_of', sm_l, sm_r, lit, lN_n, hset_if, nI_ltP, nI_eqI, nI_add, nI_sub, nI_clamp, ib_nI, cond_true, if_pos, if_neg, and_self, and_true, true_and, false_and, and_false, ↓reduceIte, eq_self, nI_m1]
      simp
    | true =>
      cases b1 : abN k i with
      | false =>
        rw [b1] at a1
        simp (disch := omega) only [Jm_isJustAbove_L10, h4, a1, bd_some, lt_of', sm_l, sm_r, lit, lN_n, hset_if, nI_ltP, nI_eqI, nI_add, nI_sub, nI_clamp, ib_nI, cond_true, if_pos, if_neg, and_self, and_true, true_and, false_and, and_false, ↓reduceIte, eq_self, nI_m1]
        simp
      | true =>
        rw [b1] at a1
        cases b2 : abN i l with
        | false =>
          rw [b2] at a2
          simp (disch := omega) only [Jm_isJustAbove_L10, h4, a1, a2, bd_some, lt_of', sm_l, sm_r, lit, lN_n, hset_if, nI_ltP, nI_eqI, nI_add, nI_sub, nI_clamp, ib_nI, cond_true, if_pos, if_neg, and_self, and_true, true_and, false_and, and_false, ↓reduceIte, eq_self, nI_m1]
          simp
        | true =>
          rw [b2] at a2
          simp (disch := omega) only [Jm_isJustAbove_L10, h4, a1, a2, bd_some, lt_of', sm_l, sm_r, lit, lN_n, hset_if, nI_ltP, nI_eqI, nI_add, nI_sub, nI_clamp, ib_nI, cond_true, if_pos, if_neg, and_self, and_true, true_and, false_and, and_false, ↓reduceIte, eq_self, nI_m1]
          simp) (fun s hs => by
    subst hs
    exact ⟨(nI (if jaT k l 46 = true then 1 else 0), nI 46), by simp (disch := omega) only [Jm_isJustAbove_L10, h4, bd_some, lt_of', sm_l, sm_r, lit, lN_n, hset_if, nI_ltP, nI_eqI, nI_add, nI_sub, nI_clamp, ib_nI, cond_true, if_pos, if_neg, and_self, and_true, true_and, false_and, and_false, ↓reduceIte, eq_self, nI_m1], rfl⟩) (F := 1000000) (by omega) (a := 0) (by omega) (s := (nI (if abN k l = true then 1 else 0), 0)) (by simp [jaT]; rfl)
  unfold Jm_isJustAbove
  refine (bd_of (isAboveM_at H hk hl)).trans ?_
  refine (bd_of e1).trans ?_
  rw [e2, isZ_01]
  rfl
theorem inside_at {h : Hp} (H : pLaid h) {k : Nat} (hk : k < 46) : Jm_inside (nI k) h = some (nI (cntT (inT (plN k)) 256)) := by
  have a1 := H.2.2 k hk
  have k4 := (pcB_at hk).1
  obtain ⟨r, e1, e2⟩ := loop_cnt (fun x => Jm_inside_L4 (nI k) h x.1 x.2) (fun i x => x = (nI (cntT (inT (plN k)) i), nI i)) (fun r => r.1 = nI (cntT (inT (plN k)) 256)) 256 (fun i x hi hx => by
    subst hx
    have a2 := H.1.2 i hi
    have a3 := hasAll_at hi k4
    refine Or.inl ⟨_, ?_, rfl⟩
    rw [cntT_succ]
    cases b1 : inT (plN k) i with
    | false =>
      rw [b1] at a3
      simp (disch := omega) only [Jm_inside_L4, a1, a2, a3, bd_some, lt_of', sm_l, sm_r, lit, lN_n, hset_if, nI_ltP, nI_eqI, nI_add, nI_sub, nI_clamp, ib_nI, cond_true, if_pos, if_neg, and_self, and_true, true_and, false_and, and_false, ↓reduceIte, eq_self, nI_m1]
      simp
    | true =>
      rw [b1] at a3
      simp (disch := omega) only [Jm_inside_L4, a1, a2, a3, bd_some, lt_of', sm_l, sm_r, lit, lN_n, hset_if, nI_ltP, nI_eqI, nI_add, nI_sub, nI_clamp, ib_nI, cond_true, if_pos, if_neg, and_self, and_true, true_and, false_and, and_false, ↓reduceIte, eq_self, nI_m1]) (fun x hx => by
    subst hx
    exact ⟨(nI (cntT (inT (plN k)) 256), nI 256), by simp (disch := omega) only [Jm_inside_L4, bd_some, lt_of', sm_l, sm_r, lit, lN_n, hset_if, nI_ltP, nI_eqI, nI_add, nI_sub, nI_clamp, ib_nI, cond_true, if_pos, if_neg, and_self, and_true, true_and, false_and, and_false, ↓reduceIte, eq_self, nI_m1], rfl⟩) (F := 1000000) (by omega) (a := 0) (by omega) (s := (0, 0)) rfl
  unfold Jm_inside
  exact (bd_of e1).trans (by rw [e2])
theorem isNextM_at {h : Hp} (H : pLaid h) (up : Bool) {k l : Nat} (hk : k < 46) (hl : l < 46) : (if up = true then Jm_isJustAbove (nI l) (nI k) h else Jm_isJustAbove (nI k) (nI l) h) = some (nI (if nxT up k l = true then 1 else 0)) := by
  cases up with
  | true => exact isJustM_at H hl hk
  | false => exact isJustM_at H hk hl
/-- how many neighbours -/
theorem neighbour_cnt {h : Hp} (H : pLaid h) (up : Bool) {k : Nat} (hk : k < 46) : Jm_neighbour (nI k) (-1) (nI (if up = true then 1 else 0)) h = some (nI (cntT (nxT up k) 46)) := by
  have h4 := H.2.1
  have hf : ∀ l, l < 46 → (if up = true then Jm_isJustAbove (nI l) (nI k) h else Jm_isJustAbove (nI k) (nI l) h) = some (nI (if nxT up k l = true then 1 else 0)) := fun l hl => isNextM_at H up hk hl
  generalize nxT up k = f at hf ⊢
  obtain ⟨r, e1, e2⟩ := loop_cnt (fun s => Jm_neighbour_L6 (nI k) (-1) (nI (if up = true then 1 else 0)) h s.1 s.2) (fun i s => s = (nI (cntT f i), nI i)) (fun r => r = .inl (nI (cntT f 46), nI 46)) 46 (fun i s hi hs => by
    subst hs
    have a1 := hf i hi
    have c1 := cntT_le f i
    refine Or.inl ⟨_, ?_, rfl⟩
    rw [cntT_succ]
    cases up with
    | true =>
      rw [if_pos rfl] at a1
      cases b1 : f i with
      | false =>
        rw [b1] at a1
        simp (disch := omega) only [Jm_neighbour_L6, Jm_neighbour_J36, h4, a1, bd_some, lt_of', sm_l, sm_r, lit, lN_n, hset_if, nI_ltP, nI_eqI, nI_add, nI_sub, nI_clamp, ib_nI, cond_true, if_pos, if_neg, and_self, and_true, true_and, false_and, and_false, ↓reduceIte, eq_self, nI_m1]
        all_goals simp
      | true =>
        rw [b1] at a1
        simp (disch := omega) only [Jm_neighbour_L6, Jm_neighbour_J36, h4, a1, bd_some, lt_of', sm_l, sm_r, lit, lN_n, hset_if, nI_ltP, nI_eqI, nI_add, nI_sub, nI_clamp, ib_nI, cond_true, if_pos, if_neg, and_self, and_true, true_and, false_and, and_false, ↓reduceIte, eq_self, nI_m1]
        all_goals simp
    | false =>
      rw [if_neg (by decide)] at a1
      cases b1 : f i with
      | false =>
        rw [b1] at a1
        simp (disch := omega) only [Jm_neighbour_L6, Jm_neighbour_J36, h4, a1, bd_some, lt_of', sm_l, sm_r, lit, lN_n, hset_if, nI_ltP, nI_eqI, nI_add, nI_sub, nI_clamp, ib_nI, cond_true, if_pos, if_neg, and_self, and_true, true_and, false_and, and_false, ↓reduceIte, eq_self, nI_m1]
        all_goals simp
      | true =>
        rw [b1] at a1
        simp (disch := omega) only [Jm_neighbour_L6, Jm_neighbour_J36, h4, a1, bd_some, lt_of', sm_l, sm_r, lit, lN_n, hset_if, nI_ltP, nI_eqI, nI_add, nI_sub, nI_clamp, ib_nI, cond_true, if_pos, if_neg, and_self, and_true, true_and, false_and, and_false, ↓reduceIte, eq_self, nI_m1]
        all_goals simp) (fun s hs => by
    subst hs
    exact ⟨.inl (nI (cntT f 46), nI 46), by simp (disch := omega) only [Jm_neighbour_L6, h4, bd_some, lt_of', sm_l, sm_r, lit, lN_n, hset_if, nI_ltP, nI_eqI, nI_add, nI_sub, nI_clamp, ib_nI, cond_true, if_pos, if_neg, and_self, and_true, true_and, false_and, and_false, ↓reduceIte, eq_self, nI_m1], rfl⟩) (F := 1000000) (by omega) (a := 0) (by omega) (s := (0, 0)) rfl
  unfold Jm_neighbour
  refine (bd_of e1).trans ?_
  rw [e2]
  rfl
theorem neighbour_at {h : Hp} (H : pLaid h) (up : Bool) {k : Nat} (hk : k < 46) {v : Int32} (hv : ¬ v < 0) : Jm_neighbour (nI k) v (nI (if up = true then 1 else 0)) h = some (nthT (nxT up k) v 46 0 0) := by
  have h4 := H.2.1
  have hf : ∀ l, l < 46 → (if up = true then Jm_isJustAbove (nI l) (nI k) h else Jm_isJustAbove (nI k) (nI l) h) = some (nI (if nxT up k l = true then 1 else 0)) := fun l hl => isNextM_at H up hk hl
  generalize nxT up k = f at hf ⊢
  obtain ⟨Z, hZ⟩ : ∃ Z, Z = nthT f v 46 0 0 := ⟨_, rfl⟩
  obtain ⟨r, e1, e2⟩ := loop_cnt (fun s => Jm_neighbour_L6 (nI k) v (nI (if up = true then 1 else 0)) h s.1 s.2) (fun i s => ∃ c, c ≤ i ∧ s = (nI c, nI i) ∧ nthT f v (46 - i) i c = Z) (fun r => sm r (fun _ => Z = -1) (fun x => Z = x)) 46 (fun i s hi hs => by
    obtain ⟨c, hc, rfl, g⟩ := hs
    have a1 := hf i hi
    rw [show 46 - i = (46 - (i + 1)) + 1 by omega, nthT_one] at g
    generalize 46 - (i + 1) = n at g ⊢
    cases up with
    | true =>
      rw [if_pos rfl] at a1
      cases b1 : f i with
      | false =>
        simp only [b1, cond_false] at a1 g
        refine Or.inl ⟨(nI c, nI (i + 1)), ?_, c, by omega, rfl, g⟩
        simp (disch := omega) only [Jm_neighbour_L6, Jm_neighbour_J36, h4, a1, bd_some, lt_of', sm_l, sm_r, lit, lN_n, hset_if, nI_ltP, nI_eqI, nI_add, nI_sub, nI_clamp, ib_nI, cond_true, if_pos, if_neg, and_self, and_true, true_and, false_and, and_false, ↓reduceIte, eq_self, nI_m1]
        all_goals simp
      | true =>
        simp only [b1, cond_true] at a1 g
        by_cases q : nI c = v
        · rw [if_pos q] at g
          refine Or.inr ⟨.inr (nI i), ?_, g.symm⟩
          simp (disch := omega) only [Jm_neighbour_L6, Jm_neighbour_J36, h4, a1, q, bd_some, lt_of', sm_l, sm_r, lit, lN_n, hset_if, nI_ltP, nI_eqI, nI_add, nI_sub, nI_clamp, ib_nI, cond_true, if_pos, if_neg, and_self, and_true, true_and, false_and, and_false, ↓reduceIte, eq_self, nI_m1]
          all_goals simp
        · rw [if_neg q] at g
          refine Or.inl ⟨(nI (c + 1), nI (i + 1)), ?_, c + 1, by omega, rfl, g⟩
          simp (disch := omega) only [Jm_neighbour_L6, Jm_neighbour_J36, h4, a1, q, bd_some, lt_of', sm_l, sm_r, lit, lN_n, hset_if, nI_ltP, nI_eqI, nI_add, nI_sub, nI_clamp, ib_nI, cond_true, if_pos, if_neg, and_self, and_true, true_and, false_and, and_false, ↓reduceIte, eq_self, nI_m1]
          all_goals simp
    | false =>
      rw [if_neg (by decide)] at a1
      cases b1 : f i with
      | false =>
        simp only [b1, cond_false] at a1 g
        refine Or.inl ⟨(nI c, nI (i + 1)), ?_, c, by omega, rfl, g⟩
        simp (disch := omega) only [Jm_neighbour_L6, Jm_neighbour_J36, h4, a1, bd_some, lt_of', sm_l, sm_r, lit, lN_n, hset_if, nI_ltP, nI_eqI, nI_add, nI_sub, nI_clamp, ib_nI, cond_true, if_pos, if_neg, and_self, and_true, true_and, false_and, and_false, ↓reduceIte, eq_self, nI_m1]
        all_goals simp
      | true =>
        simp only [b1, cond_true] at a1 g
        by_cases q : nI c = v
        · rw [if_pos q] at g
          refine Or.inr ⟨.inr (nI i), ?_, g.symm⟩
          simp (disch := omega) only [Jm_neighbour_L6, Jm_neighbour_J36, h4, a1, q, bd_some, lt_of', sm_l, sm_r, lit, lN_n, hset_if, nI_ltP, nI_eqI, nI_add, nI_sub, nI_clamp, ib_nI, cond_true, if_pos, if_neg, and_self, and_true, true_and, false_and, and_false, ↓reduceIte, eq_self, nI_m1]
          all_goals simp
        · rw [if_neg q] at g
          refine Or.inl ⟨(nI (c + 1), nI (i + 1)), ?_, c + 1, by omega, rfl, g⟩
          simp (disch := omega) only [Jm_neighbour_L6, Jm_neighbour_J36, h4, a1, q, bd_some, lt_of', sm_l, sm_r, lit, lN_n, hset_if, nI_ltP, nI_eqI, nI_add, nI_sub, nI_clamp, ib_nI, cond_true, if_pos, if_neg, and_self, and_true, true_and, false_and, and_false, ↓reduceIte, eq_self, nI_m1]
          all_goals simp) (fun s hs => by
    obtain ⟨c, hc, rfl, g⟩ := hs
    exact ⟨.inl (nI c, nI 46), by simp (disch := omega) only [Jm_neighbour_L6, h4, bd_some, lt_of', sm_l, sm_r, lit, lN_n, hset_if, nI_ltP, nI_eqI, nI_add, nI_sub, nI_clamp, ib_nI, cond_true, if_pos, if_neg, and_self, and_true, true_and, false_and, and_false, ↓reduceIte, eq_self, nI_m1], g.symm⟩) (F := 1000000) (by omega) (a := 0) (by omega) (s := (0, 0)) ⟨0, by omega, rfl, hZ.symm⟩
  unfold Jm_neighbour
  refine (bd_of e1).trans ?_
  rw [← hZ]
  cases r with
  | inl t => rw [show Z = -1 from e2]; exact if_neg hv
  | inr x => rw [show Z = x from e2]; rfl
