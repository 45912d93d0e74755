/-! Places and traits in the heap: the class's. -/
theorem nI_m1 {n : Nat} (h : n < 2 ^ 31) : (nI n = -nI 1) = False := by
  refine eq_false fun q => ?_
  have h1 := nI_toInt h
  rw [q] at h1
  have h2 : (-nI 1).toInt = -1 := by decide
  omega
theorem shl1 {t : Nat} (ht : t < 16) : ((@OfNat.ofNat Int32 1 Int32.instOfNat) <<< (nI t &&& 31) : Int32) = nI (1 <<< t) := nI_shl (a := 1) (tl_shl (by decide) (by omega)) (by omega)
theorem shl1' {t : Nat} (ht : t < 16) : (nI 1 <<< (nI t &&& nI 31) : Int32) = nI (1 <<< t) := shl1 ht
theorem trp_succ (c t : Nat) : trp c (t + 1) = if ftI c t = -1 then trp c t ||| 1 <<< t else trp c t := by
  simp [trp, List.range_succ, List.foldl_append]
theorem Jtr_of_at {c : Nat} (hc : c < 256) : Jtr_of (nI c) = some (nI (trN c)) := by
  unfold Jtr_of
  obtain ⟨r, h1, h2⟩ := loop_cnt (fun s => Jtr_of_L4 (nI c) s.1 s.2) (fun i s => s = (nI (trp c i), nI i)) (fun r => r = (nI (trp c 12), nI 12)) 12 (fun i s hi hs => by
    subst hs
    refine Or.inl ⟨_, ?_, rfl⟩
    show Jtr_of_L4 (nI c) (nI (trp c i)) (nI i) = _
    unfold Jtr_of_L4
    refine (if_pos (nI_lt (b := 12) hi (by decide))).trans ?_
    refine (bd_of (ft_at hc hi).1).trans ?_
    rw [trp_succ]
    by_cases q : ftI c i = -1
    · rw [if_pos q, if_pos q, shl1 (by omega), nI_or, nI_1]
    · rw [if_neg q, if_neg q, nI_1]) (fun s hs => by
    subst hs
    refine ⟨_, ?_, rfl⟩
    show Jtr_of_L4 (nI c) (nI (trp c 12)) (nI 12) = _
    simp (disch := omega) only [Jtr_of_L4, bd_some, lt_of', sm_l, sm_r, lit, lN_n, hset_if, nI_ltP, nI_eqI, nI_add, nI_sub, nI_clamp, ib_nI, cond_true, if_pos, if_neg, and_self, and_true, true_and, false_and, and_false, ↓reduceIte, eq_self, nI_m1]) (F := 1000000) (by omega) (a := 0) (by omega) (s := (0, 0)) rfl
  refine (bd_of h1).trans ?_
  rw [h2, (ta_at hc).2.2.2.2.2.1]
theorem init47 {h : Hp} : ∃ r, loopN 1000000 (fun s => Jpl_init_L47 s.1 s.2) (0, h) = some r ∧ (∀ c, c < 256 → r.2 5 c = nI (trN c)) ∧ ∀ p, p ≠ 5 → r.2 p = h p := by
  refine loop_cnt (fun s => Jpl_init_L47 s.1 s.2) (fun i s => s.1 = nI i ∧ (∀ c, c < i → s.2 5 c = nI (trN c)) ∧ ∀ p, p ≠ 5 → s.2 p = h p) (fun r => (∀ c, c < 256 → r.2 5 c = nI (trN c)) ∧ ∀ p, p ≠ 5 → r.2 p = h p) 256 (fun i s hi hs => ?_) (fun s hs => ?_) (by omega) (a := 0) (by omega) ⟨rfl, fun c hc => absurd hc (Nat.not_lt_zero c), fun _ _ => rfl⟩
  · obtain ⟨a, x⟩ := s
    obtain ⟨rfl, g1, g2⟩ := hs
    simp only at g1 g2
    have ht := Jtr_of_at hi
    refine Or.inl ⟨(nI (i + 1), hset x 5 i (nI (trN i))), ?_, rfl, fun c hc => ?_, fun p hp => ?_⟩
    · simp (disch := omega) only [Jpl_init_L47, ht, bd_some, lt_of', sm_l, sm_r, lit, lN_n, hset_if, nI_ltP, nI_eqI, nI_add, nI_sub, nI_clamp, ib_nI, cond_true, if_pos, if_neg, and_self, and_true, true_and, false_and, and_false, ↓reduceIte, eq_self, nI_m1]
    · simp only [hset_if]
      by_cases q : c = i
      · subst q; rw [if_pos ⟨trivial, rfl⟩]
      · rw [if_neg (by omega)]; exact g1 c (by omega)
    · show hset x 5 i (nI (trN i)) p = _
      rw [hset_ne hp]; exact g2 p hp
  · obtain ⟨a, x⟩ := s
    obtain ⟨rfl, g1, g2⟩ := hs
    exact ⟨(nI 256, x), by simp (disch := omega) only [Jpl_init_L47, bd_some, lt_of', sm_l, sm_r, lit, lN_n, hset_if, nI_ltP, nI_eqI, nI_add, nI_sub, nI_clamp, ib_nI, cond_true, if_pos, if_neg, and_self, and_true, true_and, false_and, and_false, ↓reduceIte, eq_self, nI_m1], g1, g2⟩
theorem pcA_at {s : Nat} (hs : s < 4096) : (shD s = s ↔ isP s = true) ∧ (isP s = true → plN (cnN s) = s ∧ cnN (s + 1) = cnN s + 1 ∧ ixN s = cnN s ∧ rkS s ≤ 3 ∧ dsN s ≤ 11776) ∧ (isP s = false → cnN (s + 1) = cnN s ∧ 11777 ≤ dsN s ∧ rkS s = 99999) := by
  have h := al pcA_ok hs
  simp only [pcA, Bool.and_eq_true, beq_iff_eq] at h
  obtain ⟨h1, h2⟩ := h
  refine ⟨?_, fun q => ?_, fun q => ?_⟩
  · rw [← h1]
    exact ⟨fun e => by rw [e]; exact Nat.beq_refl s, fun e => Nat.eq_of_beq_eq_true e⟩
  · rw [q] at h2
    simp only [cond_true, Bool.and_eq_true] at h2
    obtain ⟨⟨⟨⟨a, b⟩, c⟩, d⟩, e⟩ := h2
    exact ⟨Nat.eq_of_beq_eq_true a, Nat.eq_of_beq_eq_true b, Nat.eq_of_beq_eq_true c, Nat.le_of_ble_eq_true d, Nat.le_of_ble_eq_true e⟩
  · rw [q] at h2
    simp only [cond_false, Bool.and_eq_true] at h2
    exact ⟨Nat.eq_of_beq_eq_true h2.1.1, Nat.le_of_ble_eq_true h2.1.2, Nat.eq_of_beq_eq_true h2.2⟩
theorem pcB_at {k : Nat} (hk : k < 46) : plN k < 4096 ∧ isP (plN k) = true ∧ ixN (plN k) = k ∧ quN k < 4096 ∧ isP (quN k) = true ∧ k < fnN (256 * k) ∧ ((dsN (plN k) = 0 ∧ plN k = 4095) ∨ (1 ≤ dsN (plN k) ∧ quN ((dsN (plN k) - 1) / 256) &&& trN ((dsN (plN k) - 1) % 256) = plN k)) := by
  have h := al pcB_ok hk
  simp only [pcB, Bool.and_eq_true, Bool.or_eq_true] at h
  obtain ⟨⟨⟨⟨⟨⟨a, b⟩, c⟩, d⟩, e⟩, f⟩, g⟩ := h
  refine ⟨ble_lt a, b, Nat.eq_of_beq_eq_true c, ble_lt d, e, Nat.le_of_ble_eq_true f, ?_⟩
  rcases g with g | g
  · exact Or.inl ⟨Nat.eq_of_beq_eq_true g.1, Nat.eq_of_beq_eq_true g.2⟩
  · exact Or.inr ⟨Nat.le_of_ble_eq_true g.1, Nat.eq_of_beq_eq_true g.2⟩
theorem pcC_at {n : Nat} (hn : n < 11776) : (quN (n / 256) &&& trN (n % 256)) < 4096 ∧ isP (quN (n / 256) &&& trN (n % 256)) = true ∧ fnN n ≤ 46 ∧ n / 256 < fnN n ∧ dsN (quN (n / 256)) ≤ n ∧ fnN (n + 1) ≤ 46 ∧ rkS (quN (n / 256)) ≤ 3 ∧ (dsN (quN (n / 256) &&& trN (n % 256)) ≤ n → fnN (n + 1) = fnN n) ∧ (¬ dsN (quN (n / 256) &&& trN (n % 256)) ≤ n → dsN (quN (n / 256) &&& trN (n % 256)) = n + 1 ∧ rkS (quN (n / 256) &&& trN (n % 256)) = rkS (quN (n / 256)) + 1 ∧ quN (fnN n) = (quN (n / 256) &&& trN (n % 256)) ∧ fnN (n + 1) = fnN n + 1) := by
  have h := al pcC_ok hn
  simp only [pcC, Bool.and_eq_true] at h
  obtain ⟨⟨⟨⟨⟨⟨⟨a, b⟩, c⟩, d⟩, e⟩, f⟩, g⟩, k⟩ := h
  refine ⟨ble_lt a, b, Nat.le_of_ble_eq_true d, ble_lt e, Nat.le_of_ble_eq_true f, Nat.le_of_ble_eq_true g, Nat.le_of_ble_eq_true k, fun q => ?_, fun q => ?_⟩
  · rw [Nat.ble_eq_true_of_le q] at c
    exact Nat.eq_of_beq_eq_true c
  · cases hb : Nat.ble (dsN (quN (n / 256) &&& trN (n % 256))) n with
    | true => exact absurd (Nat.le_of_ble_eq_true hb) q
    | false =>
      rw [hb] at c
      simp only [cond_false, Bool.and_eq_true] at c
      obtain ⟨⟨⟨c1, c2⟩, c3⟩, c4⟩ := c
      exact ⟨Nat.eq_of_beq_eq_true c1, Nat.eq_of_beq_eq_true c2, Nat.eq_of_beq_eq_true c3, Nat.eq_of_beq_eq_true c4⟩
theorem isP_ix {s : Nat} (hs : s < 4096) (h : isP s = true) : ixN s < 46 ∧ plN (ixN s) = s := by
  have h1 : ixN s < 46 := ble_lt h
  have h2 := (pcA_at hs).2.1 h
  exact ⟨h1, by rw [h2.2.2.1]; exact h2.1⟩
/-- what the ranks are at the time n of the search -/
def rkA (n s : Nat) : Int32 := if dsN s ≤ n then nI (rkS s) else -1
def fsI (n : Nat) (x : Hp) : Prop := (∀ s, s < 4096 → x 8 s = rkA n s) ∧ ∀ j, j < fnN n → x 6 j = nI (quN j)
theorem a4095 {s : Nat} (h : s < 4096) : s &&& 4095 = s := by
  have := Nat.and_two_pow_sub_one_eq_mod s 12
  rw [show (2 ^ 12 - 1 : Nat) = 4095 from rfl] at this
  rw [this]
  exact Nat.mod_eq_of_lt h
theorem fs_step {i c : Nat} (hi : i < 46) (hc : c < 256) {x : Hp} (hI : fsI (256 * i + c) x) (hT : ∀ c, c < 256 → x 5 c = nI (trN c)) : ∃ x', Jpl_findSets_L70 (nI i) (nI (quN i)) (nI (fnN (256 * i + c))) (nI c) x = some (.inl (nI (fnN (256 * i + (c + 1))), nI (c + 1), x')) ∧ fsI (256 * i + (c + 1)) x' ∧ ∀ p, p ≠ 6 → p ≠ 8 → x' p = x p := by
  have hn : 256 * i + c < 11776 := by omega
  obtain ⟨p1, p2, p3, p4, p5, p6, p7, p8, p9⟩ := pcC_at hn
  rw [show (256 * i + c) / 256 = i by omega] at p1 p2 p4 p5 p7 p8 p9
  rw [show (256 * i + c) % 256 = c by omega] at p1 p2 p8 p9
  obtain ⟨h1, h2⟩ := hI
  have hq := h2 i p4
  have hq4 := (pcB_at hi).2.2.2.1
  have ht := hT c hc
  have ht4 := (ta_at hc).1
  have hr := h1 _ p1
  have hri := h1 (quN i) hq4
  rw [rkA, if_pos p5] at hri
  rw [show 256 * i + (c + 1) = 256 * i + c + 1 by omega]
  generalize hS : quN i &&& trN c = S at p1 p2 p8 p9 hr
  generalize hN : 256 * i + c = n at hn p3 p4 p5 p6 p8 p9 h1 h2 hr
  by_cases q : dsN S ≤ n
  · have h8 := p8 q
    have hk := ((pcA_at p1).2.1 p2).2.2.2.1
    rw [rkA, if_pos q] at hr
    refine ⟨x, ?_, ⟨fun s hs => ?_, fun j hj => ?_⟩, fun p _ _ => rfl⟩
    · rw [h8]
      simp (disch := omega) only [Jpl_findSets_L70, hq, ht, nI_and, hS, hr, bd_some, lt_of', sm_l, sm_r, lit, lN_n, hset_if, nI_ltP, nI_eqI, nI_add, nI_sub, nI_clamp, ib_nI, cond_true, if_pos, if_neg, and_self, and_true, true_and, false_and, and_false, ↓reduceIte, eq_self, nI_m1]
    · rw [h1 s hs]
      unfold rkA
      by_cases z : dsN s ≤ n
      · rw [if_pos z, if_pos (by omega)]
      · rw [if_neg z]
        by_cases z2 : dsN s ≤ n + 1
        · exfalso
          have e : isP s = true := by
            cases hb : isP s with
            | true => rfl
            | false => have := ((pcA_at hs).2.2 hb).2.1; omega
          obtain ⟨e1, e2⟩ := isP_ix hs e
          have e3 := (pcB_at e1).2.2.2.2.2.2
          rw [e2] at e3
          rcases e3 with e3 | e3
          · omega
          · have hd : dsN s = n + 1 := by omega
            rw [hd, show n + 1 - 1 = n by omega, ← hN, show (256 * i + c) / 256 = i by omega, show (256 * i + c) % 256 = c by omega, hS] at e3
            rw [e3.2] at q
            omega
        · rw [if_neg z2]
    · rw [h8] at hj
      exact h2 j hj
  · obtain ⟨b1, b2, b3, b4⟩ := p9 q
    rw [rkA, if_neg q, show (-1 : Int32) = -nI 1 from rfl] at hr
    refine ⟨hset (hset x 8 S (nI (rkS S))) 6 (fnN n) (nI S), ?_, ⟨fun s hs => ?_, fun j hj => ?_⟩, fun p h6 h8 => by rw [hset_ne h6, hset_ne h8]⟩
    · rw [b4, b2]
      simp (disch := omega) only [Jpl_findSets_L70, hq, ht, nI_and, hS, hr, hri, bd_some, lt_of', sm_l, sm_r, lit, lN_n, hset_if, nI_ltP, nI_eqI, nI_add, nI_sub, nI_clamp, ib_nI, cond_true, if_pos, if_neg, and_self, and_true, true_and, false_and, and_false, ↓reduceIte, eq_self, nI_m1]
    · simp only [hset_if]
      rw [if_neg (by omega)]
      unfold rkA
      by_cases z : s = S
      · subst z
        rw [if_pos ⟨trivial, rfl⟩, if_pos (by omega)]
      · rw [if_neg (by omega), h1 s hs]
        unfold rkA
        by_cases z1 : dsN s ≤ n
        · rw [if_pos z1, if_pos (by omega)]
        · rw [if_neg z1]
          by_cases z2 : dsN s ≤ n + 1
          · exfalso
            have e : isP s = true := by
              cases hb : isP s with
              | true => rfl
              | false => have := ((pcA_at hs).2.2 hb).2.1; omega
            obtain ⟨e1, e2⟩ := isP_ix hs e
            have e3 := (pcB_at e1).2.2.2.2.2.2
            rw [e2] at e3
            rcases e3 with e3 | e3
            · omega
            · have hd : dsN s = n + 1 := by omega
              rw [hd, show n + 1 - 1 = n by omega, ← hN, show (256 * i + c) / 256 = i by omega, show (256 * i + c) % 256 = c by omega, hS] at e3
              exact z e3.2.symm
          · rw [if_neg z2]
    · simp only [hset_if]
      rw [b4] at hj
      by_cases z : j = fnN n
      · subst z
        rw [if_pos ⟨trivial, rfl⟩, b3]
      · rw [if_neg (by omega), if_neg (by omega)]
        exact h2 j (by omega)
theorem findSets_at {h : Hp} (hT : ∀ c, c < 256 → h 5 c = nI (trN c)) : ∃ h', Jpl_findSets h = some h' ∧ (∀ s, s < 4096 → h' 8 s = if isP s = true then nI (rkS s) else -1) ∧ ∀ p, p ≠ 6 → p ≠ 8 → h' p = h p := by
  obtain ⟨r, e1, g1, g2⟩ := loop_cnt (fun s => Jpl_findSets_L2 s.1 s.2) (fun i s => s.1 = nI i ∧ (∀ c, c < i → s.2 8 c = -1) ∧ ∀ p, p ≠ 8 → s.2 p = h p) (fun r => (∀ c, c < 4096 → r.2 8 c = -1) ∧ ∀ p, p ≠ 8 → r.2 p = h p) 4096 (fun i s hi hs => by
    obtain ⟨a, x⟩ := s
    obtain ⟨rfl, g1, g2⟩ := hs
    simp only at g1 g2
    refine Or.inl ⟨(nI (i + 1), hset x 8 i (-1)), ?_, rfl, fun c hc => ?_, fun p hp => ?_⟩
    · simp (disch := omega) only [Jpl_findSets_L2, bd_some, lt_of', sm_l, sm_r, lit, lN_n, hset_if, nI_ltP, nI_eqI, nI_add, nI_sub, nI_clamp, ib_nI, cond_true, if_pos, if_neg, and_self, and_true, true_and, false_and, and_false, ↓reduceIte, eq_self, nI_m1]
    · simp only [hset_if]
      by_cases q : c = i
      · subst q; rw [if_pos ⟨trivial, rfl⟩]
      · rw [if_neg (by omega)]; exact g1 c (by omega)
    · show hset x 8 i (-1) p = _
      rw [hset_ne hp]; exact g2 p hp) (fun s hs => by
    obtain ⟨a, x⟩ := s
    obtain ⟨rfl, g1, g2⟩ := hs
    exact ⟨(nI 4096, x), by simp (disch := omega) only [Jpl_findSets_L2, bd_some, lt_of', sm_l, sm_r, lit, lN_n, hset_if, nI_ltP, nI_eqI, nI_add, nI_sub, nI_clamp, ib_nI, cond_true, if_pos, if_neg, and_self, and_true, true_and, false_and, and_false, ↓reduceIte, eq_self, nI_m1], g1, g2⟩) (F := 1000000) (by omega) (a := 0) (by omega) (s := (0, h)) ⟨rfl, fun c hc => absurd hc (Nat.not_lt_zero c), fun _ _ => rfl⟩
  let h4 := hset (hset r.2 8 4095 0) 6 0 4095
  obtain ⟨z1, z2, z3, z4, z5, -⟩ := pc0
  have i0 : fsI 0 h4 := by
    refine ⟨fun s hs => ?_, fun j hj => ?_⟩
    · simp only [h4, hset_if]
      rw [if_neg (by omega)]
      unfold rkA
      by_cases q : s = 4095
      · subst q; rw [if_pos ⟨trivial, rfl⟩, if_pos (by omega), z3]; rfl
      · rw [if_neg (by omega), g1 s hs]
        rw [if_neg]
        intro z
        have e : isP s = true := by
          cases hb : isP s with
          | true => rfl
          | false => have := ((pcA_at hs).2.2 hb).2.1; omega
        obtain ⟨e1, e2⟩ := isP_ix hs e
        have e3 := (pcB_at e1).2.2.2.2.2.2
        rw [e2] at e3
        omega
    · rw [z1] at hj
      rw [show j = 0 by omega, z2]
      simp [h4, hset_if]
      rfl
  obtain ⟨r2, e2, i2, g3⟩ := loop_cnt (fun s => Jpl_findSets_L44 s.1 s.2.1 s.2.2) (fun i s => s.1 = nI (fnN (256 * i)) ∧ s.2.1 = nI i ∧ fsI (256 * i) s.2.2 ∧ ∀ p, p ≠ 6 → p ≠ 8 → s.2.2 p = h p) (fun r => fsI (256 * 46) r.2.2 ∧ ∀ p, p ≠ 6 → p ≠ 8 → r.2.2 p = h p) 46 (fun i s hi hs => by
    obtain ⟨a, b, x⟩ := s
    obtain ⟨rfl, rfl, g1, g2⟩ := hs
    simp only at g1 g2
    obtain ⟨r, e1, ⟨q1, q2, q3⟩⟩ := loop_cnt (fun s => Jpl_findSets_L70 (nI i) (nI (quN i)) s.1 s.2.1 s.2.2) (fun c s => s.1 = nI (fnN (256 * i + c)) ∧ s.2.1 = nI c ∧ fsI (256 * i + c) s.2.2 ∧ ∀ p, p ≠ 6 → p ≠ 8 → s.2.2 p = h p) (fun r => r.1 = nI (fnN (256 * i + 256)) ∧ fsI (256 * i + 256) r.2.2 ∧ ∀ p, p ≠ 6 → p ≠ 8 → r.2.2 p = h p) 256 (fun c s hc hs => by
      obtain ⟨a, b, x⟩ := s
      obtain ⟨rfl, rfl, g1, g2⟩ := hs
      simp only at g1 g2
      obtain ⟨x', t1, t2, t3⟩ := fs_step hi hc g1 (fun c hc => by rw [g2 5 (by decide) (by decide)]; exact hT c hc)
      exact Or.inl ⟨_, t1, rfl, rfl, t2, fun p h6 h8 => (t3 p h6 h8).trans (g2 p h6 h8)⟩) (fun s hs => by
      obtain ⟨a, b, x⟩ := s
      obtain ⟨rfl, rfl, g1, g2⟩ := hs
      exact ⟨(nI (fnN (256 * i + 256)), nI 256, x), by simp (disch := omega) only [Jpl_findSets_L70, bd_some, lt_of', sm_l, sm_r, lit, lN_n, hset_if, nI_ltP, nI_eqI, nI_add, nI_sub, nI_clamp, ib_nI, cond_true, if_pos, if_neg, and_self, and_true, true_and, false_and, and_false, ↓reduceIte, eq_self, nI_m1], rfl, g1, g2⟩) (F := 1000000) (by omega) (a := 0) (by omega) (s := (nI (fnN (256 * i)), 0, x)) ⟨rfl, rfl, g1, g2⟩
    refine Or.inl ⟨(r.1, nI (i + 1), r.2.2), ?_, by rw [q1]; rfl, rfl, q2, q3⟩
    show Jpl_findSets_L44 (nI (fnN (256 * i))) (nI i) x = _
    unfold Jpl_findSets_L44
    have hf : fnN (256 * i) ≤ 46 := (pcC_at (n := 256 * i) (by omega)).2.2.1
    refine (if_pos (nI_lt (pcB_at hi).2.2.2.2.2.1 (by omega))).trans ?_
    refine (if_pos (nI_lt (b := 4096) (by omega) (by decide))).trans ?_
    rw [ib_nI (show i < 4096 by omega) (by omega), cond_true, nI_clamp (show i < 2 ^ 31 by omega), g1.2 i (pcB_at hi).2.2.2.2.2.1, show (4095 : Int32) = nI 4095 from rfl, nI_and, a4095 (pcB_at hi).2.2.2.1]
    refine (bd_of e1).trans ?_
    rw [nI_1]) (fun s hs => by
    obtain ⟨a, b, x⟩ := s
    obtain ⟨rfl, rfl, g1, g2⟩ := hs
    refine ⟨(nI (fnN (256 * 46)), nI 46, x), ?_, g1, g2⟩
    show Jpl_findSets_L44 (nI (fnN (256 * 46))) (nI 46) x = _
    unfold Jpl_findSets_L44
    rw [show fnN (256 * 46) = 46 from z5]
    exact if_neg (nI_nlt (Nat.le_refl 46) (by decide))) (F := 1000000) (by omega) (a := 0) (by omega) (s := (1, 0, h4)) ⟨by rw [z1]; rfl, rfl, i0, fun p h6 h8 => by show h4 p = _; simp only [h4]; rw [hset_ne h6, hset_ne h8]; exact g2 p h8⟩
  refine ⟨r2.2.2, ?_, fun s hs => ?_, g3⟩
  · unfold Jpl_findSets
    refine (bd_of e1).trans ?_
    simp only [lt_of']
    exact (bd_of (a := r2) e2).trans rfl
  · rw [i2.1 s hs]
    unfold rkA
    cases hb : isP s with
    | true =>
      have := ((pcA_at hs).2.1 hb).2.2.2.2
      rw [if_pos (by omega), if_pos rfl]
    | false =>
      have := ((pcA_at hs).2.2 hb).2.1
      rw [if_neg (by omega), if_neg (by decide)]
theorem numberSets_at {h : Hp} (h8 : ∀ s, s < 4096 → h 8 s = if isP s = true then nI (rkS s) else -1) (h0 : h 4 4 = 0) : ∃ h', Jpl_numberSets h = some h' ∧ h' 4 4 = nI 46 ∧ (∀ k, k < 46 → h' 6 k = nI (plN k) ∧ h' 7 (plN k) = nI k) ∧ ∀ p, p ≠ 4 → p ≠ 6 → p ≠ 7 → h' p = h p := by
  obtain ⟨z1, z2, z3, z4, z5, z6, z7, -⟩ := pc0
  have cm : ∀ s, s < 4096 → cnN s ≤ cnN (s + 1) := fun s hs => by
    cases hb : isP s with
    | true => have := ((pcA_at hs).2.1 hb).2.1; omega
    | false => have := ((pcA_at hs).2.2 hb).1; omega
  have cle : ∀ n s, s + n = 4096 → cnN s ≤ 46 := by
    intro n
    induction n with
    | zero => intro s hs; rw [show s = 4096 by omega, z7]; omega
    | succ n ih => intro s hs; exact Nat.le_trans (cm s (by omega)) (ih (s + 1) (by omega))
  obtain ⟨r, e1, g1, g2, g3⟩ := loop_cnt (fun s => Jpl_numberSets_L2 s.1 s.2) (fun i s => s.1 = nI i ∧ s.2 4 4 = nI (cnN i) ∧ (∀ k, k < cnN i → s.2 6 k = nI (plN k) ∧ s.2 7 (plN k) = nI k ∧ plN k < i) ∧ ∀ p, p ≠ 4 → p ≠ 6 → p ≠ 7 → s.2 p = h p) (fun r => r.2 4 4 = nI 46 ∧ (∀ k, k < 46 → r.2 6 k = nI (plN k) ∧ r.2 7 (plN k) = nI k) ∧ ∀ p, p ≠ 4 → p ≠ 6 → p ≠ 7 → r.2 p = h p) 4096 (fun i s hi hs => by
    obtain ⟨a, x⟩ := s
    obtain ⟨rfl, g1, g2, g3⟩ := hs
    simp only at g1 g2 g3
    have hr : x 8 i = if isP i = true then nI (rkS i) else -nI 1 := by rw [g3 8 (by decide) (by decide) (by decide)]; exact h8 i hi
    have c46 := cle (4096 - i) i (by omega)
    cases hb : isP i with
    | true =>
      rw [hb, if_pos rfl] at hr
      obtain ⟨b1, b2, b3, b4, -⟩ := (pcA_at hi).2.1 hb
      refine Or.inl ⟨(nI (i + 1), hset (hset (hset (hset x 7 i (-1)) 7 i (nI (cnN i))) 6 (cnN i) (nI i)) 4 4 (nI (cnN i + 1))), ?_, rfl, ?_, fun k hk => ?_, fun p p4 p6 p7 => ?_⟩
      · simp (disch := omega) only [Jpl_numberSets_L2, hr, g1, bd_some, lt_of', sm_l, sm_r, lit, lN_n, hset_if, nI_ltP, nI_eqI, nI_add, nI_sub, nI_clamp, ib_nI, cond_true, if_pos, if_neg, and_self, and_true, true_and, false_and, and_false, ↓reduceIte, eq_self, nI_m1]
      · rw [b2]; simp [hset_if]
      · rw [b2] at hk
        simp only [hset_if]
        by_cases q : k = cnN i
        · subst q
          rw [b1]
          simp
        · obtain ⟨q1, q2, q3⟩ := g2 k (by omega)
          have q4 : ¬ plN k = i := by omega
          simp [q, q4, q1, q2]
          omega
      · show hset _ 4 4 _ p = _
        rw [hset_ne p4, hset_ne p6, hset_ne p7, hset_ne p7]; exact g3 p p4 p6 p7
    | false =>
      rw [hb, if_neg (by decide)] at hr
      obtain ⟨b1, -⟩ := (pcA_at hi).2.2 hb
      refine Or.inl ⟨(nI (i + 1), hset x 7 i (-1)), ?_, rfl, ?_, fun k hk => ?_, fun p p4 p6 p7 => ?_⟩
      · simp (disch := omega) only [Jpl_numberSets_L2, hr, g1, bd_some, lt_of', sm_l, sm_r, lit, lN_n, hset_if, nI_ltP, nI_eqI, nI_add, nI_sub, nI_clamp, ib_nI, cond_true, if_pos, if_neg, and_self, and_true, true_and, false_and, and_false, ↓reduceIte, eq_self, nI_m1]
      · rw [b1]; simp [hset_if, g1]
      · rw [b1] at hk
        obtain ⟨q1, q2, q3⟩ := g2 k hk
        have q4 : ¬ plN k = i := by omega
        simp [hset_if, q4, q1, q2]
        omega
      · show hset x 7 i (-1) p = _
        rw [hset_ne p7]; exact g3 p p4 p6 p7) (fun s hs => by
    obtain ⟨a, x⟩ := s
    obtain ⟨rfl, g1, g2, g3⟩ := hs
    simp only at g1 g2 g3
    rw [z7] at g1 g2
    exact ⟨(nI 4096, x), by simp (disch := omega) only [Jpl_numberSets_L2, bd_some, lt_of', sm_l, sm_r, lit, lN_n, hset_if, nI_ltP, nI_eqI, nI_add, nI_sub, nI_clamp, ib_nI, cond_true, if_pos, if_neg, and_self, and_true, true_and, false_and, and_false, ↓reduceIte, eq_self, nI_m1], g1, fun k hk => ⟨(g2 k hk).1, (g2 k hk).2.1⟩, g3⟩) (F := 1000000) (by omega) (a := 0) (by omega) (s := (0, h)) ⟨rfl, by rw [z6]; exact h0, fun k hk => by rw [z6] at hk; exact absurd hk (Nat.not_lt_zero k), fun _ _ _ _ => rfl⟩
  refine ⟨r.2, ?_, g1, g2, g3⟩
  unfold Jpl_numberSets
  exact (bd_of e1).trans rfl
