/-! Deeds undone; images. -/
theorem undo_inv {h : Hp} (v : Int32) (H : Inv h) : ∃ r h1 h2, Jyn_undo v h = some (r, h1) ∧ Jm_undo v h1 = some (r, h2) ∧ Inv h2 := by
  obtain ⟨⟨s, ⟨m, T⟩, F, ⟨n, K, V⟩, sd, ⟨u, U⟩, ⟨G, I, E⟩⟩, ok, c, d⟩ := id H
  by_cases q : v < 0
  · have l1 : v < 1 := by
      rw [Int32.lt_iff_toInt_lt] at q ⊢
      have z : (0 : Int32).toInt = 0 := rfl
      have o : (1 : Int32).toInt = 1 := rfl
      omega
    refine ⟨-1000000002, h, h, ?_, ?_, H⟩
    · unfold Jyn_undo
      rw [if_pos l1]
    · unfold Jm_undo
      rw [show Jm_in (Int32.toInt64 v) 1 16 = some 0 from in_neg (a := 1) q (by decide) _, bd_some, if_pos rfl]
  obtain ⟨N, hN, rfl⟩ := nI_of q
  by_cases n0 : N = 0
  · subst n0
    refine ⟨-1000000002, h, h, ?_, ?_, H⟩
    · unfold Jyn_undo
      rw [if_pos (show nI 0 < (1 : Int32) from nI_lt (b := 1) (by decide) (by decide))]
    · unfold Jm_undo
      rw [show Jm_in (Int32.toInt64 (nI 0)) 1 16 = some 0 from in_low (a := 1) (by decide) (by decide) _, bd_some, if_pos rfl]
  have c1 : ¬ nI N < (1 : Int32) := nI_nlt (b := 1) (by omega) hN
  by_cases n16 : 16 < N
  · refine ⟨-1000000002, h, h, ?_, ?_, H⟩
    · unfold Jyn_undo
      rw [if_neg c1, if_pos (show (16 : Int32) < nI N from nI_lt (a := 16) n16 hN)]
    · unfold Jm_undo
      rw [show Jm_in (Int32.toInt64 (nI N)) 1 16 = some 0 from in_high (b := 16) 1 n16 hN (by decide), bd_some, if_pos rfl]
  have c2 : ¬ (16 : Int32) < nI N := nI_nlt (a := 16) (by omega) (by decide)
  have iN : Jm_in (Int32.toInt64 (nI N)) 1 16 = some 1 := in_yes (a := 1) (b := 16) (by omega) (by omega) (by decide)
  obtain ⟨k1, k2, k3, k4, k5, ⟨u1, u2, nx, x1, x2, x3⟩, k7, k8, k9⟩ := c
  obtain ⟨d1, d2, d3, d4, d5, ⟨v1, v2, v3⟩, d7, d8⟩ := id d
  obtain ⟨o1, o2, o3, o4, o5, o6⟩ := ok
  by_cases q : u < N
  · refine ⟨-1000000003, h, h, ?_, ?_, H⟩
    · unfold Jyn_undo
      rw [if_neg c1, if_neg c2]
      unfold Jpa_goBackBy
      rw [if_neg c1, u1, if_pos (nI_lt q hN), bd_some]
      dsimp only
      rw [if_pos rfl]
    · unfold Jm_undo
      rw [iN, bd_some, if_neg one0, v1, if_pos (nI_lt q hN)]
  obtain ⟨s', es⟩ : ∃ s', s' = U (N - 1) := ⟨_, rfl⟩
  have os' : okS s' := by rw [es]; exact o5 _ (by omega)
  obtain ⟨h1, e1⟩ : ∃ y, y = hset h 31 3 (nI (u - N)) := ⟨_, rfl⟩
  obtain ⟨h2, e2⟩ : ∃ y, y = hset h1 31 4 (nI ((nx + 16 - N) % 16)) := ⟨_, rfl⟩
  have f2 : ∀ p, p ≠ 31 → h2 p = h p := fun p hp => by rw [e2, hset_ne hp, e1, hset_ne hp]
  have sl : ∀ j, j < u → slotC h2 ((nx + 15 - j) % 16) (U j) := fun j hj => slotC_fr (f2 32 (by decide)) (f2 33 (by decide)) (f2 34 (by decide)) (x3 j hj)
  have sl0 : slotC h2 ((nx + 16 - N) % 16) s' := by
    have := sl (N - 1) (by omega)
    rw [show (nx + 15 - (N - 1)) % 16 = (nx + 16 - N) % 16 by congr 1; omega, ← es] at this
    exact this
  obtain ⟨h3, a1, a2⟩ := load_at (k := (nx + 16 - N) % 16) (by omega) os'.1 sl0
  have fr := FJpa_load _ _ _ a1
  have f3 : ∀ p, p ≠ 29 → p ≠ 30 → h3 p = h2 p := fun p x y => fr p (by
    intro z
    rw [show SJpa_load = [29, 30] from rfl] at z
    simp only [List.mem_cons, List.not_mem_nil, or_false] at z
    omega)
  have f : ∀ p, p ≠ 29 → p ≠ 30 → p ≠ 31 → h3 p = h p := fun p x y z => (f3 p x y).trans (f2 p z)
  have r1 : h1 31 4 = nI nx := by rw [e1, hset_ne2 (by decide)]; exact x2
  have ar : ((nI nx + (16 : Int32)) - nI N) - ((nI nx + (16 : Int32)) - nI N) / (16 : Int32) * 16 = nI ((nx + 16 - N) % 16) := by
    rw [show nI nx + (16 : Int32) = nI (nx + 16) from nI_add nx 16, nI_sub (by omega)]
    exact pk_rem (d := 16) (by omega) (by decide) (by decide)
  have r4 : h2 31 4 = nI ((nx + 16 - N) % 16) := by rw [e2, hset_at]
  have cl : clI h3 (s', (m, T), F, (n, K, V), sd, (u - N, fun j => U (N + j)), (G, I, E)) := by
    refine ⟨a2, txC_fr (f 1 (by decide) (by decide) (by decide)) (f 2 (by decide) (by decide) (by decide)) k2, ?_, bkC_fr (f 26 (by decide) (by decide) (by decide)) (f 27 (by decide) (by decide) (by decide)) (f 28 (by decide) (by decide) (by decide)) k4, ?_, ⟨?_, by omega, (nx + 16 - N) % 16, by omega, ?_, fun j hj => ?_⟩, imC_fr (f 32 (by decide) (by decide) (by decide)) (f 33 (by decide) (by decide) (by decide)) (f 34 (by decide) (by decide) (by decide)) (f 35 (by decide) (by decide) (by decide)) (f 36 (by decide) (by decide) (by decide)) k7, CP_fr (f 4 (by decide) (by decide) (by decide)) (f 5 (by decide) (by decide) (by decide)) (f 6 (by decide) (by decide) (by decide)) (f 7 (by decide) (by decide) (by decide)) (f 8 (by decide) (by decide) (by decide)) k8, CW_fr2 (fun p q1 q2 => f p (by omega) (by omega) (by omega)) k9⟩
    · rw [f 0 (by decide) (by decide) (by decide)]; exact k3
    · rw [f 0 (by decide) (by decide) (by decide)]; exact k5
    · rw [f3 31 (by decide) (by decide), e2, hset_ne2 (by decide), e1, hset_at]
    · rw [f3 31 (by decide) (by decide)]; exact r4
    · have := sl (N + j) (by omega)
      rw [show (nx + 15 - (N + j)) % 16 = ((nx + 16 - N) % 16 + 15 - j) % 16 by omega] at this
      exact slotC_fr (f3 32 (by decide) (by decide)) (f3 33 (by decide) (by decide)) (f3 34 (by decide) (by decide)) this
  have C : Jyn_undo (nI N) h = some (nI s'.1, h3) := by
    unfold Jyn_undo
    rw [if_neg c1, if_neg c2]
    unfold Jpa_goBackBy
    rw [if_neg c1, u1, if_neg (nI_nlt (by omega) (by omega)), nI_sub (by omega), lt_of', ← e1, r1, ar, lt_of', ← e2, r4, a1, bd_some, bd_some]
    dsimp only
    rw [if_neg one0, size_at a2, bd_some]
  obtain ⟨g1, g2, g3, g4, g5, ⟨w1, w2, w3⟩, g7, g8⟩ := mdI_C (fun p hp => f p (by omega) (by omega) (by omega)) d
  obtain ⟨r, l1, l2⟩ := loop_cnt (fun x => Jm_undo_L29 (nI N) x.1 x.2) (fun i x => x.1 = nI i ∧ (∀ j, j < i → ∀ t, t < 8 → x.2 38 (8 * j + t) = h3 38 (8 * (j + N) + t)) ∧ (∀ j, 8 * i ≤ j → x.2 38 j = h3 38 j) ∧ ∀ p, p ≠ 38 → x.2 p = h3 p) (fun x => (∀ j, j < 17 - N → ∀ t, t < 8 → x.2 38 (8 * j + t) = h3 38 (8 * (j + N) + t)) ∧ (∀ j, 8 * (17 - N) ≤ j → x.2 38 j = h3 38 j) ∧ ∀ p, p ≠ 38 → x.2 p = h3 p) (17 - N) (fun i x hi hx => by
    obtain ⟨a, x⟩ := x
    obtain ⟨e, y1, y2, y3⟩ := hx
    replace e : a = nI i := e
    subst e
    replace y1 : ∀ j, j < i → ∀ t, t < 8 → x 38 (8 * j + t) = h3 38 (8 * (j + N) + t) := y1
    replace y2 : ∀ j, 8 * i ≤ j → x 38 j = h3 38 j := y2
    replace y3 : ∀ p, p ≠ 38 → x p = h3 p := y3
    obtain ⟨x', b1, b2, b3⟩ := copy_at (h := x) (a := 8 * (i + N)) (b := 8 * i) (by omega) (by omega) (by omega)
    have w := FJm_copyRow _ _ _ _ b1
    refine Or.inl ⟨(nI (i + 1), x'), ?_, rfl, fun j hj t ht => ?_, fun j hj => ?_, fun p hp => ?_⟩
    · show Jm_undo_L29 (nI N) (nI i) x = _
      unfold Jm_undo_L29
      rw [nI_add, if_neg (show ¬ (16 : Int32) < nI (i + N) from nI_nlt (a := 16) (by omega) (by decide)), show (8 : Int32) * nI (i + N) = nI (8 * (i + N)) from nI_mul 8 _, show (8 : Int32) * nI i = nI (8 * i) from nI_mul 8 _, b1, bd_some, show nI i + (1 : Int32) = nI (i + 1) from nI_add i 1]
    · show x' 38 _ = _
      by_cases z : j = i
      · rw [z, b2 t ht]
        exact y2 _ (by omega)
      · rw [b3 _ (by omega)]
        exact y1 j (by omega) t ht
    · show x' 38 j = _
      rw [b3 _ (by omega)]
      exact y2 j (by omega)
    · have hq : p ∉ SJm_copyRow := by
        intro z
        rw [show SJm_copyRow = [38] from rfl] at z
        exact hp (List.mem_singleton.mp z)
      exact (w p hq).trans (y3 p hp)) (fun x hx => by
    obtain ⟨a, x⟩ := x
    obtain ⟨e, y1, y2, y3⟩ := hx
    replace e : a = nI (17 - N) := e
    subst e
    refine ⟨(nI (17 - N), x), ?_, y1, y2, y3⟩
    show Jm_undo_L29 (nI N) (nI (17 - N)) x = _
    unfold Jm_undo_L29
    rw [nI_add, if_pos (show (16 : Int32) < nI (17 - N + N) from nI_lt (a := 16) (by omega) (by omega))]) (F := 1000000) (by omega) (a := 0) (by omega) (s := (0, h3)) ⟨rfl, fun j hj => absurd hj (Nat.not_lt_zero j), fun j _ => rfl, fun p _ => rfl⟩
  obtain ⟨a, x⟩ := r
  obtain ⟨y1, y2, y3⟩ := l2
  replace y1 : ∀ j, j < 17 - N → ∀ t, t < 8 → x 38 (8 * j + t) = h3 38 (8 * (j + N) + t) := y1
  replace y2 : ∀ j, 8 * (17 - N) ≤ j → x 38 j = h3 38 j := y2
  replace y3 : ∀ p, p ≠ 38 → x p = h3 p := y3
  obtain ⟨h4, e4⟩ : ∃ y, y = hset x 37 1 (nI (u - N)) := ⟨_, rfl⟩
  obtain ⟨h5, e5⟩ : ∃ y, y = hset h4 37 23 0 := ⟨_, rfl⟩
  have f5 : ∀ p, p ≠ 37 → p ≠ 38 → h5 p = h3 p := fun p hp hp2 => by rw [e5, hset_ne hp, e4, hset_ne hp, y3 p hp2]
  have f37 : ∀ k, k ≠ 1 → k ≠ 23 → h5 37 k = h3 37 k := fun k p p2 => by rw [e5, hset_ne2 p2, e4, hset_ne2 p, y3 37 (by decide)]
  have f38 : h5 38 = x 38 := by rw [e5, hset_ne (by decide), e4, hset_ne (by decide)]
  have rw1 : ∀ j t, t < 8 → j < 17 - N → h5 38 (8 * j + t) = h3 38 (8 * (j + N) + t) := fun j t ht hj => by rw [f38]; exact y1 j hj t ht
  have row0 : rowM h5 0 s' := by
    have := w3 (N - 1) (by omega)
    rw [← es, show N - 1 + 1 = N by omega] at this
    refine rowM_of (a := 8 * N) os'.1 (fun i hi => ?_) this
    have z := rw1 0 i hi (by omega)
    rw [Nat.mul_zero] at z
    rw [z, Nat.zero_add]
  have e1' : x 37 1 = nI u := by rw [y3 37 (by decide)]; exact w1
  refine ⟨nI s'.1, h3, h5, C, ?_, (s', (m, T), F, (n, K, V), sd, (u - N, fun j => U (N + j)), (G, I, E)), ⟨os', o2, o3, o4, fun j hj => o5 _ (by omega), o6⟩, clI_M (fun p hp => f5 p (by omega) (by omega)) cl, ⟨row0, Or.inl ?_⟩, txM_fr (f37 6 (by decide) (by decide)) (f5 40 (by decide) (by decide)) g2, (f37 7 (by decide) (by decide)).trans g3, bkM_fr (f37 10 (by decide) (by decide)) (f5 41 (by decide) (by decide)) (f5 42 (by decide) (by decide)) g4, (f37 3 (by decide) (by decide)).trans g5, ⟨?_, by omega, fun j hj => ?_⟩, ⟨(f37 2 (by decide) (by decide)).trans g7.1, fun i hi z => ⟨?_, ?_⟩⟩, MC_fr (f37 12 (by decide) (by decide)) (f5 43 (by decide) (by decide)) (f37 14 (by decide) (by decide)) (f5 44 (by decide) (by decide)) (f37 16 (by decide) (by decide)) (f5 45 (by decide) (by decide)) g8⟩
  · unfold Jm_undo
    rw [iN, bd_some, if_neg one0, w1, if_neg (nI_nlt (by omega) (by omega)), l1, bd_some]
    dsimp only
    rw [e1', nI_sub (by omega), lt_of', ← e4, lt_of', ← e5, row0.1]
  · rw [e5, hset_at]; rfl
  · rw [e5, hset_ne2 (by decide), e4, hset_at]
  · have := w3 (N + j) (by omega)
    refine rowM_of (a := 8 * (N + j + 1)) (o5 (N + j) (by omega)).1 (fun i hi => ?_) this
    rw [rw1 (j + 1) i hi (by omega), show j + 1 + N = N + j + 1 by omega]
  · refine rowM_eq (o6 i hi z).1.1 (fun t ht => ?_) (g7.2 i hi z).1
    rw [f38]
    exact y2 _ (by omega)
  · rw [f5 39 (by decide) (by decide)]; exact (g7.2 i hi z).2
theorem vp_b1 : vp_nar .boolean 1 = 1 := by decide +kernel
def gb (a b : Bool) : Nat := (if a = true then 1 else 0) + (if b = true then 2 else 0)
def gN (G : Nat → Bool) : Nat := gb (G 0) (G 1)
theorem gN_or {G : Nat → Bool} {i : Nat} (hi : i < 2) : nI (gN G) ||| ((1 : Int32) <<< (nI i &&& 31)) = nI (gN (fun j => if j = i then true else G j)) := by
  rcases (show i = 0 ∨ i = 1 by omega) with rfl | rfl
  · show nI (gb (G 0) (G 1)) ||| ((1 : Int32) <<< (nI 0 &&& 31)) = nI (gb true (G 1))
    cases G 0 <;> cases G 1 <;> decide +kernel
  · show nI (gb (G 0) (G 1)) ||| ((1 : Int32) <<< (nI 1 &&& 31)) = nI (gb (G 0) true)
    cases G 0 <;> cases G 1 <;> decide +kernel
theorem gN_tl {G : Nat → Bool} {i : Nat} (hi : i < 2) : tl (gN G) i = if G i = true then 1 else 0 := by
  rcases (show i = 0 ∨ i = 1 by omega) with rfl | rfl
  · show tl (gb (G 0) (G 1)) 0 = if G 0 = true then 1 else 0
    cases G 0 <;> cases G 1 <;> decide +kernel
  · show tl (gb (G 0) (G 1)) 1 = if G 1 = true then 1 else 0
    cases G 0 <;> cases G 1 <;> decide +kernel
theorem gN_lt (G : Nat → Bool) : gN G < 4 := by
  show gb (G 0) (G 1) < 4
  cases G 0 <;> cases G 1 <;> decide +kernel
