/-! Images: keep, goBack. -/
theorem keep_inv {h : Hp} (v : Int32) (H : Inv h) : ∃ r h1 h2, Jyn_keep v h = some (r, h1) ∧ Jm_keep v h1 = some (r, h2) ∧ Inv h2 := by
  obtain ⟨⟨s, ⟨m, T⟩, F, ⟨n, K, V⟩, sd, ⟨u, U⟩, ⟨G, I, E⟩⟩, ok, c, d⟩ := id H
  by_cases q : v < 0
  · refine ⟨-1000000001, h, h, ?_, ?_, H⟩
    · unfold Jyn_keep
      rw [if_pos q]
    · unfold Jm_keep
      rw [show Jm_in (Int32.toInt64 v) 0 1 = some 0 from in_neg (a := 0) q (by decide) _, bd_some, if_pos rfl]
  obtain ⟨i, hi', rfl⟩ := nI_of q
  by_cases hi : i < 2
  · obtain ⟨c1, c2, c3, c4, c5, ⟨u1, u2, nx, x1, x2, x3⟩, c7, c8, c9⟩ := c
    obtain ⟨o1, o2, o3, o4, o5, o6⟩ := ok
    obtain ⟨S, hS, rfl⟩ := nI_of o4
    obtain ⟨h1, a1, a2, a3⟩ := save_at c1 o1.1 (k := 16 + i) (by omega)
    have fr := FJpa_save _ _ _ a1
    have f1 : ∀ p, p ≠ 32 → p ≠ 33 → p ≠ 34 → h1 p = h p := fun p x y z => fr p (by
      intro w
      rw [show SJpa_save = [32, 33, 34] from rfl] at w
      simp only [List.mem_cons, List.not_mem_nil, or_false] at w
      omega)
    obtain ⟨h2, e2⟩ : ∃ y, y = hset h1 31 3 0 := ⟨_, rfl⟩
    obtain ⟨h3, e3⟩ : ∃ y, y = hset h2 35 i (nI S) := ⟨_, rfl⟩
    obtain ⟨h4, e4⟩ : ∃ y, y = hset h3 36 i 1 := ⟨_, rfl⟩
    have f4 : ∀ p, p ≠ 31 → p ≠ 35 → p ≠ 36 → h4 p = h1 p := fun p x y z => by rw [e4, hset_ne z, e3, hset_ne y, e2, hset_ne x]
    have f : ∀ p, (p < 31 ∨ 36 < p) → h4 p = h p := fun p w => (f4 p (by omega) (by omega) (by omega)).trans (f1 p (by omega) (by omega) (by omega))
    have s8 : h2 0 8 = nI S := by rw [e2, hset_ne (by decide), f1 0 (by decide) (by decide) (by decide)]; exact c5
    have cl : clI h4 (s, (m, T), F, (n, K, V), nI S, (0, U), (fun j => if j = i then true else G j, fun j => if j = i then s else I j, fun j => if j = i then S else E j)) := by
      refine ⟨shC_fr (f 29 (by decide)) (f 30 (by decide)) c1, txC_fr (f 1 (by decide)) (f 2 (by decide)) c2, ?_, bkC_fr (f 26 (by decide)) (f 27 (by decide)) (f 28 (by decide)) c4, ?_, ⟨?_, by omega, nx, x1, ?_, fun j hj => absurd hj (Nat.not_lt_zero j)⟩, fun j hj => ?_, CP_fr (f 4 (by decide)) (f 5 (by decide)) (f 6 (by decide)) (f 7 (by decide)) (f 8 (by decide)) c8, CW_fr2 (fun p q1 q2 => f p (by omega)) c9⟩
      · rw [f 0 (by decide)]; exact c3
      · rw [f 0 (by decide)]; exact c5
      · rw [e4, hset_ne (by decide), e3, hset_ne (by decide), e2, hset_at]; rfl
      · rw [e4, hset_ne (by decide), e3, hset_ne (by decide), e2, hset_ne2 (by decide), f1 31 (by decide) (by decide) (by decide)]; exact x2
      · have sf : ∀ k s', slotC h1 k s' → slotC h4 k s' := fun k s' w => slotC_fr (f4 32 (by decide) (by decide) (by decide)) (f4 33 (by decide) (by decide) (by decide)) (f4 34 (by decide) (by decide) (by decide)) w
        show h4 36 j = nI (if (if j = i then true else G j) = true then 1 else 0) ∧ ((if j = i then true else G j) = true → slotC h4 (16 + j) (if j = i then s else I j) ∧ h4 35 j = nI (if j = i then S else E j))
        by_cases z : j = i
        · rw [if_pos z, if_pos z, if_pos z, z, e4, hset_at]
          refine ⟨rfl, fun _ => ⟨?_, ?_⟩⟩
          · rw [← e4]; exact sf _ _ a2
          · rw [hset_ne (by decide), e3, hset_at]
        · rw [if_neg z, if_neg z, if_neg z]
          obtain ⟨y1, y2⟩ := c7 j hj
          refine ⟨?_, fun g => ⟨sf _ _ (a3 _ _ (by omega) (o6 j hj g).1.1 (y2 g).1), ?_⟩⟩
          · rw [e4, hset_ne2 z, e3, hset_ne (by decide), e2, hset_ne (by decide), f1 36 (by decide) (by decide) (by decide)]; exact y1
          · rw [e4, hset_ne (by decide), e3, hset_ne2 z, e2, hset_ne (by decide), f1 35 (by decide) (by decide) (by decide)]; exact (y2 g).2
    obtain ⟨g1, g2, g3, g4, g5, g6, g7, g8⟩ := mdI_C (fun p hp => f p (by omega)) d
    obtain ⟨k1, b1, b2, b3⟩ := copy_at (h := h4) (a := 0) (b := 136 + 8 * i) (by omega) (by omega) (by omega)
    have w := FJm_copyRow _ _ _ _ b1
    have t1 : ∀ p, p ≠ 38 → k1 p = h4 p := fun p hp => w p (by
      intro z
      rw [show SJm_copyRow = [38] from rfl] at z
      exact hp (List.mem_singleton.mp z))
    obtain ⟨k2, i2⟩ : ∃ y, y = hset k1 39 i (nI S) := ⟨_, rfl⟩
    obtain ⟨k3, i3⟩ : ∃ y, y = hset k2 37 2 (nI (gN (fun j => if j = i then true else G j))) := ⟨_, rfl⟩
    obtain ⟨k4, i4⟩ : ∃ y, y = hset k3 37 1 0 := ⟨_, rfl⟩
    have t2 : ∀ p, p ≠ 37 → p ≠ 39 → k4 p = k1 p := fun p x y => by rw [i4, hset_ne x, i3, hset_ne x, i2, hset_ne y]
    have t : ∀ p, p ≠ 37 → p ≠ 38 → p ≠ 39 → k4 p = h4 p := fun p x y z => (t2 p x z).trans (t1 p y)
    have t37 : ∀ k, k ≠ 1 → k ≠ 2 → k4 37 k = h4 37 k := fun k x y => by rw [i4, hset_ne2 x, i3, hset_ne2 y, i2, hset_ne (by decide), t1 37 (by decide)]
    have y3 : k1 37 3 = nI S := by rw [t1 37 (by decide)]; exact g5
    have y2 : k2 37 2 = nI (gN G) := by rw [i2, hset_ne (by decide), t1 37 (by decide)]; exact g7.1
    have e23 := t37 23 (by decide) (by decide)
    refine ⟨1, h4, k4, ?_, ?_, (s, (m, T), F, (n, K, V), nI S, (0, U), (fun j => if j = i then true else G j, fun j => if j = i then s else I j, fun j => if j = i then S else E j)), ⟨o1, o2, o3, o4, fun j hj => absurd hj (Nat.not_lt_zero j), fun j hj g => ?_⟩, clI_M (fun p hp => t p (by omega) (by omega) (by omega)) cl, ⟨rowM_eq o1.1 (fun x hx => by rw [t2 38 (by decide) (by decide), b3 _ (by omega)]) g1.1, ?_⟩, txM_fr (t37 6 (by decide) (by decide)) (t 40 (by decide) (by decide) (by decide)) g2, (t37 7 (by decide) (by decide)).trans g3, bkM_fr (t37 10 (by decide) (by decide)) (t 41 (by decide) (by decide) (by decide)) (t 42 (by decide) (by decide) (by decide)) g4, (t37 3 (by decide) (by decide)).trans g5, ⟨?_, by omega, fun j hj => absurd hj (Nat.not_lt_zero j)⟩, ⟨?_, fun j hj => ?_⟩, MC_fr (t37 12 (by decide) (by decide)) (t 43 (by decide) (by decide) (by decide)) (t37 14 (by decide) (by decide)) (t 44 (by decide) (by decide) (by decide)) (t37 16 (by decide) (by decide)) (t 45 (by decide) (by decide) (by decide)) g8⟩
    · unfold Jyn_keep
      rw [if_neg q, if_pos (show nI i < (2 : Int32) from nI_lt (b := 2) hi (by decide))]
      unfold Jpa_saveImage
      rw [show (16 : Int32) + nI i = nI (16 + i) from nI_add 16 i, a1, bd_some, lt_of', ← e2, bd_some, ib_nI hi (by omega), cond_true, lt_of', nI_clamp (by omega), s8, ← e3, cond_true, lt_of', vp_b1, ← e4]
    · unfold Jm_keep
      rw [show Jm_in (Int32.toInt64 (nI i)) 0 1 = some 1 from in_yes (a := 0) (b := 1) (by omega) (by omega) (by decide), bd_some, if_neg one0, show (8 : Int32) * nI i = nI (8 * i) from nI_mul 8 i, show (136 : Int32) + nI (8 * i) = nI (136 + 8 * i) from nI_add 136 _, show Jm_copyRow 0 (nI (136 + 8 * i)) h4 = some k1 from b1, bd_some, ib_nI hi (by omega), cond_true, lt_of', nI_clamp (by omega), y3, ← i2, lt_of', y2, gN_or hi, ← i3, lt_of', ← i4]
    · show okS (if j = i then s else I j) ∧ (if j = i then S else E j) < 2 ^ 31
      by_cases z : j = i
      · rw [if_pos z, if_pos z]; exact ⟨o1, hS⟩
      · rw [if_neg z, if_neg z]
        have g : (if j = i then true else G j) = true := g
        rw [if_neg z] at g
        exact o6 j hj g
    · rw [e23]
      rcases g1.2 with w | w
      · exact Or.inl w
      · exact Or.inr (MF_fr e23 (fun k => by rw [t 46 (by decide) (by decide) (by decide)]) (fun k => by rw [t 47 (by decide) (by decide) (by decide)]) (fun k => by rw [t 48 (by decide) (by decide) (by decide)]) (fun k => by rw [t 49 (by decide) (by decide) (by decide)]) w)
    · rw [i4, hset_at]; rfl
    · show k4 37 2 = nI (gN (fun j => if j = i then true else G j))
      rw [i4, hset_ne2 (by decide), i3, hset_at]
    · show (if j = i then true else G j) = true → rowM k4 (136 + 8 * j) (if j = i then s else I j) ∧ k4 39 j = nI (if j = i then S else E j)
      have k39 : k4 39 = k2 39 := by rw [i4, hset_ne (by decide), i3, hset_ne (by decide)]
      by_cases z : j = i
      · rw [if_pos z, if_pos z, if_pos z]
        refine fun _ => ⟨?_, ?_⟩
        · rw [z]
          refine rowM_of (a := 0) o1.1 (fun x hx => ?_) g1.1
          rw [t2 38 (by decide) (by decide), b2 x hx]
        · rw [k39, i2, z, hset_at]
      · rw [if_neg z, if_neg z, if_neg z]
        refine fun g => ⟨rowM_eq (o6 j hj g).1.1 (fun x hx => ?_) (g7.2 j hj g).1, ?_⟩
        · rw [t2 38 (by decide) (by decide), b3 _ (by omega)]
        · rw [k39, i2, hset_ne2 z, t1 39 (by decide)]; exact (g7.2 j hj g).2
  · refine ⟨-1000000001, h, h, ?_, ?_, H⟩
    · unfold Jyn_keep
      rw [if_neg q, if_neg (show ¬ nI i < (2 : Int32) from nI_nlt (b := 2) (by omega) hi')]
    · unfold Jm_keep
      rw [show Jm_in (Int32.toInt64 (nI i)) 0 1 = some 0 from in_high (b := 1) 0 (by omega) hi' (by decide), bd_some, if_pos rfl]
theorem goBack_inv {h : Hp} (v : Int32) (H : Inv h) : ∃ r h1 h2, Jyn_goBack v h = some (r, h1) ∧ Jm_goBack v h1 = some (r, h2) ∧ Inv h2 := by
  obtain ⟨⟨s, ⟨m, T⟩, F, ⟨n, K, V⟩, sd, ⟨u, U⟩, ⟨G, I, E⟩⟩, ok, c, d⟩ := id H
  by_cases q : v < 0
  · refine ⟨-1000000001, h, h, ?_, ?_, H⟩
    · unfold Jyn_goBack
      rw [if_pos q]
    · unfold Jm_goBack
      rw [show Jm_in (Int32.toInt64 v) 0 1 = some 0 from in_neg (a := 0) q (by decide) _, bd_some, if_pos rfl]
  obtain ⟨i, hi', rfl⟩ := nI_of q
  by_cases hi : i < 2
  · obtain ⟨c1, c2, c3, c4, c5, ⟨u1, u2, nx, x1, x2, x3⟩, c7, c8, c9⟩ := c
    obtain ⟨o1, o2, o3, o4, o5, o6⟩ := ok
    have l2 : nI i < (2 : Int32) := nI_lt (b := 2) hi (by decide)
    have i1 : Jm_in (Int32.toInt64 (nI i)) 0 1 = some 1 := in_yes (a := 0) (b := 1) (by omega) (by omega) (by decide)
    have g4 := gN_lt G
    have hm2 : h 37 2 = nI (gN G) := d.2.2.2.2.2.2.1.1
    obtain ⟨z1, z2⟩ := c7 i hi
    cases gi : G i with
    | false =>
      rw [gi] at z1
      refine ⟨-1000000003, h, h, ?_, ?_, H⟩
      · unfold Jyn_goBack
        rw [if_neg q, if_pos l2, ib_nI hi (by omega), cond_true, nI_clamp (by omega), z1, if_pos (show nI (if false = true then 1 else 0) = 0 from rfl)]
      · unfold Jm_goBack
        rw [i1, bd_some, if_neg one0, hm2, has_tl (by omega) (by omega), bd_some, gN_tl hi, gi, if_pos (show nI (if false = true then 1 else 0) = 0 from rfl)]
    | true =>
      rw [gi] at z1
      obtain ⟨y1, y2⟩ := z2 gi
      obtain ⟨w1, w2⟩ := o6 i hi gi
      obtain ⟨h1, a1, a2⟩ := load_at (k := 16 + i) (by omega) w1.1 y1
      have fr := FJpa_load _ _ _ a1
      have f1 : ∀ p, p ≠ 29 → p ≠ 30 → h1 p = h p := fun p x y => fr p (by
        intro z
        rw [show SJpa_load = [29, 30] from rfl] at z
        simp only [List.mem_cons, List.not_mem_nil, or_false] at z
        omega)
      obtain ⟨h2, e2⟩ : ∃ y, y = hset h1 31 3 0 := ⟨_, rfl⟩
      obtain ⟨h3, e3⟩ : ∃ y, y = hset h2 0 8 (nI (E i)) := ⟨_, rfl⟩
      have f : ∀ p, p ≠ 0 → p ≠ 29 → p ≠ 30 → p ≠ 31 → h3 p = h p := fun p x y z w => by rw [e3, hset_ne x, e2, hset_ne w, f1 p y z]
      have s35 : h2 35 i = nI (E i) := by rw [e2, hset_ne (by decide), f1 35 (by decide) (by decide)]; exact y2
      have cl : clI h3 (I i, (m, T), F, (n, K, V), nI (E i), (0, U), (G, I, E)) := by
        refine ⟨shC_fr (h := h1) (by rw [e3, hset_ne (by decide), e2, hset_ne (by decide)]) (by rw [e3, hset_ne (by decide), e2, hset_ne (by decide)]) a2, txC_fr (f 1 (by decide) (by decide) (by decide) (by decide)) (f 2 (by decide) (by decide) (by decide) (by decide)) c2, ?_, bkC_fr (f 26 (by decide) (by decide) (by decide) (by decide)) (f 27 (by decide) (by decide) (by decide) (by decide)) (f 28 (by decide) (by decide) (by decide) (by decide)) c4, ?_, ⟨?_, by omega, nx, x1, ?_, fun j hj => absurd hj (Nat.not_lt_zero j)⟩, imC_fr (f 32 (by decide) (by decide) (by decide) (by decide)) (f 33 (by decide) (by decide) (by decide) (by decide)) (f 34 (by decide) (by decide) (by decide) (by decide)) (f 35 (by decide) (by decide) (by decide) (by decide)) (f 36 (by decide) (by decide) (by decide) (by decide)) c7, CP_fr (f 4 (by decide) (by decide) (by decide) (by decide)) (f 5 (by decide) (by decide) (by decide) (by decide)) (f 6 (by decide) (by decide) (by decide) (by decide)) (f 7 (by decide) (by decide) (by decide) (by decide)) (f 8 (by decide) (by decide) (by decide) (by decide)) c8, CW_fr2 (fun p q1 q2 => f p (by omega) (by omega) (by omega) (by omega)) c9⟩
        · rw [e3, hset_ne2 (by decide), e2, hset_ne (by decide), f1 0 (by decide) (by decide)]; exact c3
        · rw [e3, hset_at]
        · rw [e3, hset_ne (by decide), e2, hset_at]; rfl
        · rw [e3, hset_ne (by decide), e2, hset_ne2 (by decide), f1 31 (by decide) (by decide)]; exact x2
      obtain ⟨g1, g2, g3, g4', g5, g6, g7, g8⟩ := mdI_C (h' := h3) (fun p hp => f p (by omega) (by omega) (by omega) (by omega)) d
      obtain ⟨k1, b1, b2, b3⟩ := copy_at (h := h3) (a := 136 + 8 * i) (b := 0) (by omega) (by omega) (by omega)
      have w := FJm_copyRow _ _ _ _ b1
      have t1 : ∀ p, p ≠ 38 → k1 p = h3 p := fun p hp => w p (by
        intro z
        rw [show SJm_copyRow = [38] from rfl] at z
        exact hp (List.mem_singleton.mp z))
      obtain ⟨r1, r2⟩ := g7.2 i hi gi
      have y39 : k1 39 i = nI (E i) := by rw [t1 39 (by decide)]; exact r2
      obtain ⟨k2, i2⟩ : ∃ y, y = hset k1 37 3 (nI (E i)) := ⟨_, rfl⟩
      obtain ⟨k3, i3⟩ : ∃ y, y = hset k2 37 1 0 := ⟨_, rfl⟩
      obtain ⟨k4, i4⟩ : ∃ y, y = hset k3 37 23 0 := ⟨_, rfl⟩
      have t2 : ∀ p, p ≠ 37 → k4 p = k1 p := fun p x => by rw [i4, hset_ne x, i3, hset_ne x, i2, hset_ne x]
      have t : ∀ p, p ≠ 37 → p ≠ 38 → k4 p = h3 p := fun p x y => (t2 p x).trans (t1 p y)
      have t37 : ∀ k, k ≠ 1 → k ≠ 3 → k ≠ 23 → k4 37 k = h3 37 k := fun k x y z => by rw [i4, hset_ne2 z, i3, hset_ne2 x, i2, hset_ne2 y, t1 37 (by decide)]
      refine ⟨1, h3, k4, ?_, ?_, (I i, (m, T), F, (n, K, V), nI (E i), (0, U), (G, I, E)), ⟨w1, o2, o3, nI_pos w2, fun j hj => absurd hj (Nat.not_lt_zero j), o6⟩, clI_M (fun p hp => t p (by omega) (by omega)) cl, ⟨rowM_of (a := 136 + 8 * i) w1.1 (fun x hx => by rw [t2 38 (by decide), b2 x hx]) r1, Or.inl ?_⟩, txM_fr (t37 6 (by decide) (by decide) (by decide)) (t 40 (by decide) (by decide)) g2, (t37 7 (by decide) (by decide) (by decide)).trans g3, bkM_fr (t37 10 (by decide) (by decide) (by decide)) (t 41 (by decide) (by decide)) (t 42 (by decide) (by decide)) g4', ?_, ⟨?_, by omega, fun j hj => absurd hj (Nat.not_lt_zero j)⟩, ⟨(t37 2 (by decide) (by decide) (by decide)).trans g7.1, fun j hj g => ⟨rowM_eq (o6 j hj g).1.1 (fun x hx => by rw [t2 38 (by decide), b3 _ (by omega)]) (g7.2 j hj g).1, by rw [t 39 (by decide) (by decide)]; exact (g7.2 j hj g).2⟩⟩, MC_fr (t37 12 (by decide) (by decide) (by decide)) (t 43 (by decide) (by decide)) (t37 14 (by decide) (by decide) (by decide)) (t 44 (by decide) (by decide)) (t37 16 (by decide) (by decide) (by decide)) (t 45 (by decide) (by decide)) g8⟩
      · unfold Jyn_goBack
        rw [if_neg q, if_pos l2, ib_nI hi (by omega), cond_true, nI_clamp (by omega), z1, if_neg (show ¬ nI (if true = true then 1 else 0) = 0 from n1_0)]
        unfold Jpa_loadImage
        rw [show (16 : Int32) + nI i = nI (16 + i) from nI_add 16 i, a1, bd_some, lt_of', ← e2, bd_some, cond_true, s35, lt_of', ← e3]
      · unfold Jm_goBack
        rw [i1, bd_some, if_neg one0, show h3 37 2 = nI (gN G) from g7.1, has_tl (by omega) (by omega), bd_some, gN_tl hi, gi, if_neg (show ¬ nI (if true = true then 1 else 0) = 0 from n1_0), show (8 : Int32) * nI i = nI (8 * i) from nI_mul 8 i, show (136 : Int32) + nI (8 * i) = nI (136 + 8 * i) from nI_add 136 _, show Jm_copyRow (nI (136 + 8 * i)) 0 h3 = some k1 from b1, bd_some, ib_nI hi (by omega), cond_true, nI_clamp (by omega), y39, lt_of', ← i2, lt_of', ← i3, lt_of', ← i4]
      · rw [i4, hset_at]; rfl
      · rw [i4, hset_ne2 (by decide), i3, hset_ne2 (by decide), i2, hset_at]
      · rw [i4, hset_ne2 (by decide), i3, hset_at]; rfl
  · refine ⟨-1000000001, h, h, ?_, ?_, H⟩
    · unfold Jyn_goBack
      rw [if_neg q, if_neg (show ¬ nI i < (2 : Int32) from nI_nlt (b := 2) (by omega) hi')]
    · unfold Jm_goBack
      rw [show Jm_in (Int32.toInt64 (nI i)) 0 1 = some 0 from in_high (b := 1) 0 (by omega) hi' (by decide), bd_some, if_pos rfl]
