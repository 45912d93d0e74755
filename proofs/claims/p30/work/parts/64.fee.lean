/-! Calls: feed, write, tear, seed, fault. -/
theorem CW_fr2 {h h' : Hp} (f : ∀ p, 9 < p → p < 26 → h' p = h p) (H : CW h) : CW h' := by
  have e : ∀ {p}, 9 < p → p < 26 → ∀ k, h' p k = h p k := fun a b k => by rw [f _ a b]
  rcases H with H | ⟨s0, ln, a, b, c, d⟩
  · exact Or.inl ((e (by decide) (by decide) 8).trans H)
  · exact Or.inr ⟨s0, ln, a, CF_fr (e (by decide) (by decide) 8) (e (by decide) (by decide) 9) (e (by decide) (by decide) 12) (e (by decide) (by decide) 13) (e (by decide) (by decide)) (e (by decide) (by decide)) (e (by decide) (by decide)) (e (by decide) (by decide)) (e (by decide) (by decide)) b, c, WF_fr (e (by decide) (by decide)) (e (by decide) (by decide)) (e (by decide) (by decide)) d⟩
/-- the class: text, book, seed, fault stand aside -/
theorem cl_fr {h h' : Hp} {s : Sh} {u : Nat} {U : Nat → Sh} {G : Nat → Bool} {I : Nat → Sh} {E : Nat → Nat} (f : ∀ p, (3 < p ∧ p < 26) ∨ (28 < p ∧ p < 37) → h' p = h p) (a : shC h s) (b : undC h u U) (c : imC h G I E) (d : CP h) (w : CW h) : shC h' s ∧ undC h' u U ∧ imC h' G I E ∧ CP h' ∧ CW h' := by
  have e : ∀ {p}, ((3 < p ∧ p < 26) ∨ (28 < p ∧ p < 37)) → h' p = h p := fun q => f _ q
  exact ⟨shC_fr (e (by decide)) (e (by decide)) a, undC_fr (e (by decide)) (e (by decide)) (e (by decide)) (e (by decide)) b, imC_fr (e (by decide)) (e (by decide)) (e (by decide)) (e (by decide)) (e (by decide)) c, CP_fr (e (by decide)) (e (by decide)) (e (by decide)) (e (by decide)) (e (by decide)) d, CW_fr2 (fun p q1 q2 => f p (by omega)) w⟩
/-- the model: text, book, seed, fault stand aside -/
theorem md_fr {h h' : Hp} {s : Sh} {u : Nat} {U : Nat → Sh} {G : Nat → Bool} {I : Nat → Sh} {E : Nat → Nat} (f : ∀ p, (37 < p ∧ p < 40) ∨ (42 < p ∧ p < 52) → h' p = h p) (g : ∀ k, k ≠ 3 → k ≠ 6 → k ≠ 7 → k ≠ 10 → h' 37 k = h 37 k) (a : mdS h s) (b : undM h u U) (c : imM h G I E) (d : MC h) : mdS h' s ∧ undM h' u U ∧ imM h' G I E ∧ MC h' := by
  have e : ∀ {p}, ((37 < p ∧ p < 40) ∨ (42 < p ∧ p < 52)) → h' p = h p := fun q => f _ q
  have e3 : ∀ {k}, k ≠ 3 → k ≠ 6 → k ≠ 7 → k ≠ 10 → h' 37 k = h 37 k := fun q1 q2 q3 q4 => g _ q1 q2 q3 q4
  refine ⟨⟨rowM_fr (e (by decide)) a.1, ?_⟩, undM_fr (e (by decide)) (e3 (by decide) (by decide) (by decide) (by decide)) b, imM_fr (e (by decide)) (e (by decide)) (e3 (by decide) (by decide) (by decide) (by decide)) c, MC_fr (e3 (by decide) (by decide) (by decide) (by decide)) (e (by decide)) (e3 (by decide) (by decide) (by decide) (by decide)) (e (by decide)) (e3 (by decide) (by decide) (by decide) (by decide)) (e (by decide)) d⟩
  have e23 : h' 37 23 = h 37 23 := e3 (by decide) (by decide) (by decide) (by decide)
  rw [e23]
  rcases a.2 with w | w
  · exact Or.inl w
  · exact Or.inr (MF_fr e23 (fun k => by rw [e (p := 46) (by decide)]) (fun k => by rw [e (p := 47) (by decide)]) (fun k => by rw [e (p := 48) (by decide)]) (fun k => by rw [e (p := 49) (by decide)]) w)
theorem feed_inv {h : Hp} (v : Int32) (H : Inv h) : ∃ r h1 h2, Jyn_feed v h = some (r, h1) ∧ Jm_feed v h1 = some (r, h2) ∧ Inv h2 := by
  obtain ⟨⟨s, ⟨m, T⟩, F, ⟨n, K, V⟩, sd, ⟨u, U⟩, ⟨G, I, E⟩⟩, ok, c, d⟩ := H
  obtain ⟨c1, c2, c3, c4, c5, c6, c7, c8, c9⟩ := id c
  obtain ⟨d1, d2, d3, d4, d5, d6, d7, d8⟩ := id d
  obtain ⟨o1, ⟨o2, o2'⟩, o3, o4, o5, o6⟩ := id ok
  by_cases q : v < 0
  · have i2 : Jm_in (Int32.toInt64 v) 0 255 = some 0 := in_neg (a := 0) q (by decide) _
    refine ⟨-1000000002, h, h, ?_, ?_, ⟨_, ok, c, d⟩⟩
    · unfold Jyn_feed
      rw [if_pos q]
    · unfold Jm_feed
      rw [i2, bd_some, if_pos (by decide)]
  obtain ⟨k, hk, rfl⟩ := nI_of q
  by_cases z : k < 256
  · have i2 : Jm_in (Int32.toInt64 (nI k)) 0 255 = some 1 := in_yes (a := 0) (b := 255) (by omega) (by omega) (by decide)
    by_cases q6 : m = 60
    · subst q6
      refine ⟨-1000000004, h, h, ?_, ?_, ⟨_, ok, c, d⟩⟩
      · have w := c2.1
        unfold Jyn_feed
        rw [if_neg (nI_pos hk), if_neg (show ¬ (255 : Int32) < nI k from nI_nlt (a := 255) (by omega) (by decide))]
        unfold Jfm_type
        rw [w, if_neg (nI_pos (by decide)), if_neg (show ¬ nI 60 < (60 : Int32) from nI_nlt (by omega) (by decide)), bd_some, if_pos rfl]
      · unfold Jm_feed
        rw [i2, bd_some, if_neg (by decide), d2.1, if_pos (show nI 60 = (60 : Int32) from rfl)]
    · have hm : m < 60 := by omega
      have a1 := feed_C c2 hm z
      obtain ⟨h1, e1⟩ : ∃ x, x = hset (hset h 2 m (nI k)) 1 2 (nI (m + 1)) := ⟨_, rfl⟩
      rw [← e1] at a1
      have f1 : ∀ p, p ≠ 1 → p ≠ 2 → h1 p = h p := fun p w1 w2 => by rw [e1, hset_ne w1, hset_ne w2]
      have d' := mdI_C (fun p w => f1 p (by omega) (by omega)) d
      obtain ⟨g1, g2, g3, g4, g5, g6, g7, g8⟩ := d'
      have a2 := feed_M g2 hm z
      obtain ⟨h2, e2⟩ : ∃ x, x = hset (hset h1 40 m (nI k)) 37 6 (nI (m + 1)) := ⟨_, rfl⟩
      rw [← e2] at a2
      have f2 : ∀ p, p ≠ 37 → p ≠ 40 → h2 p = h1 p := fun p w1 w2 => by rw [e2, hset_ne w1, hset_ne w2]
      have f3 : ∀ k, k ≠ 6 → h2 37 k = h1 37 k := fun k w => by rw [e2, hset_ne2 w, hset_ne (by decide)]
      obtain ⟨b1, b2, b3, b4, b5⟩ := cl_fr (h' := h1) (fun p w => f1 p (by omega) (by omega)) c1 c6 c7 c8 c9
      obtain ⟨b6, b7, b8, b9⟩ := md_fr (h' := h2) (fun p w => f2 p (by omega) (by omega)) (fun k w1 w2 w3 w4 => f3 k w2) g1 g6 g7 g8
      refine ⟨_, h1, h2, a1, a2, (s, (m + 1, fun i => if i = m then k else T i), F, (n, K, V), sd, (u, U), (G, I, E)), ⟨o1, ⟨by omega, fun i hi => ?_⟩, o3, o4, o5, o6⟩, clI_M (h := h1) (fun p w => f2 p (by omega) (by omega)) ⟨b1, ⟨?_, fun i hi => ?_⟩, ?_, bkC_fr (f1 26 (by decide) (by decide)) (f1 27 (by decide) (by decide)) (f1 28 (by decide) (by decide)) c4, ?_, b2, b3, b4, b5⟩, ⟨b6, ⟨?_, fun i hi => ?_⟩, (f3 7 (by decide)).trans g3, bkM_fr (f3 10 (by decide)) (f2 41 (by decide) (by decide)) (f2 42 (by decide) (by decide)) g4, (f3 3 (by decide)).trans g5, b7, b8, b9⟩⟩
      · show (if i = m then k else T i) < 256
        by_cases w : i = m
        · rw [if_pos w]; exact z
        · rw [if_neg w]; exact o2' i (by omega)
      · rw [e1, hset_at]
      · show h1 2 i = nI (if i = m then k else T i)
        rw [e1, hset_ne (by decide)]
        by_cases w : i = m
        · rw [if_pos w, w, hset_at]
        · rw [if_neg w, hset_ne2 w]; exact c2.2 i (by omega)
      · rw [f1 0 (by decide) (by decide)]; exact c3
      · rw [f1 0 (by decide) (by decide)]; exact c5
      · rw [e2, hset_at]
      · show h2 40 i = nI (if i = m then k else T i)
        rw [e2, hset_ne (by decide)]
        by_cases w : i = m
        · rw [if_pos w, w, hset_at]
        · rw [if_neg w, hset_ne2 w]; exact g2.2 i (by omega)
  · have i2 : Jm_in (Int32.toInt64 (nI k)) 0 255 = some 0 := in_high (b := 255) 0 (by omega) hk (by decide)
    refine ⟨-1000000002, h, h, ?_, ?_, ⟨_, ok, c, d⟩⟩
    · unfold Jyn_feed
      rw [if_neg (nI_pos hk), if_pos (show (255 : Int32) < nI k from nI_lt (a := 255) (by omega) hk)]
    · unfold Jm_feed
      rw [i2, bd_some, if_pos (by decide)]
theorem seed_inv {h : Hp} (v : Int32) (H : Inv h) : ∃ r h1 h2, Jyn_seed v h = some (r, h1) ∧ Jm_seed v h1 = some (r, h2) ∧ Inv h2 := by
  obtain ⟨⟨s, ⟨m, T⟩, F, ⟨n, K, V⟩, sd, ⟨u, U⟩, ⟨G, I, E⟩⟩, ok, c, d⟩ := H
  obtain ⟨c1, c2, c3, c4, c5, c6, c7, c8, c9⟩ := id c
  obtain ⟨o1, o2, o3, o4, o5, o6⟩ := id ok
  by_cases q : v < 0
  · refine ⟨-1000000002, h, h, ?_, ?_, ⟨_, ok, c, d⟩⟩
    · unfold Jyn_seed
      rw [if_pos q]
    · unfold Jm_seed
      rw [if_pos q]
  · obtain ⟨h1, e1⟩ : ∃ x, x = hset h 0 8 v := ⟨_, rfl⟩
    have f1 : ∀ p, p ≠ 0 → h1 p = h p := fun p w1 => by rw [e1, hset_ne w1]
    obtain ⟨g1, g2, g3, g4, g5, g6, g7, g8⟩ := mdI_C (fun p w => f1 p (by omega)) d
    obtain ⟨h2, e2⟩ : ∃ x, x = hset h1 37 3 v := ⟨_, rfl⟩
    have f2 : ∀ p, p ≠ 37 → h2 p = h1 p := fun p w1 => by rw [e2, hset_ne w1]
    have f3 : ∀ k, k ≠ 3 → h2 37 k = h1 37 k := fun k w => by rw [e2, hset_ne2 w]
    obtain ⟨b1, b2, b3, b4, b5⟩ := cl_fr (h' := h1) (fun p w => f1 p (by omega)) c1 c6 c7 c8 c9
    obtain ⟨b6, b7, b8, b9⟩ := md_fr (h' := h2) (fun p w => f2 p (by omega)) (fun k w1 w2 w3 w4 => f3 k w1) g1 g6 g7 g8
    refine ⟨sd, h1, h2, ?_, ?_, (s, (m, T), F, (n, K, V), v, (u, U), (G, I, E)), ⟨o1, o2, o3, q, o5, o6⟩, clI_M (h := h1) (fun p w => f2 p (by omega)) ⟨b1, txC_fr (f1 1 (by decide)) (f1 2 (by decide)) c2, ?_, bkC_fr (f1 26 (by decide)) (f1 27 (by decide)) (f1 28 (by decide)) c4, ?_, b2, b3, b4, b5⟩, ⟨b6, txM_fr (f3 6 (by decide)) (f2 40 (by decide)) g2, (f3 7 (by decide)).trans g3, bkM_fr (f3 10 (by decide)) (f2 41 (by decide)) (f2 42 (by decide)) g4, ?_, b7, b8, b9⟩⟩
    · unfold Jyn_seed
      rw [if_neg q, lt_of', ← e1, c5]
    · unfold Jm_seed
      rw [if_neg q, lt_of', ← e2, g5]
    · rw [e1, hset_ne2 (by decide)]; exact c3
    · rw [e1, hset_at]
    · rw [e2, hset_at]
theorem tear_inv {h : Hp} (H : Inv h) : ∃ r h1 h2, Jyn_tear h = some (r, h1) ∧ Jm_tear h1 = some (r, h2) ∧ Inv h2 := by
  obtain ⟨⟨s, ⟨m, T⟩, F, ⟨n, K, V⟩, sd, ⟨u, U⟩, ⟨G, I, E⟩⟩, ok, c, d⟩ := H
  obtain ⟨c1, c2, c3, c4, c5, c6, c7, c8, c9⟩ := id c
  obtain ⟨o1, o2, o3, o4, o5, o6⟩ := id ok
  obtain ⟨h1, e1⟩ : ∃ x, x = hset h 26 2 0 := ⟨_, rfl⟩
  have f1 : ∀ p, p ≠ 26 → h1 p = h p := fun p w1 => by rw [e1, hset_ne w1]
  obtain ⟨g1, g2, g3, g4, g5, g6, g7, g8⟩ := mdI_C (fun p w => f1 p (by omega)) d
  obtain ⟨h2, e2⟩ : ∃ x, x = hset h1 37 10 0 := ⟨_, rfl⟩
  have f2 : ∀ p, p ≠ 37 → h2 p = h1 p := fun p w1 => by rw [e2, hset_ne w1]
  have f3 : ∀ k, k ≠ 10 → h2 37 k = h1 37 k := fun k w => by rw [e2, hset_ne2 w]
  obtain ⟨b1, b2, b3, b4, b5⟩ := cl_fr (h' := h1) (fun p w => f1 p (by omega)) c1 c6 c7 c8 c9
  obtain ⟨b6, b7, b8, b9⟩ := md_fr (h' := h2) (fun p w => f2 p (by omega)) (fun k w1 w2 w3 w4 => f3 k w4) g1 g6 g7 g8
  refine ⟨nI n, h1, h2, ?_, ?_, (s, (m, T), F, (0, K, V), sd, (u, U), (G, I, E)), ⟨o1, o2, ⟨by decide, fun i hi => absurd hi (Nat.not_lt_zero i)⟩, o4, o5, o6⟩, clI_M (h := h1) (fun p w => f2 p (by omega)) ⟨b1, txC_fr (f1 1 (by decide)) (f1 2 (by decide)) c2, ?_, ⟨?_, fun i hi => absurd hi (Nat.not_lt_zero i)⟩, ?_, b2, b3, b4, b5⟩, ⟨b6, txM_fr (f3 6 (by decide)) (f2 40 (by decide)) g2, (f3 7 (by decide)).trans g3, ⟨?_, fun i hi => absurd hi (Nat.not_lt_zero i)⟩, (f3 3 (by decide)).trans g5, b7, b8, b9⟩⟩
  · unfold Jyn_tear Jbk_size Jbk_clear
    rw [bd_some, lt_of', bd_some, ← e1, c4.1]
  · unfold Jm_tear
    rw [lt_of', ← e2, g4.1]
  · rw [f1 0 (by decide)]; exact c3
  · rw [e1, hset_at]; rfl
  · rw [f1 0 (by decide)]; exact c5
  · rw [e2, hset_at]; rfl
theorem write_inv {h : Hp} (v x : Int32) (H : Inv h) : ∃ r h1 h2, Jyn_write v x h = some (r, h1) ∧ Jm_write v x h1 = some (r, h2) ∧ Inv h2 := by
  obtain ⟨⟨s, ⟨m, T⟩, F, ⟨n, K, V⟩, sd, ⟨u, U⟩, ⟨G, I, E⟩⟩, ok, c, d⟩ := H
  obtain ⟨c1, c2, c3, c4, c5, c6, c7, c8, c9⟩ := id c
  obtain ⟨d1, d2, d3, d4, d5, d6, d7, d8⟩ := id d
  obtain ⟨o1, o2, ⟨o3, o3'⟩, o4, o5, o6⟩ := id ok
  rcases code_or v with ⟨k, hk, rfl, i1, i2⟩ | ⟨i1, i2⟩
  · by_cases q : n = 20
    · subst q
      refine ⟨-1000000004, h, h, ?_, ?_, ⟨_, ok, c, d⟩⟩
      · unfold Jyn_write
        rw [i1, bd_some, if_neg (by decide)]
        unfold Jbk_add
        rw [c4.1, if_neg (nI_pos (by decide)), if_neg (show ¬ nI 20 < (20 : Int32) from nI_nlt (by omega) (by decide)), bd_some, if_pos rfl]
      · unfold Jm_write
        rw [i2, bd_some, if_neg (by decide), d4.1, if_pos (show nI 20 = (20 : Int32) from rfl)]
    · have hn : n < 20 := by omega
      obtain ⟨h1, e1⟩ : ∃ y, y = hset (hset (hset h 27 n (nI k)) 28 n x) 26 2 (nI (n + 1)) := ⟨_, rfl⟩
      have f1 : ∀ p, p ≠ 26 → p ≠ 27 → p ≠ 28 → h1 p = h p := fun p w1 w2 w3 => by rw [e1, hset_ne w1, hset_ne w3, hset_ne w2]
      obtain ⟨g1, g2, g3, g4, g5, g6, g7, g8⟩ := mdI_C (fun p w => f1 p (by omega) (by omega) (by omega)) d
      obtain ⟨h2, e2⟩ : ∃ y, y = hset (hset (hset h1 41 n (nI k)) 42 n x) 37 10 (nI (n + 1)) := ⟨_, rfl⟩
      have f2 : ∀ p, p ≠ 37 → p ≠ 41 → p ≠ 42 → h2 p = h1 p := fun p w1 w2 w3 => by rw [e2, hset_ne w1, hset_ne w3, hset_ne w2]
      have f3 : ∀ k, k ≠ 10 → h2 37 k = h1 37 k := fun k w => by rw [e2, hset_ne2 w, hset_ne (by decide), hset_ne (by decide)]
      obtain ⟨b1, b2, b3, b4, b5⟩ := cl_fr (h' := h1) (fun p w => f1 p (by omega) (by omega) (by omega)) c1 c6 c7 c8 c9
      obtain ⟨b6, b7, b8, b9⟩ := md_fr (h' := h2) (fun p w => f2 p (by omega) (by omega) (by omega)) (fun k w1 w2 w3 w4 => f3 k w4) g1 g6 g7 g8
      have w26 : ∀ a b c d, (hset (hset h 27 a b) 28 c d) 26 2 = nI n := fun a b c d => by rw [hset_ne (by decide), hset_ne (by decide)]; exact c4.1
      have w37 : ∀ a b c d, (hset (hset h1 41 a b) 42 c d) 37 10 = nI n := fun a b c d => by rw [hset_ne (by decide), hset_ne (by decide)]; exact g4.1
      refine ⟨nI (n + 1), h1, h2, ?_, ?_, (s, (m, T), F, (n + 1, fun i => if i = n then k else K i, fun i => if i = n then x else V i), sd, (u, U), (G, I, E)), ⟨o1, o2, ⟨by omega, fun i hi => ?_⟩, o4, o5, o6⟩, clI_M (h := h1) (fun p w => f2 p (by omega) (by omega) (by omega)) ⟨b1, txC_fr (f1 1 (by decide) (by decide) (by decide)) (f1 2 (by decide) (by decide) (by decide)) c2, ?_, ⟨?_, fun i hi => ?_⟩, ?_, b2, b3, b4, b5⟩, ⟨b6, txM_fr (f3 6 (by decide)) (f2 40 (by decide) (by decide) (by decide)) g2, (f3 7 (by decide)).trans g3, ⟨?_, fun i hi => ?_⟩, (f3 3 (by decide)).trans g5, b7, b8, b9⟩⟩
      · unfold Jyn_write
        rw [i1, bd_some, if_neg (by decide)]
        unfold Jbk_add
        rw [c4.1, if_neg (nI_pos (by omega)), if_pos (show nI n < (20 : Int32) from nI_lt (b := 20) hn (by decide)), ib_nI (by omega) (by omega), cond_true, lt_of', nI_clamp (by omega), show (hset h 27 n (nI k)) 26 2 = nI n by rw [hset_ne (by decide)]; exact c4.1, ib_nI (by omega) (by omega), cond_true, lt_of', nI_clamp (by omega), lt_of', w26, show nI n + (1 : Int32) = nI (n + 1) from nI_add n 1, ← e1, bd_some]
        dsimp only
        rw [if_neg (show ¬ (1 : Int32) = 0 by decide)]
        unfold Jbk_size
        rw [bd_some, e1, hset_at]
      · unfold Jm_write
        rw [i2, bd_some, if_neg (by decide), g4.1, if_neg (show ¬ nI n = (20 : Int32) from fun w => q ((nI_eq (b := 20) (by omega) (by decide)).mp w)), ib_nI (by omega) (by omega), cond_true, lt_of', nI_clamp (by omega), show (hset h1 41 n (nI k)) 37 10 = nI n by rw [hset_ne (by decide)]; exact g4.1, ib_nI (by omega) (by omega), cond_true, lt_of', nI_clamp (by omega), lt_of', w37, show nI n + (1 : Int32) = nI (n + 1) from nI_add n 1, ← e2, e2, hset_at]
      · show (if i = n then k else K i) < 256
        by_cases w : i = n
        · rw [if_pos w]; exact hk
        · rw [if_neg w]; exact o3' i (by omega)
      · rw [f1 0 (by decide) (by decide) (by decide)]; exact c3
      · rw [e1, hset_at]
      · show h1 27 i = nI (if i = n then k else K i) ∧ h1 28 i = (if i = n then x else V i)
        have x1 : h1 27 = (hset h 27 n (nI k)) 27 := by rw [e1, hset_ne (by decide), hset_ne (by decide)]
        have x2 : h1 28 = (hset (hset h 27 n (nI k)) 28 n x) 28 := by rw [e1, hset_ne (by decide)]
        rw [x1, x2]
        by_cases w : i = n
        · rw [if_pos w, if_pos w, w, hset_at, hset_at]; exact ⟨rfl, rfl⟩
        · rw [if_neg w, if_neg w, hset_ne2 w, hset_ne2 w, hset_ne (by decide)]; exact c4.2 i (by omega)
      · rw [f1 0 (by decide) (by decide) (by decide)]; exact c5
      · rw [e2, hset_at]
      · show h2 41 i = nI (if i = n then k else K i) ∧ h2 42 i = (if i = n then x else V i)
        have x1 : h2 41 = (hset h1 41 n (nI k)) 41 := by rw [e2, hset_ne (by decide), hset_ne (by decide)]
        have x2 : h2 42 = (hset (hset h1 41 n (nI k)) 42 n x) 42 := by rw [e2, hset_ne (by decide)]
        rw [x1, x2]
        by_cases w : i = n
        · rw [if_pos w, if_pos w, w, hset_at, hset_at]; exact ⟨rfl, rfl⟩
        · rw [if_neg w, if_neg w, hset_ne2 w, hset_ne2 w, hset_ne (by decide)]; exact g4.2 i (by omega)
  · refine ⟨-1000000002, h, h, ?_, ?_, ⟨_, ok, c, d⟩⟩
    · unfold Jyn_write
      rw [i1, bd_some, if_pos (by decide)]
    · unfold Jm_write
      rw [i2, bd_some, if_pos (by decide)]
