/-! The model's costs. -/
def isPts (s : Sh) (k c g x y z : Nat) : Prop := WayP (LV s (k - 1)) (s.2.1 g) k c x y z ∧ ∀ x' y' z', WayP (LV s (k - 1)) (s.2.1 g) k c x' y' z' → lex x y z x' y' z'
def MR (h : Hp) (s : Sh) (C : Nat → Option Nat) : Prop := ∀ c, c < 256 → (∀ k, C c = some k → h 46 c = nI k ∧ (k = 0 → h 49 c = nI 1) ∧ (0 < k → ∃ g x y z, isTop s k c g ∧ isPts s k c g x y z ∧ h 47 c = nI g ∧ h 48 (3 * c) = pv (arN (s.2.1 g)) 0 x ∧ h 48 (3 * c + 1) = pv (arN (s.2.1 g)) 1 y ∧ h 48 (3 * c + 2) = pv (arN (s.2.1 g)) 2 z ∧ h 49 c = ((nI 1 + pl h (arN (s.2.1 g)) 0 x) + pl h (arN (s.2.1 g)) 1 y) + pl h (arN (s.2.1 g)) 2 z)) ∧ (C c = none → h 46 c = -1)
theorem pl_eq {h h' : Hp} {a i x : Nat} (e : i < a → h' 49 x = h 49 x) : pl h' a i x = pl h a i x := by
  unfold pl
  by_cases q : i < a
  · rw [if_pos q, if_pos q, e q]
  · rw [if_neg q, if_neg q]
theorem MR_fr {h h' : Hp} {s : Sh} {C : Nat → Option Nat} (a : ∀ k, h' 46 k = h 46 k) (b : ∀ k, h' 47 k = h 47 k) (c : ∀ k, h' 48 k = h 48 k) (d : ∀ k, h' 49 k = h 49 k) (H : MR h s C) : MR h' s C := by
  intro e he
  obtain ⟨h1, h2⟩ := H e he
  rw [a, d]
  refine ⟨fun k q => ?_, h2⟩
  obtain ⟨w1, w2, w3⟩ := h1 k q
  refine ⟨w1, w2, fun q => ?_⟩
  obtain ⟨g, x, y, z, v1, v2, v3, v4, v5, v6, v7⟩ := w3 q
  refine ⟨g, x, y, z, v1, v2, (b e).trans v3, (c _).trans v4, (c _).trans v5, (c _).trans v6, ?_⟩
  rw [pl_eq (fun _ => d x), pl_eq (fun _ => d y), pl_eq (fun _ => d z)]
  exact v7
theorem WayP_made {C : Nat → Option Nat} {f n c x y z : Nat} (w : WayP C f n c x y z) : (0 < arN f → x < 256 ∧ ∃ i, C x = some i) ∧ (1 < arN f → y < 256 ∧ ∃ i, C y = some i) ∧ (2 < arN f → z < 256 ∧ ∃ i, C z = some i) := by
  rcases w with ⟨a, -⟩ | ⟨a, ⟨i, e1, -⟩, -, hx, -⟩ | ⟨a, ⟨i, j, e1, e2, -⟩, -, hx, hy, -⟩ | ⟨a, ⟨i, j, k, e1, e2, e3, -⟩, -, hx, hy, hz⟩ <;> rw [a]
  · exact ⟨fun q => absurd q (by decide), fun q => absurd q (by decide), fun q => absurd q (by decide)⟩
  · exact ⟨fun _ => ⟨hx, i, e1⟩, fun q => absurd q (by decide), fun q => absurd q (by decide)⟩
  · exact ⟨fun _ => ⟨hx, i, e1⟩, fun _ => ⟨hy, j, e2⟩, fun q => absurd q (by decide)⟩
  · exact ⟨fun _ => ⟨hx, i, e1⟩, fun _ => ⟨hy, j, e2⟩, fun _ => ⟨hz, k, e3⟩⟩
theorem LVp_le {s : Sh} {n F c k : Nat} (h : LVp s n F c = some k) : k ≤ n := by
  cases q : LV s (n - 1) c with
  | some j =>
    have := (LV_at q).1
    rw [LVp_keep q] at h
    cases h
    omega
  | none =>
    by_cases w : ∃ g, g < F ∧ chs s g ∧ WayE (LV s (n - 1)) (s.2.1 g) n c
    · rw [LVp_new q w] at h
      cases h
      omega
    · rw [LVp_not q w] at h; cases h
theorem MR_CMo {h : Hp} {s : Sh} {n F : Nat} (hn : 1 ≤ n) (H : MR h s (LVp s n F)) : CMo h n (LV s (n - 1)) := by
  intro c hc
  obtain ⟨a, b⟩ := H c hc
  refine ⟨fun k e => ⟨(a k (LVp_keep e)).1, by have := (LV_at e).1; omega⟩, fun e => ?_⟩
  by_cases w : ∃ g, g < F ∧ chs s g ∧ WayE (LV s (n - 1)) (s.2.1 g) n c
  · exact Or.inr (a n (LVp_new e w)).1
  · exact Or.inl (b (LVp_not e w))
theorem MR_step {h h' : Hp} {s : Sh} {n F : Nat} (hn : 1 ≤ n) (hn2 : n < 2 ^ 31) (hF : chs s F) (H : MR h s (LVp s n F)) (m : Mof n F (arN (s.2.1 F)) (fun c x y z => WayP (LV s (n - 1)) (s.2.1 F) n c x y z) h h') : MR h' s (LVp s n (F + 1)) := by
  have made : ∀ {d k : Nat}, d < 256 → LVp s n F d = some k → h' 46 d = h 46 d ∧ h' 49 d = h 49 d := fun hd e => Mof_made m hd (by
    rw [((H _ hd).1 _ e).1]
    have := LVp_le e
    exact nI_ne1 (by omega))
  have plx : ∀ {g k c x y z : Nat}, k ≤ n → WayP (LV s (k - 1)) (s.2.1 g) k c x y z → pl h' (arN (s.2.1 g)) 0 x = pl h (arN (s.2.1 g)) 0 x ∧ pl h' (arN (s.2.1 g)) 1 y = pl h (arN (s.2.1 g)) 1 y ∧ pl h' (arN (s.2.1 g)) 2 z = pl h (arN (s.2.1 g)) 2 z := by
    intro g k c x y z hk w
    obtain ⟨p1, p2, p3⟩ := WayP_made w
    have one : ∀ {d : Nat}, (d < 256 ∧ ∃ i, LV s (k - 1) d = some i) → h' 49 d = h 49 d := fun q => by
      obtain ⟨q1, i, q2⟩ := q
      exact (made q1 (LVp_keep (LV_mono (show k - 1 ≤ n - 1 by omega) q2))).2
    exact ⟨pl_eq fun q => one (p1 q), pl_eq fun q => one (p2 q), pl_eq fun q => one (p3 q)⟩
  intro c hc
  obtain ⟨a, b⟩ := H c hc
  obtain ⟨m1, m2⟩ := m c hc
  cases q : LVp s n F c with
  | some k =>
    obtain ⟨a1, a2, a3⟩ := a k q
    have kn := LVp_le q
    obtain ⟨e1, e2, e3, e4⟩ := m2 (fun w => nI_ne1 (show k < 2 ^ 31 by omega) (a1.symm.trans w.1))
    rw [LVp_grow q]
    refine ⟨fun k' ek => ?_, fun w => by cases w⟩
    cases ek
    refine ⟨e1.trans a1, fun z => e4.trans (a2 z), fun z => ?_⟩
    obtain ⟨g, x, y, z, v1, v2, v3, v4, v5, v6, v7⟩ := a3 z
    obtain ⟨p1, p2, p3⟩ := plx kn v2.1
    refine ⟨g, x, y, z, v1, v2, e2.trans v3, (e3 0 (by decide)).trans v4, (e3 1 (by decide)).trans v5, (e3 2 (by decide)).trans v6, ?_⟩
    rw [p1, p2, p3, e4]
    exact v7
  | none =>
    have a1 := b q
    obtain ⟨b1, b2⟩ := LVp_none q
    by_cases w : ∃ x y z, WayP (LV s (n - 1)) (s.2.1 F) n c x y z
    · obtain ⟨e1, e2, x, y, z, e3, e4, e5, e6, e7, e8⟩ := m1 ⟨a1, w⟩
      rw [LVp_new b1 ⟨F, by omega, hF, w⟩]
      refine ⟨fun k' ek => ?_, fun w => by cases w⟩
      cases ek
      obtain ⟨p1, p2, p3⟩ := plx (Nat.le_refl n) e3
      refine ⟨e1, fun z => by omega, fun _ => ⟨F, x, y, z, ⟨hF, w, fun g' g1 g2 => b2 ⟨g', g1, g2⟩⟩, ⟨e3, e4⟩, e2, e5, e6, e7, ?_⟩⟩
      rw [p1, p2, p3]
      exact e8
    · obtain ⟨e1, -⟩ := m2 (fun v => w v.2)
      have : LVp s n (F + 1) c = none := LVp_not b1 fun ⟨g, g1, g2, g3⟩ => by
        by_cases z : g = F
        · subst z
          exact w g3
        · exact b2 ⟨g, by omega, g2, g3⟩
      rw [this, e1]
      exact ⟨fun k' ek => (by cases ek), fun _ => a1⟩
theorem LVp_skip {s : Sh} {n F : Nat} (hF : ¬ chs s F) : LVp s n (F + 1) = LVp s n F := by
  funext c
  cases q : LVp s n F c with
  | some k => exact LVp_grow q
  | none =>
    obtain ⟨a, b⟩ := LVp_none q
    refine LVp_not a fun ⟨g, g1, g2⟩ => b ⟨g, ?_, g2⟩
    have : g ≠ F := fun z => hF (z ▸ g2.1)
    omega
theorem LVp_all {s : Sh} (n : Nat) : LVp s (n + 1) s.1 = LV s (n + 1) := by
  funext c
  cases q : LV s n c with
  | some k => rw [LV_keep q]; exact LVp_keep q
  | none =>
    by_cases w : ∃ f, chs s f ∧ WayE (LV s n) (s.2.1 f) (n + 1) c
    · rw [LV_new q w]
      obtain ⟨f, w⟩ := w
      exact LVp_new q ⟨f, w.1.1, w⟩
    · rw [LV_not q w]
      exact LVp_not q (fun ⟨f, _, h⟩ => w ⟨f, h⟩)
theorem has_tl {b t : Nat} (hb : b < 2 ^ 31) (ht : t < 32) : Jm_has (nI b) (nI t) = some (nI (tl b t)) := by
  unfold Jm_has
  rw [tl_e hb ht]
  rcases t01 (tl_le b t) with q | q <;> rw [q] <;> rfl
theorem close_at {h : Hp} {L : Nat} {C0 C : Nat → Option Nat} {bc st : Nat → Nat} (hL : L < 10000) (e24 : h 37 24 = nI L) (B : BM (hset h 51 L (nI (st L))) L C0 bc st) (sc : SC L C st) (ag : ∀ m, m < L → ∀ c, c < 256 → (C0 c = some m ↔ C c = some m)) (row : ∀ c, c < 256 → (∀ k, C c = some k → h 46 c = nI k ∧ k ≤ L) ∧ (C c = none → h 46 c = -1)) : ∃ h' bc' st', Jm_closeLevel (nI (st L)) h = some (nI (st' (L + 1)), h') ∧ BM h' (L + 1) C bc' st' ∧ SC (L + 1) C st' ∧ ∀ p k, p ≠ 50 → p ≠ 51 → h' p k = h p k := by
  have hle := fun m (hm : m ≤ L) => BM_le B hm (Nat.le_refl L)
  obtain ⟨b1, b2, b3, b4, b5, b6, b7, b9⟩ := B
  have two := cnt_two C L 256
  have scL := sc L (Nat.le_refl L)
  have b4' : ∀ i, i < st L → h 50 i = nI (bc i) ∧ bc i < 256 := fun i hi => by
    have := b4 i hi
    rw [hset_if, if_neg (by simp)] at this
    exact this
  obtain ⟨r, l1, l2⟩ := loop_cnt (fun s => Jm_closeLevel_L14 (nI (st L)) s.1 s.2.1 s.2.2) (fun i s => s.1 = nI (st L + cntT (ce C L) i) ∧ s.2.1 = nI i ∧ (∀ c, c < i → ce C L c = true → s.2.2 50 (st L + cntT (ce C L) c) = nI c) ∧ (∀ j, j < st L → s.2.2 50 j = h 50 j) ∧ s.2.2 51 L = nI (st L) ∧ (∀ k, k ≠ L → s.2.2 51 k = h 51 k) ∧ ∀ p k, p ≠ 50 → p ≠ 51 → s.2.2 p k = h p k) (fun r => r.1 = nI (st L + cntT (ce C L) 256) ∧ (∀ c, c < 256 → ce C L c = true → r.2.2 50 (st L + cntT (ce C L) c) = nI c) ∧ (∀ j, j < st L → r.2.2 50 j = h 50 j) ∧ r.2.2 51 L = nI (st L) ∧ (∀ k, k ≠ L → r.2.2 51 k = h 51 k) ∧ ∀ p k, p ≠ 50 → p ≠ 51 → r.2.2 p k = h p k) 256 (fun i s hi hs => by
      obtain ⟨w', i', hh⟩ := s
      obtain ⟨h1, e1, h2, h3, h5, h6, h7⟩ := hs
      replace h1 : w' = nI (st L + cntT (ce C L) i) := h1
      replace e1 : i' = nI i := e1
      subst e1
      subst h1
      replace h2 : ∀ c, c < i → ce C L c = true → hh 50 (st L + cntT (ce C L) c) = nI c := h2
      replace h3 : ∀ j, j < st L → hh 50 j = h 50 j := h3
      replace h5 : hh 51 L = nI (st L) := h5
      replace h6 : ∀ k, k ≠ L → hh 51 k = h 51 k := h6
      replace h7 : ∀ p k, p ≠ 50 → p ≠ 51 → hh p k = h p k := h7
      have u1 : hh 37 24 = nI L := (h7 37 24 (by decide) (by decide)).trans e24
      have u2 : hh 46 i = h 46 i := h7 46 i (by decide) (by decide)
      obtain ⟨r1, r2⟩ := row i hi
      cases b : ce C L i with
      | true =>
        have e := ce_iff.mp b
        have e2 := (r1 L e).1
        have lt := cnt_lt (f := ce C L) hi b
        have sm : st L + cntT (ce C L) i < 256 := by omega
        refine Or.inl ⟨(nI (st L + cntT (ce C L) i + 1), nI (i + 1), hset hh 50 (st L + cntT (ce C L) i) (nI i)), ?_, ?_, rfl, fun c c1 c2 => ?_, fun j hj => ?_, ?_, fun k hk => ?_, fun p k w1 w2 => ?_⟩
        · simp (disch := omega) only [Jm_closeLevel_L14, u1, u2, e2, bd_some, lt_of', sm_l, sm_r, lit, lN_n, hset_if, nI_ltP, nI_eqI, nI_add, nI_sub, nI_clamp, ib_nI, cond_true, if_pos, if_neg, and_self, and_true, true_and, false_and, and_false, ↓reduceIte, eq_self, nI_m1]
        · show nI (st L + cntT (ce C L) i + 1) = _
          rw [cntT_succ, b]
          rfl
        · show hset hh 50 (st L + cntT (ce C L) i) (nI i) 50 _ = _
          rw [hset_if]
          by_cases z : c = i
          · subst z; simp
          · have := cnt_lt (f := ce C L) (show c < i by omega) c2
            rw [if_neg (by omega)]
            exact h2 c (by omega) c2
        · show hset hh 50 (st L + cntT (ce C L) i) (nI i) 50 j = _
          rw [hset_if, if_neg (by omega)]
          exact h3 j hj
        · show hset hh 50 (st L + cntT (ce C L) i) (nI i) 51 L = _
          rw [hset_if, if_neg (by simp)]
          exact h5
        · show hset hh 50 (st L + cntT (ce C L) i) (nI i) 51 k = _
          rw [hset_if, if_neg (by simp)]
          exact h6 k hk
        · show hset hh 50 (st L + cntT (ce C L) i) (nI i) p k = _
          rw [hset_if, if_neg (fun w => w1 w.1)]
          exact h7 p k w1 w2
      | false =>
        have ne : ¬ h 46 i = nI L := fun w => by
          cases q : C i with
          | none => exact nI_ne1 (show L < 2 ^ 31 by omega) (w.symm.trans (r2 q))
          | some k =>
            obtain ⟨w1, w2⟩ := r1 k q
            have := (nI_eq (by omega) (by omega)).mp (w1.symm.trans w)
            subst this
            rw [ce_iff.mpr q] at b
            cases b
        have keep : cntT (ce C L) (i + 1) = cntT (ce C L) i := by rw [cntT_succ, b]; rfl
        refine Or.inl ⟨(nI (st L + cntT (ce C L) i), nI (i + 1), hh), ?_, by rw [keep], rfl, fun c c1 c2 => ?_, h3, h5, h6, h7⟩
        · rw [← u2] at ne
          simp (disch := omega) only [Jm_closeLevel_L14, u1, ne, bd_some, lt_of', sm_l, sm_r, lit, lN_n, hset_if, nI_ltP, nI_eqI, nI_add, nI_sub, nI_clamp, ib_nI, cond_true, if_pos, if_neg, and_self, and_true, true_and, false_and, and_false, ↓reduceIte, eq_self, nI_m1]
          all_goals simp
        · by_cases z : c = i
          · subst z; rw [b] at c2; cases c2
          · exact h2 c (by omega) c2) (fun s hs => by
      obtain ⟨w', i', hh⟩ := s
      obtain ⟨h1, e1, h2⟩ := hs
      replace h1 : w' = nI (st L + cntT (ce C L) 256) := h1
      replace e1 : i' = nI 256 := e1
      subst e1
      subst h1
      exact ⟨(nI (st L + cntT (ce C L) 256), nI 256, hh), by simp (disch := omega) only [Jm_closeLevel_L14, bd_some, lt_of', sm_l, sm_r, lit, lN_n, hset_if, nI_ltP, nI_eqI, nI_add, nI_sub, nI_clamp, ib_nI, cond_true, if_pos, if_neg, and_self, and_true, true_and, false_and, and_false, ↓reduceIte, eq_self, nI_m1], rfl, h2⟩) (F := 1000000) (by omega) (a := 0) (by omega) (s := (nI (st L), 0, hset h 51 L (nI (st L)))) ⟨by simp [cntT], rfl, fun c hc => absurd hc (by omega), fun j _ => by
        show hset h 51 L (nI (st L)) 50 j = _
        rw [hset_if, if_neg (by simp)], by
        show hset h 51 L (nI (st L)) 51 L = _
        rw [hset_if, if_pos (by simp)], fun k hk => by
        show hset h 51 L (nI (st L)) 51 k = _
        rw [hset_if, if_neg (by simp [hk])], fun p k w1 w2 => by
        show hset h 51 L (nI (st L)) p k = _
        rw [hset_if, if_neg (fun w => w2 w.1)]⟩
  obtain ⟨g1, g2, g3, g5, g6, g7⟩ := l2
  have gL : r.2.2 37 24 = nI L := (g7 37 24 (by decide) (by decide)).trans e24
  have eL : ∀ k, (hset r.2.2 51 (L + 1) (nI (st L + cntT (ce C L) 256))) 50 k = r.2.2 50 k := fun k => by rw [hset_if, if_neg (by simp)]
  refine ⟨hset r.2.2 51 (L + 1) (nI (st L + cntT (ce C L) 256)), fun j => (r.2.2 50 j).toNatClampNeg, fun m => if m ≤ L then st m else st L + cntT (ce C L) 256, ?_, ⟨by omega, ?_, fun m hm => ?_, fun i hi => ?_, fun m hm => ?_, fun m hm c hc => ?_, fun m hm i j i1 i2 i3 => ?_, ?_⟩, fun m hm => ?_, fun p k w1 w2 => ?_⟩
  · show Jm_closeLevel (nI (st L)) h = some (nI (if L + 1 ≤ L then st (L + 1) else st L + cntT (ce C L) 256), _)
    rw [if_neg (show ¬ L + 1 ≤ L by omega)]
    unfold Jm_closeLevel
    rw [e24, ib_nI (by omega) (by omega), cond_true, nI_clamp (by omega), lt_of']
    refine (bd_of l1).trans ?_
    rw [gL, lit 1, nI_add, ib_nI (by omega) (by omega), cond_true, nI_clamp (by omega), lt_of', g1]
  · show (if L + 1 ≤ L then st (L + 1) else st L + cntT (ce C L) 256) ≤ 256
    rw [if_neg (by omega)]
    omega
  · show (if m ≤ L then st m else st L + cntT (ce C L) 256) ≤ (if m + 1 ≤ L then st (m + 1) else st L + cntT (ce C L) 256)
    rw [if_pos (by omega)]
    by_cases q : m + 1 ≤ L
    · rw [if_pos q]; exact b3 m (by omega)
    · rw [if_neg q, show m = L by omega]; omega
  · show hset r.2.2 51 (L + 1) (nI (st L + cntT (ce C L) 256)) 50 i = nI (r.2.2 50 i).toNatClampNeg ∧ (r.2.2 50 i).toNatClampNeg < 256
    replace hi : i < (if L + 1 ≤ L then st (L + 1) else st L + cntT (ce C L) 256) := hi
    rw [if_neg (by omega)] at hi
    rw [eL]
    by_cases q : i < st L
    · obtain ⟨k1, k2⟩ := b4' i q
      rw [g3 i q, k1, nI_clamp (by omega)]
      exact ⟨rfl, k2⟩
    · obtain ⟨c, c1, c2, c3⟩ := cnt_surj (f := ce C L) (n := 256) (k := i - st L) (by omega)
      have := g2 c c1 c2
      rw [c3, show st L + (i - st L) = i by omega] at this
      rw [this, nI_clamp (by omega)]
      exact ⟨rfl, c1⟩
  · show hset r.2.2 51 (L + 1) (nI (st L + cntT (ce C L) 256)) 51 m = nI (if m ≤ L then st m else st L + cntT (ce C L) 256)
    by_cases q : m ≤ L
    · rw [if_pos q, hset_if, if_neg (by omega)]
      by_cases z : m = L
      · rw [z]; exact g5
      · rw [g6 m z]
        have := b5 m q
        rw [hset_if, if_neg (by omega)] at this
        exact this
    · rw [if_neg q, hset_if, if_pos (by omega)]
  · show C c = some m ↔ ∃ i, (if m ≤ L then st m else st L + cntT (ce C L) 256) ≤ i ∧ i < (if m + 1 ≤ L then st (m + 1) else st L + cntT (ce C L) 256) ∧ (r.2.2 50 i).toNatClampNeg = c
    rw [if_pos (by omega)]
    by_cases q : m + 1 ≤ L
    · rw [if_pos q, ← ag m (by omega) c hc, b6 m (by omega) c hc]
      have hm1 := hle (m + 1) q
      constructor
      · intro ⟨i, i1, i2, i3⟩
        refine ⟨i, i1, i2, ?_⟩
        obtain ⟨k1, k2⟩ := b4' i (by omega)
        rw [g3 i (by omega), k1, nI_clamp (by omega), i3]
      · intro ⟨i, i1, i2, i3⟩
        refine ⟨i, i1, i2, ?_⟩
        obtain ⟨k1, k2⟩ := b4' i (by omega)
        rw [g3 i (by omega), k1, nI_clamp (by omega)] at i3
        exact i3
    · have z : m = L := by omega
      subst z
      rw [if_neg q, ← ce_iff]
      constructor
      · intro b
        have lt := cnt_lt (f := ce C m) hc b
        refine ⟨st m + cntT (ce C m) c, by omega, by omega, ?_⟩
        rw [g2 c hc b, nI_clamp (by omega)]
      · intro ⟨i, i1, i2, i3⟩
        obtain ⟨c', c1, c2, c3⟩ := cnt_surj (f := ce C m) (n := 256) (k := i - st m) (by omega)
        have := g2 c' c1 c2
        rw [c3, show st m + (i - st m) = i by omega] at this
        rw [this, nI_clamp (by omega)] at i3
        rw [← i3]
        exact c2
  · show (r.2.2 50 i).toNatClampNeg < (r.2.2 50 j).toNatClampNeg
    replace i1 : (if m ≤ L then st m else st L + cntT (ce C L) 256) ≤ i := i1
    replace i3 : j < (if m + 1 ≤ L then st (m + 1) else st L + cntT (ce C L) 256) := i3
    rw [if_pos (by omega)] at i1
    by_cases q : m + 1 ≤ L
    · rw [if_pos q] at i3
      have hm1 := hle (m + 1) q
      obtain ⟨k1, k2⟩ := b4' i (by omega)
      obtain ⟨k3, k4⟩ := b4' j (by omega)
      rw [g3 i (by omega), g3 j (by omega), k1, k3, nI_clamp (by omega), nI_clamp (by omega)]
      exact b7 m (by omega) i j i1 i2 i3
    · have z : m = L := by omega
      subst z
      rw [if_neg q] at i3
      obtain ⟨c, c1, c2, c3⟩ := cnt_surj (f := ce C m) (n := 256) (k := i - st m) (by omega)
      obtain ⟨d, d1, d2, d3⟩ := cnt_surj (f := ce C m) (n := 256) (k := j - st m) (by omega)
      have ec := g2 c c1 c2
      have ed := g2 d d1 d2
      rw [c3, show st m + (i - st m) = i by omega] at ec
      rw [d3, show st m + (j - st m) = j by omega] at ed
      rw [ec, ed, nI_clamp (by omega), nI_clamp (by omega)]
      exact cnt_inv (f := ce C m) (by omega)
  · show (if 0 ≤ L then st 0 else st L + cntT (ce C L) 256) = 0
    rw [if_pos (by omega)]
    exact b9
  · show (if m ≤ L then st m else st L + cntT (ce C L) 256) = _
    by_cases q : m ≤ L
    · rw [if_pos q]; exact sc m q
    · rw [if_neg q, show m = L + 1 by omega, cb_succ, scL]
  · rw [hset_if, if_neg (fun w => w2 w.1)]
    exact g7 p k w1 w2
