/-! The search: the list by cost. -/
def SC (n : Nat) (C : Nat → Option Nat) (st : Nat → Nat) : Prop := ∀ m, m ≤ n → st m = cntT (cb C m) 256
theorem settle_at {h : Hp} {L : Nat} {C0 C : Nat → Option Nat} {bc st : Nat → Nat} (hL : L < 10000) (e12 : h 10 12 = nI L) (B : BC (hset h 14 L (h 10 9)) L C0 bc st) (sc : SC L C st) (ag : ∀ m, m < L → ∀ c, c < 256 → (C0 c = some m ↔ C c = some m)) (row : ∀ c, c < 256 → (∀ k, C c = some k → h 11 c = nI k ∧ k ≤ L) ∧ (C c = none → h 11 c = -1)) (zero : L = 0 → ∀ c, c < 256 → (C c = some 0 ↔ base3 c)) : ∃ h' bc' st', Jcs_settle h = some h' ∧ BC h' (L + 1) C bc' st' ∧ SC (L + 1) C st' ∧ h' 10 13 = (if cntT (ce C L) 256 = 0 then h 10 13 else nI L) ∧ ∀ p k, p ≠ 13 → p ≠ 14 → ¬ (p = 10 ∧ (k = 9 ∨ k = 13)) → h' p k = h p k := by
  have hle := fun m (hm : m ≤ L) => BC_le B hm (Nat.le_refl L)
  obtain ⟨b1, b2, b3, b4, b5, b6, b7, b8, b9, b10⟩ := B
  rw [hset_if, if_neg (by omega)] at b10
  rw [b10] at b4 b5
  have two := cnt_two C L 256
  have scL := sc L (Nat.le_refl L)
  have b4' : ∀ i, i < st L → h 13 i = nI (bc i) ∧ bc i < 256 := fun i hi => by
    have := b4 i hi
    rw [hset_if, if_neg (by simp)] at this
    exact this
  obtain ⟨r, l1, l2⟩ := loop_cnt (fun s => Jcs_settle_L33 s.1 s.2) (fun i s => s.1 = nI i ∧ s.2 10 9 = nI (st L + cntT (ce C L) i) ∧ (∀ c, c < i → ce C L c = true → s.2 13 (st L + cntT (ce C L) c) = nI c) ∧ (∀ j, j < st L → s.2 13 j = h 13 j) ∧ s.2 10 13 = (if cntT (ce C L) i = 0 then h 10 13 else nI L) ∧ s.2 14 L = nI (st L) ∧ (∀ k, k ≠ L → s.2 14 k = h 14 k) ∧ ∀ p k, p ≠ 13 → p ≠ 14 → ¬ (p = 10 ∧ (k = 9 ∨ k = 13)) → s.2 p k = h p k) (fun r => r.2 10 9 = nI (st L + cntT (ce C L) 256) ∧ (∀ c, c < 256 → ce C L c = true → r.2 13 (st L + cntT (ce C L) c) = nI c) ∧ (∀ j, j < st L → r.2 13 j = h 13 j) ∧ r.2 10 13 = (if cntT (ce C L) 256 = 0 then h 10 13 else nI L) ∧ r.2 14 L = nI (st L) ∧ (∀ k, k ≠ L → r.2 14 k = h 14 k) ∧ ∀ p k, p ≠ 13 → p ≠ 14 → ¬ (p = 10 ∧ (k = 9 ∨ k = 13)) → r.2 p k = h p k) 256 (fun i s hi hs => by
      obtain ⟨i', hh⟩ := s
      obtain ⟨e1, h1, h2, h3, h4, h5, h6, h7⟩ := hs
      replace e1 : i' = nI i := e1
      subst e1
      replace h1 : hh 10 9 = nI (st L + cntT (ce C L) i) := h1
      replace h2 : ∀ c, c < i → ce C L c = true → hh 13 (st L + cntT (ce C L) c) = nI c := h2
      replace h3 : ∀ j, j < st L → hh 13 j = h 13 j := h3
      replace h4 : hh 10 13 = (if cntT (ce C L) i = 0 then h 10 13 else nI L) := h4
      replace h5 : hh 14 L = nI (st L) := h5
      replace h6 : ∀ k, k ≠ L → hh 14 k = h 14 k := h6
      replace h7 : ∀ p k, p ≠ 13 → p ≠ 14 → ¬ (p = 10 ∧ (k = 9 ∨ k = 13)) → hh p k = h p k := h7
      have u1 : hh 10 12 = nI L := (h7 10 12 (by decide) (by decide) (by decide)).trans e12
      have u2 : hh 11 i = h 11 i := h7 11 i (by decide) (by decide) (by simp)
      obtain ⟨r1, r2⟩ := row i hi
      cases b : ce C L i with
      | true =>
        have e := ce_iff.mp b
        have e2 := (r1 L e).1
        have lt := cnt_lt (f := ce C L) hi b
        have sm : st L + cntT (ce C L) i < 256 := by omega
        refine Or.inl ⟨(nI (i + 1), hset (hset (hset hh 13 (st L + cntT (ce C L) i) (nI i)) 10 9 (nI (st L + cntT (ce C L) i + 1))) 10 13 (nI L)), ?_, rfl, ?_, fun c c1 c2 => ?_, fun j hj => ?_, ?_, ?_, fun k hk => ?_, fun p k w1 w2 w3 => ?_⟩
        · simp (disch := omega) only [Jcs_settle_L33, u1, u2, e2, h1, bd_some, lt_of', sm_l, sm_r, lit, lN_n, hset_if, nI_ltP, nI_eqI, nI_add, nI_sub, nI_clamp, ib_nI, cond_true, if_pos, if_neg, and_self, and_true, true_and, false_and, and_false, ↓reduceIte, eq_self, nI_m1]
          all_goals simp
        · simp only [hset_if]
          rw [cntT_succ, b]
          simp
          congr 1
        · simp only [hset_if]
          by_cases z : c = i
          · subst z; simp
          · have := cnt_lt (f := ce C L) (show c < i by omega) c2
            rw [if_neg (by omega), if_neg (by omega), if_neg (by omega)]
            exact h2 c (by omega) c2
        · simp only [hset_if]
          rw [if_neg (by omega), if_neg (by omega), if_neg (by omega)]
          exact h3 j hj
        · simp only [hset_if]
          rw [if_pos (by decide), cntT_succ, b, if_neg (by simp)]
        · simp only [hset_if]
          rw [if_neg (by omega), if_neg (by omega), if_neg (by simp)]
          exact h5
        · simp only [hset_if]
          rw [if_neg (by simp), if_neg (by simp), if_neg (by simp)]
          exact h6 k hk
        · simp only [hset_if]
          rw [if_neg (fun w => w3 ⟨w.1, Or.inr w.2⟩), if_neg (fun w => w3 ⟨w.1, Or.inl w.2⟩), if_neg (fun w => w1 w.1)]
          exact h7 p k w1 w2 w3
      | false =>
        have ne : ¬ h 11 i = nI L := fun w => by
          cases q : C i with
          | none => exact nI_ne1 (show L < 2 ^ 31 by omega) (w.symm.trans (r2 q))
          | some k =>
            obtain ⟨w1, w2⟩ := r1 k q
            have := (nI_eq (by omega) (by omega)).mp (w1.symm.trans w)
            subst this
            rw [ce_iff.mpr q] at b
            cases b
        have keep : cntT (ce C L) (i + 1) = cntT (ce C L) i := by rw [cntT_succ, b]; rfl
        refine Or.inl ⟨(nI (i + 1), hh), ?_, rfl, by rw [keep]; exact h1, fun c c1 c2 => ?_, h3, by rw [keep]; exact h4, h5, h6, h7⟩
        · rw [← u2] at ne
          simp (disch := omega) only [Jcs_settle_L33, u1, ne, bd_some, lt_of', sm_l, sm_r, lit, lN_n, hset_if, nI_ltP, nI_eqI, nI_add, nI_sub, nI_clamp, ib_nI, cond_true, if_pos, if_neg, and_self, and_true, true_and, false_and, and_false, ↓reduceIte, eq_self, nI_m1]
          all_goals simp
        · by_cases z : c = i
          · subst z; rw [b] at c2; cases c2
          · exact h2 c (by omega) c2) (fun s hs => by
      obtain ⟨i', hh⟩ := s
      obtain ⟨e1, h1⟩ := hs
      replace e1 : i' = nI 256 := e1
      subst e1
      exact ⟨(nI 256, hh), by simp (disch := omega) only [Jcs_settle_L33, bd_some, lt_of', sm_l, sm_r, lit, lN_n, hset_if, nI_ltP, nI_eqI, nI_add, nI_sub, nI_clamp, ib_nI, cond_true, if_pos, if_neg, and_self, and_true, true_and, false_and, and_false, ↓reduceIte, eq_self, nI_m1], h1⟩) (F := 1000000) (by omega) (a := 0) (by omega) (s := (0, hset h 14 L (h 10 9))) ⟨rfl, by
        show hset h 14 L (h 10 9) 10 9 = _
        rw [hset_if, if_neg (by omega), b10]; simp [cntT], fun c hc => absurd hc (by omega), fun j _ => by
        show hset h 14 L (h 10 9) 13 j = _
        rw [hset_if, if_neg (by simp)], by
        show hset h 14 L (h 10 9) 10 13 = _
        rw [hset_if, if_neg (by omega)]; simp [cntT], by
        show hset h 14 L (h 10 9) 14 L = _
        rw [hset_if, if_pos (by simp), b10], fun k hk => by
        show hset h 14 L (h 10 9) 14 k = _
        rw [hset_if, if_neg (by simp [hk])], fun p k w1 w2 w3 => by
        show hset h 14 L (h 10 9) p k = _
        rw [hset_if, if_neg (fun w => w2 w.1)]⟩
  obtain ⟨g1, g2, g3, g4, g5, g6, g7⟩ := l2
  have gL : r.2 10 12 = nI L := (g7 10 12 (by decide) (by decide) (by decide)).trans e12
  have eL : ∀ k, (hset r.2 14 (L + 1) (nI (st L + cntT (ce C L) 256))) 13 k = r.2 13 k := fun k => by rw [hset_if, if_neg (by simp)]
  refine ⟨hset r.2 14 (L + 1) (nI (st L + cntT (ce C L) 256)), fun j => (r.2 13 j).toNatClampNeg, fun m => if m ≤ L then st m else st L + cntT (ce C L) 256, ?_, ⟨by omega, ?_, fun m hm => ?_, fun i hi => ?_, fun m hm => ?_, fun m hm c hc => ?_, fun m hm i j i1 i2 i3 => ?_, fun _ => ?_, ?_, ?_⟩, fun m hm => ?_, ?_, fun p k w1 w2 w3 => ?_⟩
  · unfold Jcs_settle
    rw [e12, if_neg (nI_pos (by omega)), if_neg (show ¬ (9999 : Int32) < nI L from nI_nlt (a := 9999) (by omega) (by decide)), ib_nI (by omega) (by omega), cond_true, nI_clamp (by omega), lt_of']
    refine (bd_of l1).trans ?_
    rw [gL, lit 1, nI_add, ib_nI (by omega) (by omega), cond_true, nI_clamp (by omega), lt_of', g1]
  · show (if L + 1 ≤ L then st (L + 1) else st L + cntT (ce C L) 256) ≤ 256
    rw [if_neg (by omega)]
    omega
  · show (if m ≤ L then st m else st L + cntT (ce C L) 256) ≤ (if m + 1 ≤ L then st (m + 1) else st L + cntT (ce C L) 256)
    rw [if_pos (by omega)]
    by_cases q : m + 1 ≤ L
    · rw [if_pos q]; exact b3 m (by omega)
    · rw [if_neg q, show m = L by omega]; omega
  · show hset r.2 14 (L + 1) (nI (st L + cntT (ce C L) 256)) 13 i = nI (r.2 13 i).toNatClampNeg ∧ (r.2 13 i).toNatClampNeg < 256
    replace hi : i < (if L + 1 ≤ L then st (L + 1) else st L + cntT (ce C L) 256) := hi
    rw [if_neg (by omega)] at hi
    rw [eL]
    by_cases q : i < st L
    · obtain ⟨k1, k2⟩ := b4' i q
      rw [g3 i q, k1, nI_clamp (by omega)]
      exact ⟨rfl, k2⟩
    · obtain ⟨c, c1, c2, c3⟩ := cnt_surj (f := ce C L) (n := 256) (k := i - st L) (by omega)
      have := g2 c c1 c2
      rw [c3, show st L + (i - st L) = i by omega] at this
      rw [this, nI_clamp (by omega)]
      exact ⟨rfl, c1⟩
  · show hset r.2 14 (L + 1) (nI (st L + cntT (ce C L) 256)) 14 m = nI (if m ≤ L then st m else st L + cntT (ce C L) 256)
    by_cases q : m ≤ L
    · rw [if_pos q, hset_if, if_neg (by omega)]
      by_cases z : m = L
      · rw [z]; exact g5
      · rw [g6 m z]
        have := b5 m q
        rw [hset_if, if_neg (by omega)] at this
        exact this
    · rw [if_neg q, hset_if, if_pos (by omega)]
  · show C c = some m ↔ ∃ i, (if m ≤ L then st m else st L + cntT (ce C L) 256) ≤ i ∧ i < (if m + 1 ≤ L then st (m + 1) else st L + cntT (ce C L) 256) ∧ (r.2 13 i).toNatClampNeg = c
    rw [if_pos (by omega)]
    by_cases q : m + 1 ≤ L
    · rw [if_pos q, ← ag m (by omega) c hc, b6 m (by omega) c hc]
      have hm1 := hle (m + 1) q
      constructor
      · intro ⟨i, i1, i2, i3⟩
        refine ⟨i, i1, i2, ?_⟩
        obtain ⟨k1, k2⟩ := b4' i (by omega)
        rw [g3 i (by omega), k1, nI_clamp (by omega), i3]
      · intro ⟨i, i1, i2, i3⟩
        refine ⟨i, i1, i2, ?_⟩
        obtain ⟨k1, k2⟩ := b4' i (by omega)
        rw [g3 i (by omega), k1, nI_clamp (by omega)] at i3
        exact i3
    · have z : m = L := by omega
      subst z
      rw [if_neg q, ← ce_iff]
      constructor
      · intro b
        have lt := cnt_lt (f := ce C m) hc b
        refine ⟨st m + cntT (ce C m) c, by omega, by omega, ?_⟩
        rw [g2 c hc b, nI_clamp (by omega)]
      · intro ⟨i, i1, i2, i3⟩
        obtain ⟨c', c1, c2, c3⟩ := cnt_surj (f := ce C m) (n := 256) (k := i - st m) (by omega)
        have := g2 c' c1 c2
        rw [c3, show st m + (i - st m) = i by omega] at this
        rw [this, nI_clamp (by omega)] at i3
        rw [← i3]
        exact c2
  · show (r.2 13 i).toNatClampNeg < (r.2 13 j).toNatClampNeg
    replace i1 : (if m ≤ L then st m else st L + cntT (ce C L) 256) ≤ i := i1
    replace i3 : j < (if m + 1 ≤ L then st (m + 1) else st L + cntT (ce C L) 256) := i3
    rw [if_pos (by omega)] at i1
    by_cases q : m + 1 ≤ L
    · rw [if_pos q] at i3
      have hm1 := hle (m + 1) q
      obtain ⟨k1, k2⟩ := b4' i (by omega)
      obtain ⟨k3, k4⟩ := b4' j (by omega)
      rw [g3 i (by omega), g3 j (by omega), k1, k3, nI_clamp (by omega), nI_clamp (by omega)]
      exact b7 m (by omega) i j i1 i2 i3
    · have z : m = L := by omega
      subst z
      rw [if_neg q] at i3
      obtain ⟨c, c1, c2, c3⟩ := cnt_surj (f := ce C m) (n := 256) (k := i - st m) (by omega)
      obtain ⟨d, d1, d2, d3⟩ := cnt_surj (f := ce C m) (n := 256) (k := j - st m) (by omega)
      have ec := g2 c c1 c2
      have ed := g2 d d1 d2
      rw [c3, show st m + (i - st m) = i by omega] at ec
      rw [d3, show st m + (j - st m) = j by omega] at ed
      rw [ec, ed, nI_clamp (by omega), nI_clamp (by omega)]
      exact cnt_inv (f := ce C m) (by omega)
  · show 0 < (if 1 ≤ L then st 1 else st L + cntT (ce C L) 256) ∧ (r.2 13 0).toNatClampNeg = 170
    by_cases q : 1 ≤ L
    · rw [if_pos q]
      obtain ⟨k1, k2⟩ := b8 (by omega)
      have := hle 1 q
      obtain ⟨k3, k4⟩ := b4' 0 (by omega)
      refine ⟨k1, ?_⟩
      rw [g3 0 (by omega), k3, nI_clamp (by omega), k2]
    · have z : L = 0 := by omega
      subst z
      rw [if_neg q, b9]
      have c170 : ce C 0 170 = true := ce_iff.mpr ((zero rfl 170 (by decide)).mpr (Or.inl rfl))
      have n0 : cntT (ce C 0) 170 = 0 := cnt_z fun c hc => by
        cases b : ce C 0 c with
        | false => rfl
        | true =>
          have := (zero rfl c (by omega)).mp (ce_iff.mp b)
          rcases this with w | w | w <;> omega
      have lt := cnt_lt (f := ce C 0) (show 170 < 256 by decide) c170
      have := g2 170 (by decide) c170
      rw [b9, n0] at this
      refine ⟨by omega, ?_⟩
      rw [this, nI_clamp (by omega)]
  · show (if 0 ≤ L then st 0 else st L + cntT (ce C L) 256) = 0
    rw [if_pos (by omega)]
    exact b9
  · show hset r.2 14 (L + 1) (nI (st L + cntT (ce C L) 256)) 10 9 = nI (if L + 1 ≤ L then st (L + 1) else st L + cntT (ce C L) 256)
    rw [hset_if, if_neg (by simp), if_neg (by omega)]
    exact g1
  · show (if m ≤ L then st m else st L + cntT (ce C L) 256) = _
    by_cases q : m ≤ L
    · rw [if_pos q]; exact sc m q
    · rw [if_neg q, show m = L + 1 by omega, cb_succ, scL]
  · rw [hset_if, if_neg (by simp)]
    exact g4
  · rw [hset_if, if_neg (fun w => w2 w.1)]
    exact g7 p k w1 w2 w3
