/-! The model's ranks. -/
def rkP (l : Nat) : Nat := rkS (plN l)
def RS (r : Nat) (x : Hp) : Prop := ∀ l, l < 46 → (rkP l ≤ r → x 45 l = nI (rkP l)) ∧ (r < rkP l → x 45 l = -nI 1)
def RM (r : Nat) (D : Nat → Prop) (x : Hp) : Prop := ∀ l, l < 46 → (rkP l ≤ r → x 45 l = nI (rkP l)) ∧ (r + 1 < rkP l → x 45 l = -nI 1) ∧ (rkP l = r + 1 → (x 45 l = nI (r + 1) ∨ x 45 l = -nI 1) ∧ (D l → x 45 l = nI (r + 1)))
theorem rkP_le {l : Nat} (hl : l < 46) : rkP l ≤ 3 := by
  obtain ⟨b1, b2, -⟩ := pcB_at hl
  exact ((pcA_at b1).2.1 b2).2.2.2.1
def disc (r k c l : Nat) : Prop := ∃ k' c', (k' < k ∨ (k' = k ∧ c' < c)) ∧ k' < 46 ∧ c' < 256 ∧ rkP k' = r ∧ ixN (plN k' &&& trN c') = l
theorem m1_neg : (-nI 1 : Int32) < nI 0 := by decide
theorem nI_nneg {n : Nat} (h : n < 2 ^ 31) : ¬ nI n < nI 0 := nI_pos h
theorem grow12 {r k : Nat} (hr : r < 12) (hk : k < 46) (hrk : rkP k = r) {x : Hp} (hP : pLaid x) (hx : RM r (disc r k 0) x) : ∃ s, loopN 1000000 (fun s => Jm_growRanks_L12 (nI r) (nI k) s.1 s.2) (0, x) = some s ∧ RM r (disc r (k + 1) 0) s.2 ∧ pLaid s.2 ∧ (∀ j, j ≠ 12 → j ≠ 14 → s.2 37 j = x 37 j) ∧ ∀ p, p ≠ 37 → p ≠ 43 → p ≠ 44 → p ≠ 45 → s.2 p = x p := by
  refine loop_cnt (fun s => Jm_growRanks_L12 (nI r) (nI k) s.1 s.2) (fun c s => s.1 = nI c ∧ RM r (disc r k c) s.2 ∧ pLaid s.2 ∧ (∀ j, j ≠ 12 → j ≠ 14 → s.2 37 j = x 37 j) ∧ ∀ p, p ≠ 37 → p ≠ 43 → p ≠ 44 → p ≠ 45 → s.2 p = x p) (fun s => RM r (disc r (k + 1) 0) s.2 ∧ pLaid s.2 ∧ (∀ j, j ≠ 12 → j ≠ 14 → s.2 37 j = x 37 j) ∧ ∀ p, p ≠ 37 → p ≠ 43 → p ≠ 44 → p ≠ 45 → s.2 p = x p) 256 (fun c s hc hs => ?_) (fun s hs => ?_) (by omega) (a := 0) (by omega) ⟨rfl, hx, hP, fun _ _ _ => rfl, fun _ _ _ _ _ => rfl⟩
  · obtain ⟨a, y⟩ := s
    obtain ⟨rfl, g1, g2, g3, g4⟩ := hs
    simp only at g1 g2 g3 g4
    have a1 := (g1 k hk).1 (by omega)
    rw [hrk] at a1
    have a2 := g2.2.2 k hk
    have a3 := g2.1.2 c hc
    obtain ⟨f1, f2, f3⟩ := (pcE_at hc).2.2 k hk
    obtain ⟨y1, e1, t1, t2, t3⟩ := placeOf_at (h := y) (Or.inr g2.1) (Or.inr g2) f2 f1
    obtain ⟨i1, i2⟩ := isP_ix f2 f1
    have e45 : y1 45 = y 45 := t3 45 (by decide) (by decide) (by decide)
    generalize hS : plN k &&& trN c = S at e1 f1 f2 f3 i1 i2
    have f4 : rkP (ixN S) ≤ r + 1 := by
      show rkS (plN (ixN S)) ≤ r + 1
      rw [i2, ← hrk]; exact f3
    have hdS : ∀ l, disc r k (c + 1) l → disc r k c l ∨ l = ixN S := by
      intro l hd
      obtain ⟨k', c', q, q1, q2, q3, q4⟩ := hd
      by_cases z : k' = k ∧ c' = c
      · obtain ⟨rfl, rfl⟩ := z
        rw [hS] at q4
        exact Or.inr q4.symm
      · exact Or.inl ⟨k', c', by omega, q1, q2, q3, q4⟩
    have hfr : ∀ v, pLaid (hset y1 45 (ixN S) v) := fun v => pLaid_fr (h := y1) (by rw [hset_ne (by decide)]) (by rw [hset_ne (by decide)]) (by rw [hset_ne (by decide)]) (by rw [hset_ne (by decide)]) t1
    have hfj : ∀ v j, j ≠ 12 → j ≠ 14 → hset y1 45 (ixN S) v 37 j = x 37 j := fun v j j1 j2 => by rw [hset_ne (by decide), t2 j j1 j2]; exact g3 j j1 j2
    have hfp : ∀ v p, p ≠ 37 → p ≠ 43 → p ≠ 44 → p ≠ 45 → hset y1 45 (ixN S) v p = x p := fun v p p1 p2 p3 p4 => by rw [hset_ne p4, t3 p p1 p2 p3]; exact g4 p p1 p2 p3 p4
    have r3 := rkP_le i1
    -- what stands there
    have hcase : (y 45 (ixN S) = nI (rkP (ixN S)) ∧ True) ∨ (y 45 (ixN S) = -nI 1 ∧ rkP (ixN S) = r + 1) := by
      by_cases z : rkP (ixN S) ≤ r
      · exact Or.inl ⟨(g1 _ i1).1 z, trivial⟩
      · have z2 : rkP (ixN S) = r + 1 := by omega
        rcases ((g1 _ i1).2.2 z2).1 with w | w
        · exact Or.inl ⟨by rw [w, z2], trivial⟩
        · exact Or.inr ⟨w, z2⟩
    rcases hcase with ⟨w, -⟩ | ⟨w, z2⟩
    · have w1 : y1 45 (ixN S) = nI (rkP (ixN S)) := by rw [e45]; exact w
      have wn : ¬ nI (rkP (ixN S)) < nI 0 := nI_nneg (by omega)
      refine Or.inl ⟨(nI (c + 1), hset y1 45 (ixN S) (nI (rkP (ixN S)))), ?_, rfl, fun l hl => ?_, hfr (nI (rkP (ixN S))), hfj (nI (rkP (ixN S))), hfp (nI (rkP (ixN S)))⟩
      · simp (disch := omega) only [Jm_growRanks_L12, a1, a2, a3, nI_and, hS, e1, w1, wn, bd_some, lt_of', sm_l, sm_r, lit, lN_n, hset_if, nI_ltP, nI_eqI, nI_add, nI_sub, nI_clamp, ib_nI, cond_true, if_pos, if_neg, and_self, and_true, true_and, false_and, and_false, ↓reduceIte, eq_self, nI_m1]
      · have hsame : hset y1 45 (ixN S) (nI (rkP (ixN S))) 45 l = y 45 l := by
          by_cases z : l = ixN S
          · rw [z, hset_at]; exact w.symm
          · rw [hset_ne2 z, e45]
        show (rkP l ≤ r → hset y1 45 (ixN S) (nI (rkP (ixN S))) 45 l = _) ∧ (r + 1 < rkP l → hset y1 45 (ixN S) (nI (rkP (ixN S))) 45 l = _) ∧ (rkP l = r + 1 → (hset y1 45 (ixN S) (nI (rkP (ixN S))) 45 l = _ ∨ hset y1 45 (ixN S) (nI (rkP (ixN S))) 45 l = _) ∧ (_ → hset y1 45 (ixN S) (nI (rkP (ixN S))) 45 l = _))
        rw [hsame]
        refine ⟨(g1 l hl).1, (g1 l hl).2.1, fun z => ⟨((g1 l hl).2.2 z).1, fun hd => ?_⟩⟩
        rcases hdS l hd with hd | hd
        · exact ((g1 l hl).2.2 z).2 hd
        · rw [hd, w, ← hd, z]
    · have w1 : y1 45 (ixN S) = -nI 1 := by rw [e45]; exact w
      refine Or.inl ⟨(nI (c + 1), hset y1 45 (ixN S) (nI (r + 1))), ?_, rfl, fun l hl => ?_, hfr (nI (r + 1)), hfj (nI (r + 1)), hfp (nI (r + 1))⟩
      · simp (disch := omega) only [Jm_growRanks_L12, a1, a2, a3, nI_and, hS, e1, w1, m1_neg, bd_some, lt_of', sm_l, sm_r, lit, lN_n, hset_if, nI_ltP, nI_eqI, nI_add, nI_sub, nI_clamp, ib_nI, cond_true, if_pos, if_neg, and_self, and_true, true_and, false_and, and_false, ↓reduceIte, eq_self, nI_m1]
      · show (rkP l ≤ r → hset y1 45 (ixN S) (nI (r + 1)) 45 l = _) ∧ (r + 1 < rkP l → hset y1 45 (ixN S) (nI (r + 1)) 45 l = _) ∧ (rkP l = r + 1 → (hset y1 45 (ixN S) (nI (r + 1)) 45 l = _ ∨ hset y1 45 (ixN S) (nI (r + 1)) 45 l = _) ∧ (_ → hset y1 45 (ixN S) (nI (r + 1)) 45 l = _))
        by_cases z : l = ixN S
        · rw [z, hset_at]
          exact ⟨fun q => by omega, fun q => by omega, fun _ => ⟨Or.inl rfl, fun _ => rfl⟩⟩
        · rw [hset_ne2 z, e45]
          refine ⟨(g1 l hl).1, (g1 l hl).2.1, fun z3 => ⟨((g1 l hl).2.2 z3).1, fun hd => ?_⟩⟩
          rcases hdS l hd with hd | hd
          · exact ((g1 l hl).2.2 z3).2 hd
          · exact absurd hd z
  · obtain ⟨a, y⟩ := s
    obtain ⟨rfl, g1, g2, g3, g4⟩ := hs
    simp only at g1 g2 g3 g4
    refine ⟨(nI 256, y), by simp (disch := omega) only [Jm_growRanks_L12, bd_some, lt_of', sm_l, sm_r, lit, lN_n, hset_if, nI_ltP, nI_eqI, nI_add, nI_sub, nI_clamp, ib_nI, cond_true, if_pos, if_neg, and_self, and_true, true_and, false_and, and_false, ↓reduceIte, eq_self, nI_m1], fun l hl => ⟨(g1 l hl).1, (g1 l hl).2.1, fun z => ⟨((g1 l hl).2.2 z).1, fun hd => ((g1 l hl).2.2 z).2 ?_⟩⟩, g2, g3, g4⟩
    obtain ⟨k', c', q, q1, q2, q3, q4⟩ := hd
    exact ⟨k', c', by omega, q1, q2, q3, q4⟩
theorem growRanks_at {r : Nat} (hr : r < 12) {x : Hp} (hP : pLaid x) (hx : RS r x) : ∃ x', Jm_growRanks (nI r) x = some x' ∧ RS (r + 1) x' ∧ pLaid x' ∧ (∀ j, j ≠ 12 → j ≠ 14 → x' 37 j = x 37 j) ∧ ∀ p, p ≠ 37 → p ≠ 43 → p ≠ 44 → p ≠ 45 → x' p = x p := by
  obtain ⟨s, e1, g1, g2, g3, g4⟩ := loop_cnt (fun s => Jm_growRanks_L2 (nI r) s.1 s.2) (fun k s => s.1 = nI k ∧ RM r (disc r k 0) s.2 ∧ pLaid s.2 ∧ (∀ j, j ≠ 12 → j ≠ 14 → s.2 37 j = x 37 j) ∧ ∀ p, p ≠ 37 → p ≠ 43 → p ≠ 44 → p ≠ 45 → s.2 p = x p) (fun s => RM r (disc r 46 0) s.2 ∧ pLaid s.2 ∧ (∀ j, j ≠ 12 → j ≠ 14 → s.2 37 j = x 37 j) ∧ ∀ p, p ≠ 37 → p ≠ 43 → p ≠ 44 → p ≠ 45 → s.2 p = x p) 46 (fun k s hk hs => by
    obtain ⟨a, y⟩ := s
    obtain ⟨rfl, g1, g2, g3, g4⟩ := hs
    simp only at g1 g2 g3 g4
    have h14 := g2.2.1
    by_cases q : rkP k = r
    · obtain ⟨s, e1, t1, t2, t3, t4⟩ := grow12 hr hk q g2 g1
      refine Or.inl ⟨(nI (k + 1), s.2), ?_, rfl, t1, t2, fun j j1 j2 => (t3 j j1 j2).trans (g3 j j1 j2), fun p p1 p2 p3 p4 => (t4 p p1 p2 p3 p4).trans (g4 p p1 p2 p3 p4)⟩
      show Jm_growRanks_L2 (nI r) (nI k) y = _
      unfold Jm_growRanks_L2
      rw [h14]
      refine (if_pos (nI_lt hk (by decide))).trans ?_
      refine (bd_of e1).trans ?_
      rw [nI_1]
    · have r3 := rkP_le hk
      have hne : ¬ y 45 k = nI r := by
        by_cases z : rkP k ≤ r
        · rw [(g1 k hk).1 z]
          exact fun w => q ((nI_eq (by omega) (by omega)).mp w)
        · have hm : ¬ (-nI 1 : Int32) = nI r := fun w => by
            have := nI_m1 (n := r) (by omega)
            rw [← this]; exact w.symm
          by_cases z2 : rkP k = r + 1
          · rcases ((g1 k hk).2.2 z2).1 with w | w
            · rw [w]; exact fun u => by have := (nI_eq (by omega) (by omega)).mp u; omega
            · rw [w]; exact hm
          · rw [(g1 k hk).2.1 (by omega)]; exact hm
      have e1 : loopN 1000000 (fun s => Jm_growRanks_L12 (nI r) (nI k) s.1 s.2) (0, y) = some (0, y) := by
        rw [show (1000000 : Nat) = 999999 + 1 from rfl]
        refine loopN_out ?_ _
        show Jm_growRanks_L12 (nI r) (nI k) (nI 0) y = _
        simp (disch := omega) only [Jm_growRanks_L12, hne, bd_some, lt_of', sm_l, sm_r, lit, lN_n, hset_if, nI_ltP, nI_eqI, nI_add, nI_sub, nI_clamp, ib_nI, cond_true, if_pos, if_neg, and_self, and_true, true_and, false_and, and_false, ↓reduceIte, eq_self, nI_m1]
      refine Or.inl ⟨(nI (k + 1), y), ?_, rfl, fun l hl => ⟨(g1 l hl).1, (g1 l hl).2.1, fun z => ⟨((g1 l hl).2.2 z).1, fun hd => ((g1 l hl).2.2 z).2 ?_⟩⟩, g2, g3, g4⟩
      · show Jm_growRanks_L2 (nI r) (nI k) y = _
        unfold Jm_growRanks_L2
        rw [h14]
        refine (if_pos (nI_lt hk (by decide))).trans ?_
        refine (bd_of e1).trans ?_
        rw [nI_1]
      · obtain ⟨k', c', q0, q1, q2, q3, q4⟩ := hd
        refine ⟨k', c', ?_, q1, q2, q3, q4⟩
        by_cases w : k' = k
        · subst w; exact absurd q3 q
        · omega) (fun s hs => by
    obtain ⟨a, y⟩ := s
    obtain ⟨rfl, g1, g2, g3, g4⟩ := hs
    have h14 : y 37 14 = nI 46 := g2.2.1
    exact ⟨(nI 46, y), by simp (disch := omega) only [Jm_growRanks_L2, h14, bd_some, lt_of', sm_l, sm_r, lit, lN_n, hset_if, nI_ltP, nI_eqI, nI_add, nI_sub, nI_clamp, ib_nI, cond_true, if_pos, if_neg, and_self, and_true, true_and, false_and, and_false, ↓reduceIte, eq_self, nI_m1], g1, g2, g3, g4⟩) (F := 1000000) (by omega) (a := 0) (by omega) (s := (0, x)) ⟨rfl, fun l hl => ⟨(hx l hl).1, fun z => (hx l hl).2 (by omega), fun z => ⟨Or.inr ((hx l hl).2 (by omega)), fun hd => by obtain ⟨k', c', q, -⟩ := hd; omega⟩⟩, hP, fun _ _ _ => rfl, fun _ _ _ _ _ => rfl⟩
  refine ⟨s.2, ?_, fun l hl => ⟨fun z => ?_, fun z => (g1 l hl).2.1 z⟩, g2, g3, g4⟩
  · unfold Jm_growRanks
    exact (bd_of e1).trans rfl
  · by_cases z2 : rkP l ≤ r
    · exact (g1 l hl).1 z2
    · have z3 : rkP l = r + 1 := by omega
      rw [z3]
      refine ((g1 l hl).2.2 z3).2 ?_
      obtain ⟨b1, b2, b3, b4, b5, b6, b7⟩ := pcB_at hl
      rcases b7 with ⟨d1, d2⟩ | ⟨d1, d2⟩
      · exfalso
        have : rkP l = 0 := by show rkS (plN l) = 0; rw [d2]; exact pc0.2.2.1
        omega
      · have hds := ((pcA_at b1).2.1 b2).2.2.2.2
        have hn : dsN (plN l) - 1 < 11776 := by omega
        obtain ⟨-, -, -, -, -, -, -, -, p9⟩ := pcC_at hn
        rw [d2] at p9
        have hq := (p9 (by omega)).2.1
        have hqi : (dsN (plN l) - 1) / 256 < 46 := by omega
        obtain ⟨c1, c2, c3, c4, c5, -⟩ := pcB_at hqi
        obtain ⟨i1, i2⟩ := isP_ix c4 c5
        refine ⟨ixN (quN ((dsN (plN l) - 1) / 256)), (dsN (plN l) - 1) % 256, Or.inl i1, i1, Nat.mod_lt _ (by decide), ?_, by rw [i2, d2]; exact b3⟩
        show rkS (plN (ixN _)) = r
        rw [i2]
        have : rkS (plN l) = r + 1 := z3
        omega
theorem rankM_at {h : Hp} (H : pLaid h) (H2 : h 37 16 = nI 0 ∨ rLaid h) {k : Nat} (hk : k < 46) : ∃ h', Jm_rankOf (nI k) h = some (nI (rkS (plN k)), h') ∧ rLaid h' ∧ (∀ j, j ≠ 12 → j ≠ 14 → j ≠ 16 → h' 37 j = h 37 j) ∧ ∀ p, p ≠ 37 → p ≠ 43 → p ≠ 44 → p ≠ 45 → h' p = h p := by
  have h14 := H.2.1
  have fin : ∀ (a b : Int32 × Hp), loopN 1000000 (fun s => Jm_rankOf_L2 (nI k) s.1 s.2) (0, h) = some a → loopN 1000000 (fun s => Jm_rankOf_L48 (nI k) s.1 s.2) (0, a.2) = some b → RS 12 b.2 → pLaid b.2 → (∀ j, j ≠ 12 → j ≠ 14 → b.2 37 j = h 37 j) → (∀ p, p ≠ 37 → p ≠ 43 → p ≠ 44 → p ≠ 45 → b.2 p = h p) → ∃ h', Jm_rankOf (nI k) h = some (nI (rkS (plN k)), h') ∧ rLaid h' ∧ (∀ j, j ≠ 12 → j ≠ 14 → j ≠ 16 → h' 37 j = h 37 j) ∧ ∀ p, p ≠ 37 → p ≠ 43 → p ≠ 44 → p ≠ 45 → h' p = h p := by
    intro a b e1 e2 e3 e4 e5 e6
    have hall : ∀ l, l < 46 → b.2 45 l = nI (rkS (plN l)) := fun l hl => (e3 l hl).1 (Nat.le_trans (rkP_le hl) (by decide))
    refine ⟨hset b.2 37 16 1, ?_, ⟨pLaid_fr (h := b.2) (by simp [hset_if]) (by rw [hset_ne (by decide)]) (by simp [hset_if]) (by rw [hset_ne (by decide)]) e4, by simp [hset_if]; rfl, fun l hl => by rw [hset_ne (by decide)]; exact hall l hl⟩, fun j j1 j2 j3 => by rw [hset_ne2 j3]; exact e5 j j1 j2, fun p p1 p2 p3 p4 => by rw [hset_ne p1]; exact e6 p p1 p2 p3 p4⟩
    unfold Jm_rankOf
    refine (bd_of e1).trans ?_
    refine (bd_of e2).trans ?_
    have hk45 := hall k hk
    simp (disch := omega) only [hk45, bd_some, lt_of', sm_l, sm_r, lit, lN_n, hset_if, nI_ltP, nI_eqI, nI_add, nI_sub, nI_clamp, ib_nI, cond_true, if_pos, if_neg, and_self, and_true, true_and, false_and, and_false, ↓reduceIte, eq_self, nI_m1]
  rcases H2 with H2 | H2
  · obtain ⟨a, e1, g1, g2⟩ := loop_cnt (fun s => Jm_rankOf_L2 (nI k) s.1 s.2) (fun i s => s.1 = nI i ∧ (∀ l, l < i → s.2 45 l = if plN l = 4095 then nI 0 else -nI 1) ∧ ∀ p, p ≠ 45 → s.2 p = h p) (fun r => (∀ l, l < 46 → r.2 45 l = if plN l = 4095 then nI 0 else -nI 1) ∧ ∀ p, p ≠ 45 → r.2 p = h p) 46 (fun i s hi hs => by
      obtain ⟨a, y⟩ := s
      obtain ⟨rfl, g1, g2⟩ := hs
      simp only at g1 g2
      have a1 : y 37 14 = nI 46 := by rw [g2 37 (by decide)]; exact h14
      have a2 : y 37 16 = nI 0 := by rw [g2 37 (by decide)]; exact H2
      have a3 : y 44 i = nI (plN i) := by rw [g2 44 (by decide)]; exact H.2.2 i hi
      have b1 := (pcB_at hi).1
      refine Or.inl ⟨(nI (i + 1), hset y 45 i (if plN i = 4095 then nI 0 else -nI 1)), ?_, rfl, fun l hl => ?_, fun p hp => by show hset y 45 i _ p = _; rw [hset_ne hp]; exact g2 p hp⟩
      · by_cases q : plN i = 4095
        · rw [if_pos q]
          simp (disch := omega) only [Jm_rankOf_L2, a1, a2, a3, q, bd_some, lt_of', sm_l, sm_r, lit, lN_n, hset_if, nI_ltP, nI_eqI, nI_add, nI_sub, nI_clamp, ib_nI, cond_true, if_pos, if_neg, and_self, and_true, true_and, false_and, and_false, ↓reduceIte, eq_self, nI_m1]
        · rw [if_neg q]
          simp (disch := omega) only [Jm_rankOf_L2, a1, a2, a3, q, bd_some, lt_of', sm_l, sm_r, lit, lN_n, hset_if, nI_ltP, nI_eqI, nI_add, nI_sub, nI_clamp, ib_nI, cond_true, if_pos, if_neg, and_self, and_true, true_and, false_and, and_false, ↓reduceIte, eq_self, nI_m1]
      · show hset y 45 i _ 45 l = _
        by_cases q : l = i
        · rw [q, hset_at]
        · rw [hset_ne2 q]; exact g1 l (by omega)) (fun s hs => by
      obtain ⟨a, y⟩ := s
      obtain ⟨rfl, g1, g2⟩ := hs
      simp only at g1 g2
      have a1 : y 37 14 = nI 46 := by rw [g2 37 (by decide)]; exact h14
      exact ⟨(nI 46, y), by simp (disch := omega) only [Jm_rankOf_L2, a1, bd_some, lt_of', sm_l, sm_r, lit, lN_n, hset_if, nI_ltP, nI_eqI, nI_add, nI_sub, nI_clamp, ib_nI, cond_true, if_pos, if_neg, and_self, and_true, true_and, false_and, and_false, ↓reduceIte, eq_self, nI_m1], g1, g2⟩) (F := 1000000) (by omega) (a := 0) (by omega) (s := (0, h)) ⟨rfl, fun l hl => absurd hl (Nat.not_lt_zero l), fun _ _ => rfl⟩
    have r0 : RS 0 a.2 := by
      intro l hl
      obtain ⟨b1, b2, b3, b4, b5, b6, b7⟩ := pcB_at hl
      rw [g1 l hl]
      rcases b7 with ⟨d1, d2⟩ | ⟨d1, d2⟩
      · have z : rkP l = 0 := by show rkS (plN l) = 0; rw [d2]; exact pc0.2.2.1
        rw [if_pos d2, z]
        exact ⟨fun _ => rfl, fun q => absurd q (Nat.lt_irrefl 0)⟩
      · have hds := ((pcA_at b1).2.1 b2).2.2.2.2
        have hn : dsN (plN l) - 1 < 11776 := by omega
        obtain ⟨-, -, -, -, -, -, -, -, p9⟩ := pcC_at hn
        rw [d2] at p9
        have hq : rkP l = _ := (p9 (by omega)).2.1
        have hne : ¬ plN l = 4095 := fun q => by
          rw [q, pc0.2.2.2.1] at d1
          omega
        rw [if_neg hne]
        exact ⟨fun q => by omega, fun _ => rfl⟩
    have pa : pLaid a.2 := pLaid_fr (by rw [g2 37 (by decide)]) (g2 43 (by decide)) (by rw [g2 37 (by decide)]) (g2 44 (by decide)) H
    obtain ⟨b, e2, q1, q2, q3, q4⟩ := loop_cnt (fun s => Jm_rankOf_L48 (nI k) s.1 s.2) (fun i s => s.1 = nI i ∧ RS i s.2 ∧ pLaid s.2 ∧ (∀ j, j ≠ 12 → j ≠ 14 → s.2 37 j = h 37 j) ∧ ∀ p, p ≠ 37 → p ≠ 43 → p ≠ 44 → p ≠ 45 → s.2 p = h p) (fun s => RS 12 s.2 ∧ pLaid s.2 ∧ (∀ j, j ≠ 12 → j ≠ 14 → s.2 37 j = h 37 j) ∧ ∀ p, p ≠ 37 → p ≠ 43 → p ≠ 44 → p ≠ 45 → s.2 p = h p) 12 (fun i s hi hs => by
      obtain ⟨c, y⟩ := s
      obtain ⟨rfl, g1, g2, g3, g4⟩ := hs
      simp only at g1 g2 g3 g4
      have a2 : y 37 16 = nI 0 := by rw [g3 16 (by decide) (by decide)]; exact H2
      obtain ⟨y', t1, t2, t3, t4, t5⟩ := growRanks_at hi g2 g1
      refine Or.inl ⟨(nI (i + 1), y'), ?_, rfl, t2, t3, fun j j1 j2 => (t4 j j1 j2).trans (g3 j j1 j2), fun p p1 p2 p3 p4 => (t5 p p1 p2 p3 p4).trans (g4 p p1 p2 p3 p4)⟩
      simp (disch := omega) only [Jm_rankOf_L48, a2, t1, bd_some, lt_of', sm_l, sm_r, lit, lN_n, hset_if, nI_ltP, nI_eqI, nI_add, nI_sub, nI_clamp, ib_nI, cond_true, if_pos, if_neg, and_self, and_true, true_and, false_and, and_false, ↓reduceIte, eq_self, nI_m1]) (fun s hs => by
      obtain ⟨c, y⟩ := s
      obtain ⟨rfl, g1, g2, g3, g4⟩ := hs
      exact ⟨(nI 12, y), by simp (disch := omega) only [Jm_rankOf_L48, bd_some, lt_of', sm_l, sm_r, lit, lN_n, hset_if, nI_ltP, nI_eqI, nI_add, nI_sub, nI_clamp, ib_nI, cond_true, if_pos, if_neg, and_self, and_true, true_and, false_and, and_false, ↓reduceIte, eq_self, nI_m1], g1, g2, g3, g4⟩) (F := 1000000) (by omega) (a := 0) (by omega) (s := (0, a.2)) ⟨rfl, r0, pa, fun j _ _ => by rw [g2 37 (by decide)], fun p _ _ _ p4 => g2 p p4⟩
    exact fin a b e1 e2 q1 q2 q3 q4
  · have e1 : loopN 1000000 (fun s => Jm_rankOf_L2 (nI k) s.1 s.2) (0, h) = some (0, h) := by
      rw [show (1000000 : Nat) = 999999 + 1 from rfl]
      refine loopN_out ?_ _
      have h16 := H2.2.1
      show Jm_rankOf_L2 (nI k) (nI 0) h = _
      simp (disch := omega) only [Jm_rankOf_L2, h14, h16, bd_some, lt_of', sm_l, sm_r, lit, lN_n, hset_if, nI_ltP, nI_eqI, nI_add, nI_sub, nI_clamp, ib_nI, cond_true, if_pos, if_neg, and_self, and_true, true_and, false_and, and_false, ↓reduceIte, eq_self, nI_m1]
    have e2 : loopN 1000000 (fun s => Jm_rankOf_L48 (nI k) s.1 s.2) (0, h) = some (0, h) := by
      rw [show (1000000 : Nat) = 999999 + 1 from rfl]
      refine loopN_out ?_ _
      have h16 := H2.2.1
      show Jm_rankOf_L48 (nI k) (nI 0) h = _
      simp (disch := omega) only [Jm_rankOf_L48, h16, bd_some, lt_of', sm_l, sm_r, lit, lN_n, hset_if, nI_ltP, nI_eqI, nI_add, nI_sub, nI_clamp, ib_nI, cond_true, if_pos, if_neg, and_self, and_true, true_and, false_and, and_false, ↓reduceIte, eq_self, nI_m1]
    exact fin _ _ e1 e2 (fun l hl => ⟨fun _ => H2.2.2 l hl, fun q => by have := rkP_le hl; omega⟩) H (fun _ _ _ => rfl) (fun _ _ _ _ _ => rfl)
