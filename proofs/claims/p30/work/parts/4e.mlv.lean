/-! The model's costs, level by level. -/
def RMM (h h' : Hp) : Prop := ∀ p k, ¬ (p = 37 ∧ (k = 23 ∨ k = 24)) → (p < 46 ∨ 51 < p) → h' p k = h p k
theorem RMM_tr {h h1 h2 : Hp} (a : RMM h h1) (b : RMM h1 h2) : RMM h h2 := fun p k q r => (b p k q r).trans (a p k q r)
theorem rowM_RMM {h h' : Hp} {o : Nat} {s : Sh} (r : RMM h h') (H : rowM h o s) : rowM h' o s := ⟨(r 38 _ (by simp) (Or.inl (by decide))).trans H.1, (r 38 _ (by simp) (Or.inl (by decide))).trans H.2.1, fun i hi => (r 38 _ (by simp) (Or.inl (by decide))).trans (H.2.2 i hi)⟩
theorem MR_row {h : Hp} {s : Sh} {C : Nat → Option Nat} {n : Nat} (hle : ∀ c k, C c = some k → k ≤ n) (H : MR h s C) : ∀ c, c < 256 → (∀ k, C c = some k → h 46 c = nI k ∧ k ≤ n) ∧ (C c = none → h 46 c = -1) :=
  fun c hc => ⟨fun k e => ⟨((H c hc).1 k e).1, hle c k e⟩, fun e => (H c hc).2 e⟩
def MI (h : Hp) (s : Sh) (n : Nat) (st : Nat → Nat) : Prop := MR h s (LV s (n - 1)) ∧ (∃ bc, BM h n (LV s (n - 1)) bc st) ∧ SC n (LV s (n - 1)) st ∧ h 37 23 = nI 1
theorem mlevel_at {h : Hp} {s : Sh} {n : Nat} {st : Nat → Nat} {u2 : Int32} (hS : rowM h 0 s) (hs : okS s) (hn : 1 ≤ n) (hn2 : n ≤ 9999) (H : MI h s n st) : ∃ (o : Int32 × Hp) (h' : Hp) (st' : Nat → Nat), loopN 1000000 (fun s => Jm_layCosts_L124 (nI (st n)) u2 (nI n) s.1 s.2) (0, hset h 37 24 (nI n)) = some o ∧ Jm_closeLevel (nI (st n)) o.2 = some (nI (st' (n + 1)), h') ∧ MI h' s (n + 1) st' ∧ st' (n + 1) = st n + cntT (ce (LV s n) n) 256 ∧ RMM h h' := by
  obtain ⟨i1, ⟨bc, i2⟩, i3, i4⟩ := H
  have h6 := hs.1
  have hb := base_lt hs
  have e0 : ∀ p k, ¬ (p = 37 ∧ k = 24) → hset h 37 24 (nI n) p k = h p k := fun p k w => by rw [hset_if, if_neg w]
  obtain ⟨r, l1, c1, c2, c3, c4, c5⟩ := loop_cnt (fun t => Jm_layCosts_L124 (nI (st n)) u2 (nI n) t.1 t.2) (fun F t => t.1 = nI F ∧ MR t.2 s (LVp s n F) ∧ BM t.2 n (LV s (n - 1)) bc st ∧ t.2 37 24 = nI n ∧ t.2 37 23 = nI 1 ∧ RMM h t.2) (fun t => MR t.2 s (LVp s n s.1) ∧ BM t.2 n (LV s (n - 1)) bc st ∧ t.2 37 24 = nI n ∧ t.2 37 23 = nI 1 ∧ RMM h t.2) s.1 (fun F t hF ht => by
      obtain ⟨F', hh⟩ := t
      obtain ⟨e1, c1, c2, c3, c4, c5⟩ := ht
      replace e1 : F' = nI F := e1
      subst e1
      replace c1 : MR hh s (LVp s n F) := c1
      replace c2 : BM hh n (LV s (n - 1)) bc st := c2
      replace c3 : hh 37 24 = nI n := c3
      replace c4 : hh 37 23 = nI 1 := c4
      replace c5 : RMM h hh := c5
      obtain ⟨s1, s2, s3⟩ := rowM_RMM c5 hS
      replace s2 : hh 38 7 = nI s.2.2 := s2
      have a1 := has_tl (b := s.2.2) (t := F) (by omega) (by omega)
      rcases t01 (tl_le s.2.2 F) with q | q
      · rw [q] at a1
        have nF : ¬ chs s F := fun w => by have := w.2; omega
        refine Or.inl ⟨(nI (F + 1), hh), ?_, rfl, by rw [LVp_skip nF]; exact c1, c2, c3, c4, c5⟩
        simp (disch := omega) only [Jm_layCosts_L124, s1, s2, a1, bd_some, lt_of', sm_l, sm_r, lit, lN_n, hset_if, nI_ltP, nI_eqI, nI_add, nI_sub, nI_clamp, ib_nI, cond_true, if_pos, if_neg, and_self, and_true, true_and, false_and, and_false, ↓reduceIte, eq_self, nI_m1]
      · rw [q] at a1
        have hf := hs.2.1 F hF
        obtain ⟨h2, k1, k2, k3⟩ := offerAll_at (t := F) (f := s.2.1 F) hn hn2 (by omega) hf c3 (by have := s3 F hF; rw [Nat.zero_add] at this; exact this) (MR_CMo hn c1) c2
        refine Or.inl ⟨(nI (F + 1), h2), ?_, rfl, MR_step hn (by omega) ⟨hF, q⟩ c1 k2, BM_fr (fun k => k3 50 k (by decide) (by decide) (by decide) (by decide)) (fun k => k3 51 k (by decide) (by decide) (by decide) (by decide)) c2, (k3 37 24 (by decide) (by decide) (by decide) (by decide)).trans c3, (k3 37 23 (by decide) (by decide) (by decide) (by decide)).trans c4, fun p k w1 w2 => (k3 p k (by omega) (by omega) (by omega) (by omega)).trans (c5 p k w1 w2)⟩
        simp (disch := omega) only [Jm_layCosts_L124, s1, s2, a1, k1, bd_some, lt_of', sm_l, sm_r, lit, lN_n, hset_if, nI_ltP, nI_eqI, nI_add, nI_sub, nI_clamp, ib_nI, cond_true, if_pos, if_neg, and_self, and_true, true_and, false_and, and_false, ↓reduceIte, eq_self, nI_m1]
        all_goals simp) (fun t ht => by
      obtain ⟨F', hh⟩ := t
      obtain ⟨e1, c1, c2, c3, c4, c5⟩ := ht
      replace e1 : F' = nI s.1 := e1
      subst e1
      replace c5 : RMM h hh := c5
      obtain ⟨s1, s2, s3⟩ := rowM_RMM c5 hS
      refine ⟨(nI s.1, hh), ?_, c1, c2, c3, c4, c5⟩
      simp (disch := omega) only [Jm_layCosts_L124, s1, bd_some, lt_of', sm_l, sm_r, lit, lN_n, hset_if, nI_ltP, nI_eqI, nI_add, nI_sub, nI_clamp, ib_nI, cond_true, if_pos, if_neg, and_self, and_true, true_and, false_and, and_false, ↓reduceIte, eq_self, nI_m1]) (F := 1000000) (by omega) (a := 0) (by omega) (s := (0, hset h 37 24 (nI n))) ⟨rfl, by
        rw [LVp_0]
        exact MR_fr (fun k => e0 46 k (by simp)) (fun k => e0 47 k (by simp)) (fun k => e0 48 k (by simp)) (fun k => e0 49 k (by simp)) i1, BM_fr (fun k => e0 50 k (by simp)) (fun k => e0 51 k (by simp)) i2, by
        show hset h 37 24 (nI n) 37 24 = _
        rw [hset_if, if_pos (by decide)], (e0 37 23 (by simp)).trans i4, fun p k w1 w2 => e0 p k (fun w => w1 ⟨w.1, Or.inr w.2⟩)⟩
  obtain ⟨m, rfl⟩ : ∃ m, n = m + 1 := ⟨n - 1, by omega⟩
  have hm : m + 1 - 1 = m := rfl
  rw [LVp_all] at c1
  simp only [hm] at c2 i3
  have s51 : r.2 51 (m + 1) = nI (st (m + 1)) := c2.2.2.2.2.1 (m + 1) (Nat.le_refl _)
  have sc : SC (m + 1) (LV s (m + 1)) st := fun k hk => by
    rw [i3 k hk]
    exact cnt_eq fun c _ => (cb_LV hk c).symm
  obtain ⟨h5, bc', st', k1, k2, k3, k4⟩ := close_at (C0 := LV s m) (C := LV s (m + 1)) (bc := bc) (st := st) (show m + 1 < 10000 by omega) c3 (BM_fr (fun k => by rw [hset_if, if_neg (by simp)]) (fun k => by
      rw [hset_if]
      by_cases z : k = m + 1
      · rw [if_pos ⟨rfl, z⟩, z, s51]
      · rw [if_neg (fun w => z w.2)]) c2) sc (fun k hk c hc => (LV_iff (Nat.le_succ m) (by omega)).symm) (MR_row (fun c k e => (LV_at e).1) c1)
  refine ⟨r, h5, st', l1, k1, ⟨MR_fr (fun k => k4 46 k (by decide) (by decide)) (fun k => k4 47 k (by decide) (by decide)) (fun k => k4 48 k (by decide) (by decide)) (fun k => k4 49 k (by decide) (by decide)) c1, ⟨bc', k2⟩, k3, (k4 37 23 (by decide) (by decide)).trans c4⟩, ?_, ?_⟩
  · rw [k3 (m + 1 + 1) (Nat.le_refl _), cb_succ, ← sc (m + 1) (Nat.le_refl _)]
  · intro p k w1 w2
    exact (k4 p k (by omega) (by omega)).trans (c5 p k w1 w2)
/-- the model's costs are laid -/
def MF (h : Hp) (s : Sh) : Prop := MR h s (FC s) ∧ h 37 23 = nI 1
theorem MF_fr {h h' : Hp} {s : Sh} (e : h' 37 23 = h 37 23) (a : ∀ k, h' 46 k = h 46 k) (b : ∀ k, h' 47 k = h 47 k) (c : ∀ k, h' 48 k = h 48 k) (d : ∀ k, h' 49 k = h 49 k) (H : MF h s) : MF h' s := ⟨MR_fr a b c d H.1, e.trans H.2⟩
theorem minit {h : Hp} : ∃ r, loopN 1000000 (fun s => Jm_layCosts_L15 s.1 s.2) (0, h) = some r ∧ (∀ c, c < 256 → (base3 c → r.2 46 c = nI 0 ∧ r.2 49 c = nI 1) ∧ (¬ base3 c → r.2 46 c = -1)) ∧ ∀ p k, p ≠ 46 → p ≠ 49 → r.2 p k = h p k := by
  obtain ⟨r, l1, l2⟩ := loop_cnt (fun s => Jm_layCosts_L15 s.1 s.2) (fun i t => t.1 = nI i ∧ (∀ c, c < i → (base3 c → t.2 46 c = nI 0 ∧ t.2 49 c = nI 1) ∧ (¬ base3 c → t.2 46 c = -1)) ∧ ∀ p k, p ≠ 46 → p ≠ 49 → t.2 p k = h p k) (fun t => (∀ c, c < 256 → (base3 c → t.2 46 c = nI 0 ∧ t.2 49 c = nI 1) ∧ (¬ base3 c → t.2 46 c = -1)) ∧ ∀ p k, p ≠ 46 → p ≠ 49 → t.2 p k = h p k) 256 (fun i t hi ht => by
      obtain ⟨i', hh⟩ := t
      obtain ⟨e1, h1, h2⟩ := ht
      replace e1 : i' = nI i := e1
      subst e1
      replace h1 : ∀ c, c < i → (base3 c → hh 46 c = nI 0 ∧ hh 49 c = nI 1) ∧ (¬ base3 c → hh 46 c = -1) := h1
      replace h2 : ∀ p k, p ≠ 46 → p ≠ 49 → hh p k = h p k := h2
      have fin : ∀ {v w : Int32}, (base3 i → v = nI 0 ∧ w = nI 1) → (¬ base3 i → v = -1) → (∀ c, c < i + 1 → (base3 c → hset (hset hh 46 i v) 49 i w 46 c = nI 0 ∧ hset (hset hh 46 i v) 49 i w 49 c = nI 1) ∧ (¬ base3 c → hset (hset hh 46 i v) 49 i w 46 c = -1)) ∧ ∀ p k, p ≠ 46 → p ≠ 49 → hset (hset hh 46 i v) 49 i w p k = h p k := by
        intro v w q1 q2
        refine ⟨fun c hc => ?_, fun p k w1 w2 => ?_⟩
        · have e46 : hset (hset hh 46 i v) 49 i w 46 c = if c = i then v else hh 46 c := by
            rw [hset_if, if_neg (by simp), hset_if]
            by_cases z : c = i
            · rw [if_pos ⟨rfl, z⟩, if_pos z]
            · rw [if_neg (fun w => z w.2), if_neg z]
          have e49 : hset (hset hh 46 i v) 49 i w 49 c = if c = i then w else hh 49 c := by
            rw [hset_if]
            by_cases z : c = i
            · rw [if_pos ⟨rfl, z⟩, if_pos z]
            · rw [if_neg (fun w => z w.2), if_neg z, hset_if, if_neg (by simp)]
          rw [e46, e49]
          by_cases z : c = i
          · subst z
            rw [if_pos rfl, if_pos rfl]
            exact ⟨q1, q2⟩
          · rw [if_neg z, if_neg z]
            exact h1 c (by omega)
        · rw [hset_if, if_neg (fun w => w2 w.1), hset_if, if_neg (fun w => w1 w.1)]
          exact h2 p k w1 w2
      have hlt : nI i < (256 : Int32) := (nI_ltI (b := 256) (by omega) (by omega)).mpr hi
      have yes : base3 i → Jm_layCosts_L15 (nI i) hh = Jm_layCosts_J48 (nI i) 1 hh := fun q => by
        unfold Jm_layCosts_L15
        rw [if_pos hlt]
        rcases q with rfl | rfl | rfl <;> rfl
      have no : ¬ base3 i → Jm_layCosts_L15 (nI i) hh = Jm_layCosts_J48 (nI i) 0 hh := fun q => by
        unfold Jm_layCosts_L15
        rw [if_pos hlt, if_neg (show ¬ nI i = (170 : Int32) from fun w => q (Or.inl ((nI_eq (a := i) (b := 170) (by omega) (by omega)).mp w))), if_neg (show ¬ nI i = (204 : Int32) from fun w => q (Or.inr (Or.inl ((nI_eq (a := i) (b := 204) (by omega) (by omega)).mp w)))), if_neg (show ¬ nI i = (240 : Int32) from fun w => q (Or.inr (Or.inr ((nI_eq (a := i) (b := 240) (by omega) (by omega)).mp w))))]
      by_cases q : base3 i
      · refine Or.inl ⟨(nI (i + 1), hset (hset hh 46 i (nI 0)) 49 i (nI 1)), ?_, rfl, fin (fun _ => ⟨rfl, rfl⟩) (fun w => absurd q w)⟩
        show Jm_layCosts_L15 (nI i) hh = _
        rw [yes q]
        simp (disch := omega) only [Jm_layCosts_J48, Jm_layCosts_J63, bd_some, lt_of', sm_l, sm_r, lit, lN_n, hset_if, nI_ltP, nI_eqI, nI_add, nI_sub, nI_clamp, ib_nI, cond_true, if_pos, if_neg, and_self, and_true, true_and, false_and, and_false, ↓reduceIte, eq_self, nI_m1]
        all_goals simp
      · refine Or.inl ⟨(nI (i + 1), hset (hset hh 46 i (-1)) 49 i (nI 0)), ?_, rfl, fin (fun w => absurd w q) (fun _ => rfl)⟩
        show Jm_layCosts_L15 (nI i) hh = _
        rw [no q]
        simp (disch := omega) only [Jm_layCosts_J48, Jm_layCosts_J63, bd_some, lt_of', sm_l, sm_r, lit, lN_n, hset_if, nI_ltP, nI_eqI, nI_add, nI_sub, nI_clamp, ib_nI, cond_true, if_pos, if_neg, and_self, and_true, true_and, false_and, and_false, ↓reduceIte, eq_self, nI_m1]) (fun t ht => by
      obtain ⟨i', hh⟩ := t
      obtain ⟨e1, h1⟩ := ht
      replace e1 : i' = nI 256 := e1
      subst e1
      exact ⟨(nI 256, hh), by simp (disch := omega) only [Jm_layCosts_L15, bd_some, lt_of', sm_l, sm_r, lit, lN_n, hset_if, nI_ltP, nI_eqI, nI_add, nI_sub, nI_clamp, ib_nI, cond_true, if_pos, if_neg, and_self, and_true, true_and, false_and, and_false, ↓reduceIte, eq_self, nI_m1], h1⟩) (F := 1000000) (by omega) (a := 0) (by omega) (s := (0, h)) ⟨rfl, fun c hc => absurd hc (by omega), fun _ _ _ _ => rfl⟩
  exact ⟨r, l1, l2⟩
theorem layCosts_at {h : Hp} {s : Sh} (hS : rowM h 0 s) (hs : okS s) (H : h 37 23 = nI 0 ∨ MF h s) : ∃ h', Jm_layCosts h = some h' ∧ MF h' s ∧ RMM h h' := by
  by_cases q0 : h 37 23 = nI 0
  · obtain ⟨r, a1, a2, a3⟩ := minit (h := hset h 37 23 (nI 1))
    have e0 : ∀ p k, ¬ (p = 37 ∧ k = 24) → hset r.2 37 24 (nI 0) p k = r.2 p k := fun p k w => by rw [hset_if, if_neg w]
    have M0 : MR (hset r.2 37 24 (nI 0)) s (LV s 0) := fun c hc => by
      rw [e0 46 c (by simp), e0 49 c (by simp)]
      by_cases b : base3 c
      · obtain ⟨b1, b2⟩ := (a2 c hc).1 b
        rw [(LV_0 s c).mpr b]
        refine ⟨fun k e => ?_, fun w => by cases w⟩
        cases e
        exact ⟨b1, fun _ => b2, fun w => absurd w (by omega)⟩
      · rw [(LV_0n s c).mpr b]
        exact ⟨fun k e => (by cases e), fun _ => (a2 c hc).2 b⟩
    obtain ⟨h3, bc, st, k1, k2, k3, k4⟩ := close_at (h := hset r.2 37 24 (nI 0)) (L := 0) (C0 := LV s 0) (C := LV s 0) (bc := fun _ => 0) (st := fun _ => 0) (by omega) (by rw [hset_if, if_pos (by decide)]) ⟨by omega, Nat.zero_le 256, fun m hm => absurd hm (by omega), fun i hi => absurd hi (Nat.not_lt_zero i), fun m hm => by
      rw [show m = 0 by omega, hset_if, if_pos ⟨rfl, rfl⟩], fun m hm => absurd hm (by omega), fun m hm => absurd hm (by omega), rfl⟩ (fun m hm => by
      refine (cnt_z fun c _ => ?_).symm
      cases q : cb (LV s 0) m c with
      | false => rfl
      | true => obtain ⟨k, -, q2⟩ := cb_iff.mp q; omega) (fun m hm => absurd hm (by omega)) (MR_row (fun c k e => (LV_at e).1) M0)
    have I1 : MI h3 s 1 st := ⟨MR_fr (fun k => k4 46 k (by decide) (by decide)) (fun k => k4 47 k (by decide) (by decide)) (fun k => k4 48 k (by decide) (by decide)) (fun k => k4 49 k (by decide) (by decide)) M0, ⟨bc, k2⟩, k3, ((k4 37 23 (by decide) (by decide)).trans (e0 37 23 (by simp))).trans ((a3 37 23 (by decide) (by decide)).trans (by rw [hset_if, if_pos (by decide)]))⟩
    have K1 : RMM h h3 := fun p k w1 w2 => (((k4 p k (by omega) (by omega)).trans (e0 p k (by omega))).trans (a3 p k (by omega) (by omega))).trans (by rw [hset_if, if_neg (by omega)])
    obtain ⟨r2, l1, l2, l3⟩ := loop_cnt (fun t => Jm_layCosts_L100 t.1 t.2.1 t.2.2.1 t.2.2.2) (fun n t => ∃ st, t.1 = nI (st n) ∧ t.2.1 = nI (drN s (n - 1)) ∧ t.2.2.1 = nI n ∧ 1 ≤ n ∧ MI t.2.2.2 s n st ∧ RMM h t.2.2.2) (fun t => MF t.2.2.2 s ∧ RMM h t.2.2.2) 10000 (fun n t hn ht => by
        obtain ⟨v1, v2, v3, hh⟩ := t
        obtain ⟨st, e1, e2, e3, c1, c2, c3⟩ := ht
        replace e1 : v1 = nI (st n) := e1
        replace e2 : v2 = nI (drN s (n - 1)) := e2
        replace e3 : v3 = nI n := e3
        subst e1
        subst e2
        subst e3
        replace c2 : MI hh s n st := c2
        replace c3 : RMM h hh := c3
        have dle := drN_le s (n - 1)
        have n1 : ¬ (9999 : Int32) < nI n := fun w => absurd ((nI_ltI (a := 9999) (by omega) (by omega)).mp w) (by omega)
        have arith : ((3 : Int32) * nI (drN s (n - 1))) + (1 : Int32) = nI (3 * drN s (n - 1) + 1) := by
          rw [lit 3, lit 1, nI_mul, nI_add]
        by_cases d : 3 * drN s (n - 1) + 1 < n
        · refine Or.inr ⟨(nI (st n), nI (drN s (n - 1)), nI n, hh), ?_, ⟨?_, c2.2.2.2⟩, c3⟩
          · show Jm_layCosts_L100 (nI (st n)) (nI (drN s (n - 1))) (nI n) hh = _
            unfold Jm_layCosts_L100
            rw [if_neg n1, arith, if_pos ((nI_ltI (by omega) (by omega)).mpr d)]
          · have e : FC s = LV s (n - 1) := FC_fin (by omega) fun m hm c => congrFun (LV_stop (s := s) (n := n - 1) (by omega) m hm).1 c
            rw [e]
            exact c2.1
        · have d' : ¬ nI (3 * drN s (n - 1) + 1) < nI n := fun w => d ((nI_ltI (by omega) (by omega)).mp w)
          obtain ⟨o, h', st', j0, j1, j2, j3, j4⟩ := mlevel_at (u2 := nI (drN s (n - 1))) (n := n) (rowM_RMM c3 hS) hs c1 (by omega) c2
          have st2 := j2.2.2.1 (n + 1) (Nat.le_refl _)
          have st1 : st' (n + 1) ≤ 256 := by rw [st2]; exact cntT_le _ _
          have dr : drN s n = if cntT (ce (LV s n) n) 256 = 0 then drN s (n - 1) else n := by
            obtain ⟨m, rfl⟩ : ∃ m, n = m + 1 := ⟨n - 1, by omega⟩
            simp only [drN]
            by_cases q : ∃ c, c < 256 ∧ LV s (m + 1) c = some (m + 1)
            · rw [if_pos q, if_neg]
              obtain ⟨c, q1, q2⟩ := q
              exact cnt_pos.mpr ⟨c, q1, ce_iff.mpr q2⟩
            · rw [if_neg q, if_pos]
              · rfl
              · refine Classical.byContradiction fun w => ?_
                obtain ⟨c, q1, q2⟩ := cnt_pos.mp w
                exact q ⟨c, q1, ce_iff.mp q2⟩
          have run : Jm_layCosts_L100 (nI (st n)) (nI (drN s (n - 1))) (nI n) hh = if nI (st n) < nI (st' (n + 1)) then some (.inl (nI (st' (n + 1)), nI n, nI (n + 1), h')) else some (.inl (nI (st' (n + 1)), nI (drN s (n - 1)), nI (n + 1), h')) := by
            unfold Jm_layCosts_L100
            rw [if_neg n1, arith, if_neg d', lt_of']
            refine (bd_of j0).trans ?_
            rw [j1, bd_some, lit 1, nI_add]
          by_cases z : cntT (ce (LV s n) n) 256 = 0
          · rw [if_pos z] at dr
            refine Or.inl ⟨(nI (st' (n + 1)), nI (drN s n), nI (n + 1), h'), ?_, st', rfl, rfl, rfl, by omega, j2, RMM_tr c3 j4⟩
            show Jm_layCosts_L100 (nI (st n)) (nI (drN s (n - 1))) (nI n) hh = _
            rw [run, if_neg (fun w => absurd ((nI_ltI (by omega) (by omega)).mp w) (by omega)), dr]
          · rw [if_neg z] at dr
            refine Or.inl ⟨(nI (st' (n + 1)), nI (drN s n), nI (n + 1), h'), ?_, st', rfl, rfl, rfl, by omega, j2, RMM_tr c3 j4⟩
            show Jm_layCosts_L100 (nI (st n)) (nI (drN s (n - 1))) (nI n) hh = _
            rw [run, if_pos ((nI_ltI (by omega) (by omega)).mpr (by omega)), dr]) (fun t ht => by
        obtain ⟨v1, v2, v3, hh⟩ := t
        obtain ⟨st, e1, e2, e3, c1, c2, c3⟩ := ht
        replace e3 : v3 = nI 10000 := e3
        subst e3
        refine ⟨(v1, v2, nI 10000, hh), ?_, ⟨?_, c2.2.2.2⟩, c3⟩
        · show Jm_layCosts_L100 v1 v2 (nI 10000) hh = _
          unfold Jm_layCosts_L100
          rw [if_pos (by decide)]
        · rw [FC_is s (n := 10000 - 1) (by omega)]
          exact c2.1) (F := 1000000) (by omega) (a := 1) (by omega) (s := (nI (st 1), 0, 1, h3)) ⟨st, rfl, rfl, rfl, Nat.le_refl 1, I1, K1⟩
    refine ⟨r2.2.2.2, ?_, l2, l3⟩
    unfold Jm_layCosts
    rw [if_pos (show h 37 23 = 0 from q0), lt_of', show (hset h 37 23 1) = hset h 37 23 (nI 1) from rfl, a1, bd_some, lt_of', show (hset r.2 37 24 0) = hset r.2 37 24 (nI 0) from rfl]
    refine (bd_of k1).trans ?_
    exact bd_of l1
  · rcases H with H | H
    · exact absurd H q0
    · refine ⟨h, ?_, H, fun _ _ _ _ => rfl⟩
      unfold Jm_layCosts
      rw [if_neg (show ¬ h 37 23 = 0 from q0)]
