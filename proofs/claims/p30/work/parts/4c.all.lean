/-! The model's search: one function as top. -/
theorem WayP_3 {C : Nat → Option Nat} {f n c x y z : Nat} (ha : arN f = 3) : WayP C f n c x y z ↔ (∃ i j k, C x = some i ∧ C y = some j ∧ C z = some k ∧ i + j + k + 1 = n) ∧ c = pN f x y z ∧ x < 256 ∧ y < 256 ∧ z < 256 := by
  constructor
  · intro w
    rcases w with w | w | w | w
    · have := w.1; omega
    · have := w.1; omega
    · have := w.1; omega
    · exact w.2
  · intro w; exact Or.inr (Or.inr (Or.inr ⟨ha, w⟩))
theorem WayP_2 {C : Nat → Option Nat} {f n c x y z : Nat} (ha : arN f = 2) : WayP C f n c x y z ↔ (∃ i j, C x = some i ∧ C y = some j ∧ i + j + 1 = n) ∧ c = pN f x y 0 ∧ x < 256 ∧ y < 256 ∧ z = 0 := by
  constructor
  · intro w
    rcases w with w | w | w | w
    · have := w.1; omega
    · have := w.1; omega
    · exact w.2
    · have := w.1; omega
  · intro w; exact Or.inr (Or.inr (Or.inl ⟨ha, w⟩))
theorem WayP_1 {C : Nat → Option Nat} {f n c x y z : Nat} (ha : arN f = 1) : WayP C f n c x y z ↔ (∃ i, C x = some i ∧ i + 1 = n) ∧ c = pN f x 0 0 ∧ x < 256 ∧ y = 0 ∧ z = 0 := by
  constructor
  · intro w
    rcases w with w | w | w | w
    · have := w.1; omega
    · exact w.2
    · have := w.1; omega
    · have := w.1; omega
  · intro w; exact Or.inr (Or.inl ⟨ha, w⟩)
theorem WayP_0 {C : Nat → Option Nat} {f n c x y z : Nat} (ha : arN f = 0) : WayP C f n c x y z ↔ n = 1 ∧ c = f ∧ x = 0 ∧ y = 0 ∧ z = 0 := by
  constructor
  · intro w
    rcases w with w | w | w | w
    · exact w.2
    · have := w.1; omega
    · have := w.1; omega
    · have := w.1; omega
  · intro w; exact Or.inl ⟨ha, w⟩
theorem WayP_parts {h : Hp} {C : Nat → Option Nat} {f n c x y z : Nat} (hn : n < 2 ^ 31) (H : CMo h n C) (w : WayP C f n c x y z) : (0 < arN f → x < 256 ∧ h 46 x ≠ -1) ∧ (1 < arN f → y < 256 ∧ h 46 y ≠ -1) ∧ (2 < arN f → z < 256 ∧ h 46 z ≠ -1) := by
  have M : ∀ {d k : Nat}, d < 256 → C d = some k → h 46 d ≠ -1 := fun hd e => CMo_made hn H hd e
  rcases w with ⟨a, -⟩ | ⟨a, ⟨i, e1, -⟩, -, hx, -⟩ | ⟨a, ⟨i, j, e1, e2, -⟩, -, hx, hy, -⟩ | ⟨a, ⟨i, j, k, e1, e2, e3, -⟩, -, hx, hy, hz⟩ <;> rw [a]
  · exact ⟨fun q => absurd q (by decide), fun q => absurd q (by decide), fun q => absurd q (by decide)⟩
  · exact ⟨fun _ => ⟨hx, M hx e1⟩, fun q => absurd q (by decide), fun q => absurd q (by decide)⟩
  · exact ⟨fun _ => ⟨hx, M hx e1⟩, fun _ => ⟨hy, M hy e2⟩, fun q => absurd q (by decide)⟩
  · exact ⟨fun _ => ⟨hx, M hx e1⟩, fun _ => ⟨hy, M hy e2⟩, fun _ => ⟨hz, M hz e3⟩⟩
theorem isMadeM_yes {h : Hp} {n c k : Nat} {C : Nat → Option Nat} (hn : n < 2 ^ 31) (H : CMo h n C) (e : h 37 24 = nI n) (hc : c < 256) (ec : C c = some k) : Jm_isMade (nI c) h = some 1 := by
  obtain ⟨b1, b2⟩ := (H c hc).1 k ec
  unfold Jm_isMade
  rw [ib_nI (by omega) (by omega), cond_true, nI_clamp (by omega), b1, if_neg (nI_pos (by omega)), cond_true, e, if_pos ((nI_ltI (by omega) hn).mpr b2)]
theorem isMadeM_no {h : Hp} {n c : Nat} {C : Nat → Option Nat} (hn : n < 2 ^ 31) (H : CMo h n C) (e : h 37 24 = nI n) (hc : c < 256) (ec : C c = none) : Jm_isMade (nI c) h = some 0 := by
  unfold Jm_isMade
  rw [ib_nI (by omega) (by omega), cond_true, nI_clamp (by omega)]
  rcases (H c hc).2 ec with w | w
  · rw [w, if_pos m1_lt0]
  · rw [w, if_neg (nI_pos hn), cond_true, e, if_neg (fun q => absurd ((nI_ltI hn hn).mp q) (by omega))]
theorem neg_sub {a b : Nat} (h : a < b) (hb : b < 2 ^ 30) : nI a - nI b < 0 := by
  rw [Int32.lt_iff_toInt_lt, pk_sub_toInt (by omega) hb]
  show (a : Int) - b < 0
  omega
theorem offerSecond_at {h : Hp} {n t f x i : Nat} {C : Nat → Option Nat} {bc st : Nat → Nat} (hn : n ≤ 9999) (ht : t < 6) (hf : f < 256) (ha : arN f = 2 ∨ arN f = 3) (hx : x < 256) (e : h 37 24 = nI n) (ef : h 38 (1 + t) = nI f) (H : CMo h n C) (B : BM h n C bc st) (ex : C x = some i) : ∃ h', Jm_offerSecond (nI t) (nI x) (nI (arN f)) h = some h' ∧ Mof n t (arN f) (fun c x' y z => x' = x ∧ WayP C f n c x' y z) h h' ∧ RM4 h h' := by
  have hn31 : n < 2 ^ 31 := by omega
  obtain ⟨r, l1, l2, l3⟩ := loop_cnt (fun s => Jm_offerSecond_L3 (nI t) (nI x) (nI (arN f)) s.1 s.2) (fun v s => s.1 = nI v ∧ Mof n t (arN f) (fun c x' y z => x' = x ∧ y < v ∧ WayP C f n c x' y z) h s.2 ∧ RM4 h s.2) (fun r => Mof n t (arN f) (fun c x' y z => x' = x ∧ WayP C f n c x' y z) h r.2 ∧ RM4 h r.2) 256 (fun y s hy hs => by
      obtain ⟨y', hh⟩ := s
      obtain ⟨e1, m, r4⟩ := hs
      replace e1 : y' = nI y := e1
      subst e1
      replace m : Mof n t (arN f) (fun c x' y' z => x' = x ∧ y' < y ∧ WayP C f n c x' y' z) h hh := m
      replace r4 : RM4 h hh := r4
      have H' := CMo_Mof hn31 m H
      have u1 : hh 37 24 = nI n := (r4 37 24 (by decide) (by decide) (by decide) (by decide)).trans e
      have u2 : hh 38 (1 + t) = nI f := (r4 38 (1 + t) (by decide) (by decide) (by decide) (by decide)).trans ef
      obtain ⟨x1, x2⟩ := (H' x hx).1 i ex
      -- what one more y gives
      have glue : ∀ {h2 : Hp}, Mof n t (arN f) (fun c x' y' z => x' = x ∧ y' = y ∧ WayP C f n c x' y' z) hh h2 → Mof n t (arN f) (fun c x' y' z => x' = x ∧ y' < y + 1 ∧ WayP C f n c x' y' z) h h2 := fun k2 => Mof_tr hn31 m k2 (fun c x' y' z' _ _ => by
          constructor
          · intro ⟨w1, w2, w3⟩
            by_cases q : y' = y
            · exact Or.inr ⟨w1, q, w3⟩
            · exact Or.inl ⟨w1, by omega, w3⟩
          · intro w
            rcases w with ⟨w1, w2, w3⟩ | ⟨w1, w2, w3⟩
            · exact ⟨w1, by omega, w3⟩
            · exact ⟨w1, by omega, w3⟩) (fun c x1 y1 z1 x2 y2 z2 w1 w2 => Or.inr ⟨w1.1.trans w2.1.symm, Or.inl (by have := w1.2.1; have := w2.2.1; omega)⟩) (fun c x' y' z' w => WayP_parts hn31 H w.2.2)
      have skip : (∀ c z, ¬ WayP C f n c x y z) → Mof n t (arN f) (fun c x' y' z => x' = x ∧ y' < y + 1 ∧ WayP C f n c x' y' z) h hh := fun w => glue (Mof_refl fun c x' y' z _ _ q => by
          obtain ⟨q1, q2, q3⟩ := q
          subst q1
          subst q2
          exact w c z q3)
      have nopart : ∀ {s0 : Int32}, s0 < 0 → Jm_offerSecond_J45 (nI t) (nI x) (nI (arN f)) (nI y) s0 hh = some (.inl (nI (y + 1), hh)) := fun q => by
        unfold Jm_offerSecond_J45
        rw [if_pos q, if_neg (fun w => by rw [w] at q; exact absurd q (by decide)), lit 1, nI_add]
      cases ey : C y with
      | none =>
        have v := isMadeM_no hn31 H' u1 hy ey
        refine Or.inl ⟨(nI (y + 1), hh), ?_, rfl, skip fun c z w => ?_, r4⟩
        · show Jm_offerSecond_L3 (nI t) (nI x) (nI (arN f)) (nI y) hh = _
          unfold Jm_offerSecond_L3
          rw [if_pos (show nI y < (256 : Int32) from (nI_ltI (b := 256) (by omega) (by omega)).mpr hy), v, bd_some, if_pos rfl]
          exact nopart m1_lt0
        · rcases ha with ha | ha
          · obtain ⟨⟨i', j', -, w, -⟩, -⟩ := (WayP_2 ha).mp w
            rw [ey] at w; cases w
          · obtain ⟨⟨i', j', k', -, w, -⟩, -⟩ := (WayP_3 ha).mp w
            rw [ey] at w; cases w
      | some j =>
        have v := isMadeM_yes hn31 H' u1 hy ey
        obtain ⟨y1, y2⟩ := (H' y hy).1 j ey
        have run : Jm_offerSecond_L3 (nI t) (nI x) (nI (arN f)) (nI y) hh = Jm_offerSecond_J45 (nI t) (nI x) (nI (arN f)) (nI y) (nI (n - 1 - i) - nI j) hh := by
          unfold Jm_offerSecond_L3
          rw [if_pos (show nI y < (256 : Int32) from (nI_ltI (b := 256) (by omega) (by omega)).mpr hy), v, bd_some, if_neg (by decide), ib_nI (by omega) (by omega), cond_true, ib_nI (by omega) (by omega), cond_true, nI_clamp (by omega), nI_clamp (by omega), x1, y1, u1, lit 1, nI_sub (by omega), nI_sub (by omega)]
        by_cases q : j ≤ n - 1 - i
        · rw [nI_sub q] at run
          have n0 : ¬ nI (n - 1 - i - j) < 0 := nI_nneg (by omega)
          rcases ha with ha | ha
          · by_cases z0 : n - 1 - i - j = 0
            · obtain ⟨h2, k1, k2, k3⟩ := offer_at (t := t) (a := 2) (x := x) (y := y) (z := 0) (c := pN f x y 0) hn31 (by decide) (pN_lt _ _ _ _) (fun _ => hx) (fun _ => hy) (fun w => absurd w (by decide)) u1 H'
              simp only [pv, if_pos (show 0 < 2 by decide), if_pos (show 1 < 2 by decide), if_neg (show ¬ 2 < 2 by decide)] at k1
              replace k1 : Jm_offer (nI (pN f x y 0)) (nI t) (nI x) (nI y) (-nI 1) hh = some h2 := k1
              have p1 := Jm_putOn_at (f := f) (x := x) (y := y) (z := 0) (by omega) (by omega) (by omega) (by omega)
              refine Or.inl ⟨(nI (y + 1), h2), ?_, rfl, glue ?_, RM4_tr r4 k3⟩
              · show Jm_offerSecond_L3 (nI t) (nI x) (nI (arN f)) (nI y) hh = _
                rw [run]
                unfold Jm_offerSecond_J45
                rw [if_neg n0, ha, if_neg (by decide), z0, if_pos (show nI 0 = (0 : Int32) from rfl), lit 1, nI_add, ib_nI (by omega) (by omega), cond_true, nI_clamp (by omega), u2, lit 0, p1, bd_some, k1, bd_some, nI_add]
              · rw [ha]
                refine Mof_cg (fun c x' y' z _ _ => ?_) k2
                rw [WayP_2 ha]
                constructor
                · intro ⟨w1, w2, w3, w4⟩
                  subst w2; subst w3
                  exact ⟨rfl, rfl, ⟨i, j, ex, ey, by omega⟩, w1, hx, hy, w4⟩
                · intro ⟨w1, w2, _, w3, _, _, w4⟩
                  subst w1; subst w2
                  exact ⟨w3, rfl, rfl, w4⟩
            · refine Or.inl ⟨(nI (y + 1), hh), ?_, rfl, skip fun c z w => ?_, r4⟩
              · show Jm_offerSecond_L3 (nI t) (nI x) (nI (arN f)) (nI y) hh = _
                rw [run]
                unfold Jm_offerSecond_J45
                rw [if_neg n0, ha, if_neg (by decide), if_neg (show ¬ nI (n - 1 - i - j) = (0 : Int32) from fun w => z0 ((nI_eq (a := n - 1 - i - j) (b := 0) (by omega) (by omega)).mp w)), lit 1, nI_add]
              · obtain ⟨⟨i', j', w1, w2, w3⟩, -⟩ := (WayP_2 ha).mp w
                rw [ex] at w1; rw [ey] at w2
                cases w1; cases w2
                omega
          · have mx := CMo_made hn31 H' hx ex
            have my := CMo_made hn31 H' hy ey
            obtain ⟨h2, k1, k2, k3⟩ := offerThird_at (k := n - 1 - i - j) hn31 ht hf hx hy u1 u2 H' (BM_fr (fun k => r4 50 k (by decide) (by decide) (by decide) (by decide)) (fun k => r4 51 k (by decide) (by decide) (by decide) (by decide)) B) (by omega) mx my
            refine Or.inl ⟨(nI (y + 1), h2), ?_, rfl, glue ?_, RM4_tr r4 k3⟩
            · show Jm_offerSecond_L3 (nI t) (nI x) (nI (arN f)) (nI y) hh = _
              rw [run]
              unfold Jm_offerSecond_J45
              rw [if_neg n0, ha, if_pos (show nI 3 = (3 : Int32) from rfl), k1, bd_some, lit 1, nI_add]
            · rw [ha]
              refine Mof_cg (fun c x' y' z _ _ => ?_) k2
              rw [WayP_3 ha]
              constructor
              · intro ⟨w1, w2, w3, w4, w5⟩
                subst w1; subst w2
                exact ⟨rfl, rfl, ⟨i, j, _, ex, ey, w4, by omega⟩, w5, hx, hy, w3⟩
              · intro ⟨w1, w2, ⟨i', j', k', q1, q2, q3, q4⟩, w3, _, _, w4⟩
                subst w1; subst w2
                rw [ex] at q1; rw [ey] at q2
                cases q1; cases q2
                refine ⟨rfl, rfl, w4, ?_, w3⟩
                rw [q3]
                congr 1
                omega
        · refine Or.inl ⟨(nI (y + 1), hh), ?_, rfl, skip fun c z w => ?_, r4⟩
          · show Jm_offerSecond_L3 (nI t) (nI x) (nI (arN f)) (nI y) hh = _
            rw [run]
            exact nopart (neg_sub (by omega) (by omega))
          · rcases ha with ha | ha
            · obtain ⟨⟨i', j', w1, w2, w3⟩, -⟩ := (WayP_2 ha).mp w
              rw [ex] at w1; rw [ey] at w2
              cases w1; cases w2
              omega
            · obtain ⟨⟨i', j', k', w1, w2, -, w3⟩, -⟩ := (WayP_3 ha).mp w
              rw [ex] at w1; rw [ey] at w2
              cases w1; cases w2
              omega) (fun s hs => by
      obtain ⟨y', hh⟩ := s
      obtain ⟨e1, m, r4⟩ := hs
      replace e1 : y' = nI 256 := e1
      subst e1
      refine ⟨(nI 256, hh), by simp (disch := omega) only [Jm_offerSecond_L3, bd_some, lt_of', sm_l, sm_r, lit, lN_n, hset_if, nI_ltP, nI_eqI, nI_add, nI_sub, nI_clamp, ib_nI, cond_true, if_pos, if_neg, and_self, and_true, true_and, false_and, and_false, ↓reduceIte, eq_self, nI_m1], Mof_cg (fun c x' y z _ _ => ?_) m, r4⟩
      constructor
      · intro w; exact ⟨w.1, w.2.2⟩
      · intro w
        refine ⟨w.1, ?_, w.2⟩
        rcases ha with ha | ha
        · exact ((WayP_2 ha).mp w.2).2.2.2.1
        · exact ((WayP_3 ha).mp w.2).2.2.2.1) (F := 1000000) (by omega) (a := 0) (by omega) (s := (0, h)) ⟨rfl, Mof_refl (fun c x' y z _ _ w => absurd w.2.1 (Nat.not_lt_zero y)), fun _ _ _ _ _ _ => rfl⟩
  refine ⟨r.2, ?_, l2, l3⟩
  unfold Jm_offerSecond
  exact bd_of l1
theorem offerAll_at {h : Hp} {n t f : Nat} {C : Nat → Option Nat} {bc st : Nat → Nat} (hn0 : 1 ≤ n) (hn : n ≤ 9999) (ht : t < 6) (hf : f < 256) (e : h 37 24 = nI n) (ef : h 38 (1 + t) = nI f) (H : CMo h n C) (B : BM h n C bc st) : ∃ h', Jm_offerAll (nI t) h = some h' ∧ Mof n t (arN f) (fun c x y z => WayP C f n c x y z) h h' ∧ RM4 h h' := by
  have hn31 : n < 2 ^ 31 := by omega
  have ha4 := (ta_at hf).2.2.1
  have par := (pu_at hf).2.2.2.1
  have start : Jm_offerAll (nI t) h = if nI (arN f) = 0 then (if (h 37 24) = 1 then bd (Jm_offer (nI f) (nI t) (-1) (-1) (-1) h) fun c2 => bd (loopN 1000000 (fun s => Jm_offerAll_L42 (nI t) (nI (arN f)) s.1 s.2) (0, c2)) fun (t9 : Int32 × Hp) => some t9.2 else bd (loopN 1000000 (fun s => Jm_offerAll_L42 (nI t) (nI (arN f)) s.1 s.2) (0, h)) fun (t10 : Int32 × Hp) => some t10.2) else bd (loopN 1000000 (fun s => Jm_offerAll_L42 (nI t) (nI (arN f)) s.1 s.2) (0, h)) fun (t11 : Int32 × Hp) => some t11.2 := by
    unfold Jm_offerAll
    rw [lit 1, nI_add, ib_nI (by omega) (by omega), cond_true, nI_clamp (by omega), ef, par, bd_some, cond_true]
  by_cases a0 : arN f = 0
  · have out : ∀ hh : Hp, loopN 1000000 (fun s => Jm_offerAll_L42 (nI t) (nI 0) s.1 s.2) (0, hh) = some (0, hh) := fun hh => loopN_out (f := fun s : Int32 × Hp => Jm_offerAll_L42 (nI t) (nI 0) s.1 s.2) (s := (0, hh)) (by
      show Jm_offerAll_L42 (nI t) (nI 0) 0 hh = _
      unfold Jm_offerAll_L42
      rw [if_pos (by decide), if_neg (by decide)]) 999999
    rw [a0, if_pos (show nI 0 = (0 : Int32) from rfl), e] at start
    by_cases q : n = 1
    · obtain ⟨h2, k1, k2, k3⟩ := offer_at (t := t) (a := 0) (x := 0) (y := 0) (z := 0) (c := f) hn31 (by decide) hf (fun w => absurd w (by decide)) (fun w => absurd w (by decide)) (fun w => absurd w (by decide)) e H
      simp only [pv, if_neg (Nat.lt_irrefl 0), if_neg (show ¬ 1 < 0 by decide), if_neg (show ¬ 2 < 0 by decide)] at k1
      refine ⟨h2, ?_, ?_, k3⟩
      · rw [start, if_pos (by rw [q]; rfl), k1, bd_some, out, bd_some]
      · rw [a0]
        refine Mof_cg (fun c x y z _ _ => ?_) k2
        rw [WayP_0 a0]
        constructor
        · intro w; exact ⟨q, w⟩
        · intro w; exact w.2
    · refine ⟨h, ?_, Mof_refl (fun c x y z _ _ w => q ((WayP_0 a0).mp w).1), fun _ _ _ _ _ _ => rfl⟩
      rw [start, if_neg (show ¬ nI n = (1 : Int32) from fun w => q ((nI_eq (a := n) (b := 1) (by omega) (by omega)).mp w)), out, bd_some]
  · have a0' : ¬ nI (arN f) = 0 := fun w => a0 ((nI_eq (a := arN f) (b := 0) (by omega) (by omega)).mp w)
    rw [if_neg a0'] at start
    have pos : (0 : Int32) < nI (arN f) := (nI_ltI (a := 0) (by omega) (by omega)).mpr (by omega)
    obtain ⟨r, l1, l2, l3⟩ := loop_cnt (fun s => Jm_offerAll_L42 (nI t) (nI (arN f)) s.1 s.2) (fun v s => s.1 = nI v ∧ Mof n t (arN f) (fun c x y z => x < v ∧ WayP C f n c x y z) h s.2 ∧ RM4 h s.2) (fun r => Mof n t (arN f) (fun c x y z => WayP C f n c x y z) h r.2 ∧ RM4 h r.2) 256 (fun x s hx hs => by
      obtain ⟨x', hh⟩ := s
      obtain ⟨e1, m, r4⟩ := hs
      replace e1 : x' = nI x := e1
      subst e1
      replace m : Mof n t (arN f) (fun c x' y' z => x' < x ∧ WayP C f n c x' y' z) h hh := m
      replace r4 : RM4 h hh := r4
      have H' := CMo_Mof hn31 m H
      have u1 : hh 37 24 = nI n := (r4 37 24 (by decide) (by decide) (by decide) (by decide)).trans e
      have u2 : hh 38 (1 + t) = nI f := (r4 38 (1 + t) (by decide) (by decide) (by decide) (by decide)).trans ef
      have glue : ∀ {h2 : Hp}, Mof n t (arN f) (fun c x' y' z => x' = x ∧ WayP C f n c x' y' z) hh h2 → Mof n t (arN f) (fun c x' y' z => x' < x + 1 ∧ WayP C f n c x' y' z) h h2 := fun k2 => Mof_tr hn31 m k2 (fun c x' y' z' _ _ => by
          constructor
          · intro ⟨w1, w3⟩
            by_cases q : x' = x
            · exact Or.inr ⟨q, w3⟩
            · exact Or.inl ⟨by omega, w3⟩
          · intro w
            rcases w with ⟨w1, w3⟩ | ⟨w1, w3⟩
            · exact ⟨by omega, w3⟩
            · exact ⟨by omega, w3⟩) (fun c x1 y1 z1 x2 y2 z2 w1 w2 => Or.inl (by have := w1.1; have := w2.1; omega)) (fun c x' y' z' w => WayP_parts hn31 H w.2)
      have skip : (∀ c y z, ¬ WayP C f n c x y z) → Mof n t (arN f) (fun c x' y' z => x' < x + 1 ∧ WayP C f n c x' y' z) h hh := fun w => glue (Mof_refl fun c x' y' z _ _ q => by
          obtain ⟨q1, q3⟩ := q
          subst q1
          exact w c y' z q3)
      have hlt : nI x < (256 : Int32) := (nI_ltI (b := 256) (by omega) (by omega)).mpr hx
      cases ex : C x with
      | none =>
        have v := isMadeM_no hn31 H' u1 hx ex
        refine Or.inl ⟨(nI (x + 1), hh), ?_, rfl, skip fun c y z w => ?_, r4⟩
        · show Jm_offerAll_L42 (nI t) (nI (arN f)) (nI x) hh = _
          unfold Jm_offerAll_L42
          rw [if_pos hlt, if_pos pos, v, bd_some, if_pos rfl]
          unfold Jm_offerAll_J78
          rw [if_pos m1_lt0, if_neg (by decide), lit 1, nI_add]
        · rcases (show arN f = 1 ∨ arN f = 2 ∨ arN f = 3 by omega) with ha | ha | ha
          · obtain ⟨⟨i', w, -⟩, -⟩ := (WayP_1 ha).mp w
            rw [ex] at w; cases w
          · obtain ⟨⟨i', j', w, -⟩, -⟩ := (WayP_2 ha).mp w
            rw [ex] at w; cases w
          · obtain ⟨⟨i', j', k', w, -⟩, -⟩ := (WayP_3 ha).mp w
            rw [ex] at w; cases w
      | some i =>
        have v := isMadeM_yes hn31 H' u1 hx ex
        obtain ⟨x1, x2⟩ := (H' x hx).1 i ex
        have run : Jm_offerAll_L42 (nI t) (nI (arN f)) (nI x) hh = Jm_offerAll_J78 (nI t) (nI (arN f)) (nI x) (nI (n - 1 - i)) hh := by
          unfold Jm_offerAll_L42
          rw [if_pos hlt, if_pos pos, v, bd_some, if_neg (by decide), ib_nI (by omega) (by omega), cond_true, nI_clamp (by omega), x1, u1, lit 1, nI_sub (by omega), nI_sub (by omega)]
        have n0 : ¬ nI (n - 1 - i) < 0 := nI_nneg (by omega)
        by_cases a1 : arN f = 1
        · by_cases z0 : n - 1 - i = 0
          · obtain ⟨h2, k1, k2, k3⟩ := offer_at (t := t) (a := 1) (x := x) (y := 0) (z := 0) (c := pN f x 0 0) hn31 (by decide) (pN_lt _ _ _ _) (fun _ => hx) (fun w => absurd w (by decide)) (fun w => absurd w (by decide)) u1 H'
            simp only [pv, if_pos (show 0 < 1 by decide), if_neg (show ¬ 1 < 1 by decide), if_neg (show ¬ 2 < 1 by decide)] at k1
            replace k1 : Jm_offer (nI (pN f x 0 0)) (nI t) (nI x) (-nI 1) (-nI 1) hh = some h2 := k1
            have p1 := Jm_putOn_at (f := f) (x := x) (y := 0) (z := 0) (by omega) (by omega) (by omega) (by omega)
            refine Or.inl ⟨(nI (x + 1), h2), ?_, rfl, glue ?_, RM4_tr r4 k3⟩
            · show Jm_offerAll_L42 (nI t) (nI (arN f)) (nI x) hh = _
              rw [run]
              unfold Jm_offerAll_J78
              rw [if_neg n0, a1, if_neg (by decide), z0, if_pos (show nI 0 = (0 : Int32) from rfl), lit 1, nI_add, ib_nI (by omega) (by omega), cond_true, nI_clamp (by omega), u2, lit 0, p1, bd_some, k1, bd_some, nI_add]
            · rw [a1]
              refine Mof_cg (fun c x' y' z _ _ => ?_) k2
              rw [WayP_1 a1]
              constructor
              · intro ⟨w1, w2, w3, w4⟩
                subst w2
                exact ⟨rfl, ⟨i, ex, by omega⟩, w1, hx, w3, w4⟩
              · intro ⟨w1, _, w3, _, w4, w5⟩
                subst w1
                exact ⟨w3, rfl, w4, w5⟩
          · refine Or.inl ⟨(nI (x + 1), hh), ?_, rfl, skip fun c y z w => ?_, r4⟩
            · show Jm_offerAll_L42 (nI t) (nI (arN f)) (nI x) hh = _
              rw [run]
              unfold Jm_offerAll_J78
              rw [if_neg n0, a1, if_neg (by decide), if_neg (show ¬ nI (n - 1 - i) = (0 : Int32) from fun w => z0 ((nI_eq (a := n - 1 - i) (b := 0) (by omega) (by omega)).mp w)), lit 1, nI_add]
            · obtain ⟨⟨i', w1, w3⟩, -⟩ := (WayP_1 a1).mp w
              rw [ex] at w1
              cases w1
              omega
        · obtain ⟨h2, k1, k2, k3⟩ := offerSecond_at (t := t) (f := f) (x := x) (i := i) hn ht hf (by omega) hx u1 u2 H' (BM_fr (fun k => r4 50 k (by decide) (by decide) (by decide) (by decide)) (fun k => r4 51 k (by decide) (by decide) (by decide) (by decide)) B) ex
          refine Or.inl ⟨(nI (x + 1), h2), ?_, rfl, glue k2, RM4_tr r4 k3⟩
          show Jm_offerAll_L42 (nI t) (nI (arN f)) (nI x) hh = _
          rw [run]
          unfold Jm_offerAll_J78
          rw [if_neg n0, if_pos (show (1 : Int32) < nI (arN f) from (nI_ltI (a := 1) (by omega) (by omega)).mpr (by omega)), k1, bd_some, lit 1, nI_add]) (fun s hs => by
      obtain ⟨x', hh⟩ := s
      obtain ⟨e1, m, r4⟩ := hs
      replace e1 : x' = nI 256 := e1
      subst e1
      refine ⟨(nI 256, hh), by simp (disch := omega) only [Jm_offerAll_L42, bd_some, lt_of', sm_l, sm_r, lit, lN_n, hset_if, nI_ltP, nI_eqI, nI_add, nI_sub, nI_clamp, ib_nI, cond_true, if_pos, if_neg, and_self, and_true, true_and, false_and, and_false, ↓reduceIte, eq_self, nI_m1], Mof_cg (fun c x y z _ _ => ?_) m, r4⟩
      constructor
      · intro w; exact w.2
      · intro w
        refine ⟨?_, w⟩
        rcases w with w | w | w | w
        · rw [w.2.2.2.1]; omega
        · exact w.2.2.2.1
        · exact w.2.2.2.1
        · exact w.2.2.2.1) (F := 1000000) (by omega) (a := 0) (by omega) (s := (0, h)) ⟨rfl, Mof_refl (fun c x y z _ _ w => absurd w.1 (Nat.not_lt_zero x)), fun _ _ _ _ _ _ => rfl⟩
    refine ⟨r.2, ?_, l2, l3⟩
    rw [start]
    exact bd_of l1
