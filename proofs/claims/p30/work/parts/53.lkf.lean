/-! The class looks for the parts: the search itself. -/
theorem know_at {h : Hp} {a c x y z : Nat} (e : h 20 2 = nI a) (ha : a ≤ 3) (hc : c < 256) : ∃ h', Jwy_know (nI c) (nI x) (nI y) (nI z) h = some h' ∧ h' 23 c = nI 1 ∧ h' 22 (3 * c) = pv a 0 x ∧ h' 22 (3 * c + 1) = pv a 1 y ∧ h' 22 (3 * c + 2) = pv a 2 z ∧ ∀ p k, ¬ (p = 23 ∧ k = c) → ¬ (p = 22 ∧ 3 * c ≤ k ∧ k < 3 * c + 3) → h' p k = h p k := by
  refine ⟨hset (hset (hset (hset h 23 c (nI 1)) 22 (3 * c) (pv a 0 x)) 22 (3 * c + 1) (pv a 1 y)) 22 (3 * c + 2) (pv a 2 z), ?_, ?_, ?_, ?_, ?_, fun p k w1 w2 => ?_⟩
  · have nar : vp_nar .boolean 1 = nI 1 := rfl
    unfold Jwy_know
    rw [isCode_at hc, bd_some, if_neg (by decide), ib_nI (by omega) (by omega), cond_true, nI_clamp (by omega), nar, lt_of']
    rcases (show a = 0 ∨ a = 1 ∨ a = 2 ∨ a = 3 by omega) with rfl | rfl | rfl | rfl
    · simp only [pv, if_neg (Nat.lt_irrefl 0), if_neg (show ¬ 1 < 0 by decide), if_neg (show ¬ 2 < 0 by decide)]
      simp (disch := omega) only [Jpu_arity, e, Jwy_know_J37, Jwy_know_J63, nI_mul, bd_some, lt_of', sm_l, sm_r, lit, lN_n, hset_if, nI_ltP, nI_eqI, nI_add, nI_sub, nI_clamp, ib_nI, cond_true, if_pos, if_neg, and_self, and_true, true_and, false_and, and_false, ↓reduceIte, eq_self, nI_m1]
    · simp only [pv, if_pos (show 0 < 1 by decide), if_neg (show ¬ 1 < 1 by decide), if_neg (show ¬ 2 < 1 by decide)]
      simp (disch := omega) only [Jpu_arity, e, Jwy_know_J37, Jwy_know_J63, nI_mul, bd_some, lt_of', sm_l, sm_r, lit, lN_n, hset_if, nI_ltP, nI_eqI, nI_add, nI_sub, nI_clamp, ib_nI, cond_true, if_pos, if_neg, and_self, and_true, true_and, false_and, and_false, ↓reduceIte, eq_self, nI_m1]
    · simp only [pv, if_pos (show 0 < 2 by decide), if_pos (show 1 < 2 by decide), if_neg (show ¬ 2 < 2 by decide)]
      simp (disch := omega) only [Jpu_arity, e, Jwy_know_J37, Jwy_know_J63, nI_mul, bd_some, lt_of', sm_l, sm_r, lit, lN_n, hset_if, nI_ltP, nI_eqI, nI_add, nI_sub, nI_clamp, ib_nI, cond_true, if_pos, if_neg, and_self, and_true, true_and, false_and, and_false, ↓reduceIte, eq_self, nI_m1]
    · simp only [pv, if_pos (show 0 < 3 by decide), if_pos (show 1 < 3 by decide), if_pos (show 2 < 3 by decide)]
      simp (disch := omega) only [Jpu_arity, e, Jwy_know_J37, Jwy_know_J63, nI_mul, bd_some, lt_of', sm_l, sm_r, lit, lN_n, hset_if, nI_ltP, nI_eqI, nI_add, nI_sub, nI_clamp, ib_nI, cond_true, if_pos, if_neg, and_self, and_true, true_and, false_and, and_false, ↓reduceIte, eq_self, nI_m1]
  · rw [hset_if, if_neg (by simp), hset_if, if_neg (by simp), hset_if, if_neg (by simp), hset_if, if_pos ⟨rfl, rfl⟩]
  · rw [hset_if, if_neg (by omega), hset_if, if_neg (by omega), hset_if, if_pos ⟨rfl, rfl⟩]
  · rw [hset_if, if_neg (by omega), hset_if, if_pos ⟨rfl, rfl⟩]
  · rw [hset_if, if_pos ⟨rfl, rfl⟩]
  · rw [hset_if, if_neg (by omega), hset_if, if_neg (by omega), hset_if, if_neg (by omega), hset_if, if_neg w1]
def F20 (h h' : Hp) : Prop := ∀ p k, ¬ (p = 20 ∧ 4 ≤ k) → h' p k = h p k
theorem F20_tr {h h1 h2 : Hp} (a : F20 h h1) (b : F20 h1 h2) : F20 h h2 := fun p k q => (b p k q).trans (a p k q)
theorem PR_uniq {s : Sh} {g : Bool} {j j' y : Nat} (h : PR (FC s) g j y) (h' : PR (FC s) g j' y) : j = j' := by
  have a := PR_any (FC_170 s) h
  have b := PR_any (FC_170 s) h'
  rw [a] at b
  cases b
  rfl
/-- what the search for second parts finds -/
def Y2 (s : Sh) (f m c x y z : Nat) : Prop := ∃ j l, PR (FC s) (hg f 1) j y ∧ PR (FC s) (hg f 2) l z ∧ j + l = m ∧ c = pN f x y z
def known (h' h : Hp) (a c x y z : Nat) : Prop := h' 23 c = nI 1 ∧ h' 22 (3 * c) = pv a 0 x ∧ h' 22 (3 * c + 1) = pv a 1 y ∧ h' 22 (3 * c + 2) = pv a 2 z ∧ ∀ p k, p ≠ 20 → p ≠ 21 → ¬ (p = 23 ∧ k = c) → ¬ (p = 22 ∧ 3 * c ≤ k ∧ k < 3 * c + 3) → h' p k = h p k
theorem secW_at {h : Hp} {s : Sh} {n f c x m : Nat} {bc st : Nat → Nat} (R : CR h s (FC s)) (B : BC h n (FC s) bc st) (e : h 10 12 = nI (n - 1)) (P : PU_1 f h) (P1 : PU1_1 f x h) (hf : f < 256) (hx : x < 256) (hc : c < 256) (hm : m < n) : (∃ y z h', Jwy_lookForSecond (nI c) (nI x) (nI m) h = some (nI 1, h') ∧ y < 256 ∧ Y2 s f m c x y z ∧ (∀ y' z', Y2 s f m c x y' z' → y < y' ∨ (y = y' ∧ z ≤ z')) ∧ known h' h (arN f) c x y z) ∨ (∃ h', Jwy_lookForSecond (nI c) (nI x) (nI m) h = some (nI 0, h') ∧ (∀ y z, ¬ Y2 s f m c x y z) ∧ F20 h h') := by
  have hn := B.1
  have ha := (ta_at hf).2.2.1
  obtain ⟨r, l1, l2⟩ := loop_cnt (fun t => Jwy_lookForSecond_L3 (nI c) (nI x) (nI m) t.1 t.2) (fun y t => t.1 = nI y ∧ (∀ y' z', y' < y → ¬ Y2 s f m c x y' z') ∧ F20 h t.2) (fun r => sm r (fun t => (∀ y z, ¬ Y2 s f m c x y z) ∧ F20 h t.2) (fun r => ∃ y z, r.1 = nI 1 ∧ y < 256 ∧ Y2 s f m c x y z ∧ (∀ y' z', Y2 s f m c x y' z' → y < y' ∨ (y = y' ∧ z ≤ z')) ∧ known r.2 h (arN f) c x y z)) 256 (fun y t hy ht => by
      obtain ⟨y', hh⟩ := t
      obtain ⟨e1, ih, fr⟩ := ht
      replace e1 : y' = nI y := e1
      subst e1
      replace fr : F20 h hh := fr
      have R' : CR hh s (FC s) := CR_fr (fun k => fr 11 k (by simp)) (fun k => fr 12 k (by simp)) R
      have P' : PU_1 f hh := ⟨(fr 20 0 (by decide)).trans P.1, (fr 20 1 (by decide)).trans P.2.1, (fr 20 2 (by decide)).trans P.2.2⟩
      have P1' : PU1_1 f x hh := fun i hi => (fr 21 i (by simp)).trans (P1 i hi)
      have lt : nI y < (256 : Int32) := (nI_ltI (b := 256) (by omega) (by omega)).mpr hy
      have grow : (∀ z, ¬ Y2 s f m c x y z) → ∀ y' z', y' < y + 1 → ¬ Y2 s f m c x y' z' := fun w y' z' hy' q => by
        by_cases z : y' = y
        · subst z; exact w z' q
        · exact ih y' z' (by omega) q
      rcases isPart_at (v := 1) (m := m) R' P' hf (by decide) hy (by omega) with ⟨a1, j, j1, j2⟩ | ⟨a1, a2⟩
      · obtain ⟨h2, b1, b2, b3, b4⟩ := second_at_1 (y := y) hx P1'
        have fr2 : F20 h h2 := F20_tr fr (fun p k w => by
          by_cases z : p = 20
          · subst z; exact b4 k (by omega)
          · exact b3 p k z)
        have cb := can_at_1 hx hy hc b2
        by_cases d : cbN f x y c = true
        · rw [if_pos d] at cb
          have cy : h2 11 y = nI j := by
            rw [fr2 11 y (by simp), CR_cost R hy, PR_any (FC_170 s) j2]
          have co := costOf_at (h := h2) hy
          rw [cy] at co
          have P2' : PU_1 f h2 := ⟨(fr2 20 0 (by decide)).trans P.1, (fr2 20 1 (by decide)).trans P.2.1, (fr2 20 2 (by decide)).trans P.2.2⟩
          have B2 : BC h2 n (FC s) bc st := BC_fr (fun k => fr2 13 k (by simp)) (fun k => fr2 14 k (by simp)) (fr2 10 9 (by simp)) B
          rcases thirdW_at (m := m - j) B2 ((fr2 10 12 (by simp)).trans e) (by omega) P2' b2 hf hx hy hc with ⟨z, t1, t2, t3, t4⟩ | ⟨t1, t2⟩
          · obtain ⟨h3, k1, k2, k3, k4, k5, k6⟩ := know_at (a := arN f) (x := x) (y := y) (z := z) P2'.2.2 (by omega) hc
            have z256 := t2.1
            refine Or.inr ⟨.inr (nI 1, h3), ?_, y, z, rfl, hy, ⟨j, m - j, j2, t2, by omega, t3⟩, fun y' z' q => ?_, k2, k3, k4, k5, fun p k w1 w2 w3 w4 => (k6 p k w3 w4).trans (fr2 p k (fun w => w1 w.1))⟩
            · show Jwy_lookForSecond_L3 (nI c) (nI x) (nI m) (nI y) hh = _
              unfold Jwy_lookForSecond_L3
              rw [if_pos lt, show (1 : Int32) = nI 1 from rfl, a1, bd_some, if_neg (by decide), b1, bd_some, cb, bd_some, if_neg (by decide), co, bd_some, nI_sub j1, t1, bd_some]
              unfold Jwy_lookForSecond_J62
              rw [if_neg (nI_ne1 (by omega)), k1, bd_some]
              rfl
            · rcases Nat.lt_trichotomy y' y with w | w | w
              · exact absurd q (ih y' z' w)
              · subst w
                obtain ⟨j', l', q1, q2, q3, q4⟩ := q
                have := PR_uniq j2 q1
                subst this
                refine Or.inr ⟨rfl, t4 z' ?_ q4⟩
                rw [show m - j = l' by omega]
                exact q2
              · exact Or.inl w
          · refine Or.inl ⟨(nI (y + 1), h2), ?_, rfl, grow fun z q => ?_, fr2⟩
            · show Jwy_lookForSecond_L3 (nI c) (nI x) (nI m) (nI y) hh = _
              unfold Jwy_lookForSecond_L3
              rw [if_pos lt, show (1 : Int32) = nI 1 from rfl, a1, bd_some, if_neg (by decide), b1, bd_some, cb, bd_some, if_neg (by decide), co, bd_some, nI_sub j1, t1, bd_some]
              unfold Jwy_lookForSecond_J62
              rw [if_pos rfl, lit 1, nI_add]
            · obtain ⟨j', l', q1, q2, q3, q4⟩ := q
              have := PR_uniq j2 q1
              subst this
              refine t2 z ?_ q4
              rw [show m - j = l' by omega]
              exact q2
        · rw [if_neg d] at cb
          refine Or.inl ⟨(nI (y + 1), h2), ?_, rfl, grow fun z q => d ?_, fr2⟩
          · show Jwy_lookForSecond_L3 (nI c) (nI x) (nI m) (nI y) hh = _
            unfold Jwy_lookForSecond_L3
            rw [if_pos lt, show (1 : Int32) = nI 1 from rfl, a1, bd_some, if_neg (by decide), b1, bd_some, cb, bd_some, if_pos (show nI 0 = (0 : Int32) from rfl)]
            unfold Jwy_lookForSecond_J62
            rw [if_pos (show (-nI 1 : Int32) = -1 from rfl), lit 1, nI_add]
          · obtain ⟨j', l', q1, q2, q3, q4⟩ := q
            rw [q4]
            exact cb_of hx hy
      · refine Or.inl ⟨(nI (y + 1), hh), ?_, rfl, grow fun z q => ?_, fr⟩
        · show Jwy_lookForSecond_L3 (nI c) (nI x) (nI m) (nI y) hh = _
          unfold Jwy_lookForSecond_L3
          rw [if_pos lt, show (1 : Int32) = nI 1 from rfl, a1, bd_some, if_pos (show nI 0 = (0 : Int32) from rfl), nI_add]
        · obtain ⟨j', l', q1, q2, q3, q4⟩ := q
          exact a2 j' (by omega) q1) (fun t ht => by
      obtain ⟨y', hh⟩ := t
      obtain ⟨e1, ih, fr⟩ := ht
      replace e1 : y' = nI 256 := e1
      subst e1
      refine ⟨.inl (nI 256, hh), by simp (disch := omega) only [Jwy_lookForSecond_L3, bd_some, lt_of', sm_l, sm_r, lit, lN_n, hset_if, nI_ltP, nI_eqI, nI_add, nI_sub, nI_clamp, ib_nI, cond_true, if_pos, if_neg, and_self, and_true, true_and, false_and, and_false, ↓reduceIte, eq_self, nI_m1], fun y z q => ?_, fr⟩
      have q' := q
      obtain ⟨j', l', q1, -⟩ := q'
      exact ih y z q1.1 q) (F := 1000000) (by omega) (a := 0) (by omega) (s := (0, h)) ⟨rfl, fun y' z' w => absurd w (Nat.not_lt_zero y'), fun _ _ _ => rfl⟩
  unfold Jwy_lookForSecond
  cases r with
  | inl t => exact Or.inr ⟨t.2, bd_of l1, l2⟩
  | inr t =>
    obtain ⟨y, z, w1, w2, w3⟩ := l2
    refine Or.inl ⟨y, z, t.2, ?_, w2, w3⟩
    refine (bd_of l1).trans ?_
    show some t = _
    rw [← w1]
theorem topCode_at {h : Hp} {s : Sh} {c k g : Nat} (hs : okS s) (H : CR h s (FC s)) (B : RB h s) (hc : c < 256) (e : FC s c = some k) (hk : 0 < k) (ht : isTop s k c g) : Jcs_topCodeOf (nI c) h = some (nI (s.2.1 g)) := by
  obtain ⟨-, -, a3⟩ := (H c hc).1 k e
  obtain ⟨g', t', e12⟩ := a3 hk
  have := isTop_uniq ht t'
  subst this
  have g6 : g < 6 := Nat.lt_of_lt_of_le ht.1.1 hs.1
  unfold Jcs_topCodeOf Jcs_topOf
  rw [isCode_at hc, bd_some, if_neg (by decide), ib_nI (by omega) (by omega), cond_true, nI_clamp (by omega), e12, bd_some, if_neg (nI_pos (by omega)), if_pos (show nI g < (6 : Int32) from (nI_ltI (b := 6) (by omega) (by omega)).mpr g6), ib_nI g6 (by omega), cond_true, nI_clamp (by omega), B.2 g ht.1]
theorem lookFor_at {h : Hp} {s : Sh} {ln : Nat → Nat} {c k : Nat} (hs : okS s) (H : CF h s) (W : WF h s ln) (hc : c < 256) (e : FC s c = some k) (hk : 0 < k) : ∃ h', Jwy_lookFor (nI c) h = some h' ∧ h' 23 c = nI 1 ∧ KN h' s c ∧ WF h' s ln ∧ (∀ j, j ≠ c → h' 23 j = h 23 j) ∧ ∀ p k, p ≠ 20 → p ≠ 21 → p ≠ 22 → p ≠ 23 → h' p k = h p k := by
  have kl := FC_le e
  have e11 : h 11 c = nI k := ((H.1 c hc).1 k e).1
  have start : Jwy_lookFor (nI c) h = if (h 23 c) = 0 then bd (Jcs_topCodeOf (nI c) h) fun c2 => bd (Jpu_begin_1 c2 h) fun c3 => bd (loopN 1000000 (fun s => Jwy_lookFor_L45 (nI c) (nI (k - 1)) s.1 s.2.1 s.2.2) (0, 0, c3)) fun (t9 : Int32 × Int32 × Hp) => some t9.2.2 else some h := by
    unfold Jwy_lookFor
    rw [costOf_at hc, bd_some, e11, lit 1, nI_sub (by omega), if_neg (nI_pos (by omega)), ib_nI (by omega) (by omega), cond_true, nI_clamp (by omega)]
  rcases W.1 c hc with w | ⟨w1, w2⟩
  · obtain ⟨R, RB', -, n, bc, st, n1, B, -, e12, klt⟩ := H
    have kn := klt c k e
    obtain ⟨g, x0, y0, z0, ht, -⟩ := pts_ex hs hc e hk
    have hf := hs.2.1 g ht.1.1
    obtain ⟨h1, b1, b2, b3⟩ := begin_at_1 hf h
    have R1' : CR h1 s (FC s) := CR_fr (fun k => b3 11 k (by decide)) (fun k => b3 12 k (by decide)) R
    have B1 : BC h1 n (FC s) bc st := BC_fr (fun k => b3 13 k (by decide)) (fun k => b3 14 k (by decide)) (b3 10 9 (by decide)) B
    have e1 : h1 10 12 = nI (n - 1) := (b3 10 12 (by decide)).trans e12
    obtain ⟨r, l1, l2⟩ := loop_cnt (fun t => Jwy_lookFor_L45 (nI c) (nI (k - 1)) t.1 t.2.1 t.2.2) (fun x t => t.2.1 = nI x ∧ ((t.1 = nI 0 ∧ (∀ x' y z, x' < x → ¬ NF s (s.2.1 g) k c x' y z) ∧ PU_1 (s.2.1 g) t.2.2 ∧ ∀ p j, p ≠ 20 → p ≠ 21 → t.2.2 p j = h1 p j) ∨ (t.1 = nI 1 ∧ ∃ x y z, NF s (s.2.1 g) k c x y z ∧ (∀ x' y' z', NF s (s.2.1 g) k c x' y' z' → lex x y z x' y' z') ∧ known t.2.2 h1 (arN (s.2.1 g)) c x y z))) (fun t => ∃ x y z, NF s (s.2.1 g) k c x y z ∧ (∀ x' y' z', NF s (s.2.1 g) k c x' y' z' → lex x y z x' y' z') ∧ known t.2.2 h1 (arN (s.2.1 g)) c x y z) 256 (fun x t hx' ht' => by
        obtain ⟨v3, x', hh⟩ := t
        obtain ⟨q1, q2⟩ := ht'
        replace q1 : x' = nI x := q1
        subst q1
        have lt : nI x < (256 : Int32) := (nI_ltI (b := 256) (by omega) (by omega)).mpr hx'
        rcases q2 with ⟨q2, ih, P, fr⟩ | ⟨q2, q3⟩
        · replace q2 : v3 = nI 0 := q2
          subst q2
          replace P : PU_1 (s.2.1 g) hh := P
          replace fr : ∀ p j, p ≠ 20 → p ≠ 21 → hh p j = h1 p j := fr
          have R' : CR hh s (FC s) := CR_fr (fun k => fr 11 k (by decide) (by decide)) (fun k => fr 12 k (by decide) (by decide)) R1'
          have grow : (∀ y z, ¬ NF s (s.2.1 g) k c x y z) → ∀ x' y z, x' < x + 1 → ¬ NF s (s.2.1 g) k c x' y z := fun w x' y z hlt q => by
            by_cases zz : x' = x
            · subst zz; exact w y z q
            · exact ih x' y z (by omega) q
          rcases isPart_at (v := 0) (m := k - 1) R' P hf (by decide) hx' (by omega) with ⟨a1, i, i1, i2⟩ | ⟨a1, a2⟩
          · obtain ⟨h2, c1, c2, c3⟩ := first_at_1 hf hx' P
            have P2 : PU_1 (s.2.1 g) h2 := ⟨(c3 20 0 (by decide)).trans P.1, (c3 20 1 (by decide)).trans P.2.1, (c3 20 2 (by decide)).trans P.2.2⟩
            have mb := may_at_1 hx' hc c2
            have fr2 : ∀ p j, p ≠ 20 → p ≠ 21 → h2 p j = h1 p j := fun p j u v => (c3 p j v).trans (fr p j u v)
            by_cases d : mbN (s.2.1 g) x c = true
            · rw [if_pos d] at mb
              have R2' : CR h2 s (FC s) := CR_fr (fun k => fr2 11 k (by decide) (by decide)) (fun k => fr2 12 k (by decide) (by decide)) R1'
              have B2 : BC h2 n (FC s) bc st := BC_fr (fun k => fr2 13 k (by decide) (by decide)) (fun k => fr2 14 k (by decide) (by decide)) (fr2 10 9 (by decide) (by decide)) B1
              have cx : h2 11 x = nI i := by rw [CR_cost R2' hx', PR_any (FC_170 s) i2]
              have co := costOf_at (h := h2) hx'
              rw [cx] at co
              rcases secW_at (m := k - 1 - i) R2' B2 ((fr2 10 12 (by decide) (by decide)).trans e1) P2 c2 hf hx' hc (by omega) with ⟨y, z, h3, d1, d2, d3, d4, d5⟩ | ⟨h3, d1, d2, d3⟩
              · refine Or.inl ⟨(nI 1, nI (x + 1), h3), ?_, rfl, Or.inr ⟨rfl, x, y, z, ?_, fun x' y' z' q => ?_, d5.1, d5.2.1, d5.2.2.1, d5.2.2.2.1, fun p j u1 u2 u3 u4 => (d5.2.2.2.2 p j u1 u2 u3 u4).trans (fr2 p j u1 u2)⟩⟩
                · show Jwy_lookFor_L45 (nI c) (nI (k - 1)) (nI 0) (nI x) hh = _
                  unfold Jwy_lookFor_L45
                  rw [if_pos lt, if_pos (show nI 0 = (0 : Int32) from rfl), show (0 : Int32) = nI 0 from rfl, a1, bd_some, if_neg (by decide), c1, bd_some, mb, bd_some, if_neg (by decide), co, bd_some, nI_sub i1, d1, bd_some, lit 1, nI_add]
                  rfl
                · obtain ⟨j, l, u1, u2, u3, u4⟩ := d3
                  exact ⟨i, j, l, i2, u1, u2, by omega, u4⟩
                · rcases Nat.lt_trichotomy x' x with u | u | u
                  · exact absurd q (ih x' y' z' u)
                  · subst u
                    obtain ⟨i', j', l', u1, u2, u3, u4, u5⟩ := q
                    have := PR_uniq i2 u1
                    subst this
                    exact Or.inr ⟨rfl, d4 y' z' ⟨j', l', u2, u3, by omega, u5⟩⟩
                  · exact Or.inl u
              · have fr3 : ∀ p j, p ≠ 20 → p ≠ 21 → h3 p j = h1 p j := fun p j u v => (d3 p j (fun w => u w.1)).trans (fr2 p j u v)
                refine Or.inl ⟨(nI 0, nI (x + 1), h3), ?_, rfl, Or.inl ⟨rfl, grow fun y z q => ?_, ⟨(d3 20 0 (by decide)).trans P2.1, (d3 20 1 (by decide)).trans P2.2.1, (d3 20 2 (by decide)).trans P2.2.2⟩, fr3⟩⟩
                · show Jwy_lookFor_L45 (nI c) (nI (k - 1)) (nI 0) (nI x) hh = _
                  unfold Jwy_lookFor_L45
                  rw [if_pos lt, if_pos (show nI 0 = (0 : Int32) from rfl), show (0 : Int32) = nI 0 from rfl, a1, bd_some, if_neg (by decide), c1, bd_some, mb, bd_some, if_neg (by decide), co, bd_some, nI_sub i1, d1, bd_some, lit 1, nI_add]
                  rfl
                · obtain ⟨i', j', l', u1, u2, u3, u4, u5⟩ := q
                  have := PR_uniq i2 u1
                  subst this
                  exact d2 y z ⟨j', l', u2, u3, by omega, u5⟩
            · rw [if_neg d] at mb
              refine Or.inl ⟨(nI 0, nI (x + 1), h2), ?_, rfl, Or.inl ⟨rfl, grow fun y z q => d ?_, P2, fr2⟩⟩
              · show Jwy_lookFor_L45 (nI c) (nI (k - 1)) (nI 0) (nI x) hh = _
                unfold Jwy_lookFor_L45
                rw [if_pos lt, if_pos (show nI 0 = (0 : Int32) from rfl), show (0 : Int32) = nI 0 from rfl, a1, bd_some, if_neg (by decide), c1, bd_some, mb, bd_some, if_pos rfl, lit 1, nI_add]
              · obtain ⟨i', j', l', u1, u2, u3, u4, u5⟩ := q
                rw [u5]
                exact mb_of hx'
          · refine Or.inl ⟨(nI 0, nI (x + 1), hh), ?_, rfl, Or.inl ⟨rfl, grow fun y z q => ?_, P, fr⟩⟩
            · show Jwy_lookFor_L45 (nI c) (nI (k - 1)) (nI 0) (nI x) hh = _
              unfold Jwy_lookFor_L45
              rw [if_pos lt, if_pos (show nI 0 = (0 : Int32) from rfl), show (0 : Int32) = nI 0 from rfl, a1, bd_some, if_pos rfl, lit 1, nI_add]
            · obtain ⟨i', j', l', u1, u2, u3, u4, u5⟩ := q
              exact a2 i' (by omega) u1
        · replace q2 : v3 = nI 1 := q2
          subst q2
          refine Or.inr ⟨(nI 1, nI x, hh), ?_, q3⟩
          show Jwy_lookFor_L45 (nI c) (nI (k - 1)) (nI 1) (nI x) hh = _
          unfold Jwy_lookFor_L45
          rw [if_pos lt, if_neg (by decide)]) (fun t ht' => by
        obtain ⟨v3, x', hh⟩ := t
        obtain ⟨q1, q2⟩ := ht'
        replace q1 : x' = nI 256 := q1
        subst q1
        refine ⟨(v3, nI 256, hh), ?_, ?_⟩
        · show Jwy_lookFor_L45 (nI c) (nI (k - 1)) v3 (nI 256) hh = _
          unfold Jwy_lookFor_L45
          rw [if_neg (by decide)]
        · rcases q2 with ⟨-, ih, -⟩ | ⟨-, q3⟩
          · obtain ⟨x, y, z, q⟩ := NF_ex hs ht e hk
            have q' := q
            obtain ⟨i, j, l, u1, -⟩ := q'
            exact absurd q (ih x y z u1.1)
          · exact q3) (F := 1000000) (by omega) (a := 0) (by omega) (s := (0, 0, h1)) ⟨rfl, Or.inl ⟨rfl, fun x' y z w => absurd w (Nat.not_lt_zero x'), b2, fun _ _ _ _ => rfl⟩⟩
    obtain ⟨x, y, z, nf, least, k1, k2, k3, k4, k5⟩ := l2
    have pts := NF_pts hs ht e hk nf least
    have fr : ∀ p j, p ≠ 20 → p ≠ 21 → ¬ (p = 23 ∧ j = c) → ¬ (p = 22 ∧ 3 * c ≤ j ∧ j < 3 * c + 3) → r.2.2 p j = h p j := fun p j u1 u2 u3 u4 => (k5 p j u1 u2 u3 u4).trans (b3 p j u1)
    have kn' : KN r.2.2 s c := ⟨k, g, _, _, _, e, hk, ht, pts, by rw [pv_if]; exact k2, by rw [pv_if]; exact k3, by rw [pv_if]; exact k4⟩
    refine ⟨r.2.2, ?_, k1, kn', ⟨fun d hd => ?_, fun d hd => ?_, fun d hd => ?_⟩, fun j hj => fr 23 j (by decide) (by decide) (fun w => hj w.2) (by simp), fun p j u1 u2 u3 u4 => fr p j u1 u2 (fun w => u4 w.1) (fun w => u3 w.1)⟩
    · rw [start, if_pos (show h 23 c = 0 from w), topCode_at hs R RB' hc e hk ht, bd_some, b1, bd_some]
      exact bd_of l1
    · by_cases q : d = c
      · rw [q]
        exact Or.inr ⟨k1, kn'⟩
      · rw [fr 23 d (by decide) (by decide) (by simp [q]) (by simp)]
        rcases W.1 d hd with u | ⟨u1, u2⟩
        · exact Or.inl u
        · refine Or.inr ⟨u1, KN_fr (fun i hi => fr 22 _ (by decide) (by decide) (by simp) (by omega)) u2⟩
    · rw [fr 25 d (by decide) (by decide) (by simp) (by simp)]
      exact W.2.1 d hd
    · rw [fr 25 d (by decide) (by decide) (by simp) (by simp)]
      intro u
      obtain ⟨u1, u2⟩ := W.2.2 d hd u
      refine ⟨?_, fun e' he => by rw [fr 25 e' (by decide) (by decide) (by simp) (by simp)]; exact u2 e' he⟩
      by_cases q : d = c
      · rw [q]; exact Or.inr k1
      · rw [fr 23 d (by decide) (by decide) (by simp [q]) (by simp)]
        exact u1
  · refine ⟨h, ?_, w1, w2, W, fun _ _ => rfl, fun _ _ _ _ _ _ => rfl⟩
    rw [start, if_neg (by rw [w1]; decide)]
/-- where there is nothing to look for -/
theorem lookFor_no {h : Hp} {s : Sh} {c : Nat} (H : CR h s (FC s)) (hc : c < 256) (e : FC s c = none ∨ FC s c = some 0) : Jwy_lookFor (nI c) h = some h := by
  unfold Jwy_lookFor
  rw [costOf_at hc, bd_some, CR_cost H hc]
  rcases e with e | e
  · rw [e]; rfl
  · rw [e]; rfl
