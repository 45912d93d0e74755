/-! The class's lengths. -/
theorem level_of {st : Nat → Nat} (h0 : st 0 = 0) : ∀ {n j : Nat}, j < st n → ∃ m, m < n ∧ st m ≤ j ∧ j < st (m + 1)
  | 0, j, h => by omega
  | n + 1, j, h => by
    by_cases q : j < st n
    · obtain ⟨m, m1, m2, m3⟩ := level_of h0 q
      exact ⟨m, by omega, m2, m3⟩
    · exact ⟨n, by omega, by omega, h⟩
theorem partLen_at {h : Hp} {s : Sh} {ln : Nat → Nat} {d i k : Nat} (W : WF h s ln) (hd : d < 256) (hi : i < 3) (e : FC s d = some k) (kn : k = 0 ∨ h 23 d = nI 1) {g x y z : Nat} (tk : 0 < k → isTop s k d g) (pk : 0 < k → isPts s k d g x y z) (l : 0 < k → i < arN (s.2.1 g) → h 25 (pt x y z i) = nI (ln (pt x y z i))) : Jwy_partLength (nI d) (nI i) h = some (nI (if k = 0 then 0 else lp ln (arN (s.2.1 g)) i (pt x y z i))) := by
  unfold Jwy_partLength
  rcases knownPt_at W hd hi e kn with ⟨a1, a2⟩ | ⟨g', x', y', z', a1, a2, a3, a4, a5, a6⟩
  · rw [a1, bd_some, isCode_no, bd_some, if_pos rfl]
    by_cases q : k = 0
    · rw [if_pos q]; rfl
    · rw [if_neg q]
      unfold lp
      rw [if_neg (a2 g x y z (by omega) (tk (by omega)) (pk (by omega)))]
      rfl
  · have := isTop_uniq (tk a2) a3
    subst this
    obtain ⟨rfl, rfl, rfl⟩ := isPts_uniq (pk a2) a4
    rw [a1, bd_some, isCode_at a6, bd_some, if_neg (by decide), ib_nI a6 (by omega), cond_true, nI_clamp (by omega), l a2 a5, if_neg (by omega)]
    unfold lp
    rw [if_pos a5]
theorem measure_at {h : Hp} {s : Sh} {ln : Nat → Nat} {d k : Nat} (hs : okS s) (L : lnOK s ln) (W : WF h s ln) (hd : d < 256) (e : FC s d = some k) (ok : h 24 d ≠ 0 → (k = 0 ∨ h 23 d = nI 1) ∧ ∀ e, PAR s d e → h 25 e = nI (ln e)) : ∃ h', Jwy_measure (nI d) h = some h' ∧ WF h' s ln ∧ (h 24 d ≠ 0 → h' 25 d = nI (ln d)) ∧ ∀ p j, ¬ (p = 25 ∧ j = d ∧ h 24 d ≠ 0) → h' p j = h p j := by
  have start : Jwy_measure (nI d) h = if h 24 d = 0 then some h else bd (Jwy_partLength (nI d) 0 h) fun c2 => bd (Jwy_partLength (nI d) 1 h) fun c3 => bd (Jwy_partLength (nI d) 2 h) fun c4 => some (hset h 25 d ((((1 : Int32) + c2) + c3) + c4)) := by
    unfold Jwy_measure
    rw [isCode_at hd, bd_some, if_neg (by decide), ib_nI hd (by omega), cond_true, nI_clamp (by omega)]
    rfl
  by_cases q : h 24 d = 0
  · exact ⟨h, by rw [start, if_pos q], W, fun w => absurd q w, fun _ _ _ => rfl⟩
  · rw [if_neg q] at start
    obtain ⟨o1, o2⟩ := ok q
    obtain ⟨L1, L2⟩ := L d hd k e
    have tp : ∃ g x y z, (0 < k → isTop s k d g) ∧ (0 < k → isPts s k d g x y z) := by
      rcases Nat.eq_zero_or_pos k with z | z
      · exact ⟨0, 0, 0, 0, fun w => by omega, fun w => by omega⟩
      · obtain ⟨g, x, y, w, a, b⟩ := pts_ex hs hd e z
        exact ⟨g, x, y, w, fun _ => a, fun _ => b⟩
    obtain ⟨g, x, y, z, tk, pk⟩ := tp
    have one : ∀ i, i < 3 → Jwy_partLength (nI d) (nI i) h = some (nI (if k = 0 then 0 else lp ln (arN (s.2.1 g)) i (pt x y z i))) := fun i hi => partLen_at W hd hi e o1 tk pk (fun w1 w2 => o2 _ ⟨k, g, x, y, z, e, w1, tk w1, pk w1, i, hi, w2, rfl⟩)
    have p0 := one 0 (by decide)
    have p1 := one 1 (by decide)
    have p2 := one 2 (by decide)
    have val : ((((1 : Int32) + nI (if k = 0 then 0 else lp ln (arN (s.2.1 g)) 0 (pt x y z 0))) + nI (if k = 0 then 0 else lp ln (arN (s.2.1 g)) 1 (pt x y z 1))) + nI (if k = 0 then 0 else lp ln (arN (s.2.1 g)) 2 (pt x y z 2))) = nI (ln d) := by
      rw [lit 1, nI_add, nI_add, nI_add]
      refine congrArg nI ?_
      by_cases w : k = 0
      · rw [if_pos w, if_pos w, if_pos w, L1 w]
      · rw [if_neg w, if_neg w, if_neg w, L2 g x y z (by omega) (tk (by omega)) (pk (by omega))]
        rfl
    refine ⟨hset h 25 d (nI (ln d)), ?_, ⟨fun c hc => ?_, fun c hc => ?_, fun c hc => ?_⟩, fun _ => by rw [hset_if, if_pos ⟨rfl, rfl⟩], fun p j w => ?_⟩
    · rw [start, show (0 : Int32) = nI 0 from rfl, p0, bd_some, show Jwy_partLength (nI d) 1 h = _ from p1, bd_some, show Jwy_partLength (nI d) 2 h = _ from p2, bd_some, val]
    · rw [hset_if, if_neg (by simp)]
      rcases W.1 c hc with u | ⟨u1, u2⟩
      · exact Or.inl u
      · exact Or.inr ⟨u1, KN_fr (fun i _ => by rw [hset_if, if_neg (by simp)]) u2⟩
    · rw [hset_if]
      by_cases u : c = d
      · rw [if_pos ⟨rfl, u⟩, u]
        exact Or.inr ⟨k, e, rfl⟩
      · rw [if_neg (fun v => u v.2)]
        exact W.2.1 c hc
    · have nz : ∀ e', PAR s d e' → hset h 25 d (nI (ln d)) 25 e' ≠ nI 0 := fun e' he => by
        obtain ⟨u0, m', u1, u2⟩ := PAR_low he e
        have ne : e' ≠ d := fun v => by
          rw [v, e] at u1
          cases u1
          omega
        rw [hset_if, if_neg (fun v => ne v.2), o2 e' he]
        have l := ln_le hs L m' e' u0 u1
        have := FC_le u1
        exact fun v => by
          have := (nI_eq (a := ln e') (b := 0) (by omega) (by omega)).mp v
          omega
      intro u
      rw [hset_if, if_neg (by simp)]
      by_cases v : c = d
      · subst v
        refine ⟨?_, nz⟩
        rcases o1 with o1 | o1
        · rw [o1] at e; exact Or.inl e
        · exact Or.inr o1
      · rw [hset_if, if_neg (fun w => v w.2)] at u
        obtain ⟨u1, u2⟩ := W.2.2 c hc u
        refine ⟨u1, fun e' he => ?_⟩
        by_cases w : e' = d
        · rw [w, hset_if, if_pos ⟨rfl, rfl⟩]
          have l := ln_le hs L k d hd e
          have := FC_le e
          exact fun v => by
            have := (nI_eq (a := ln d) (b := 0) (by omega) (by omega)).mp v
            omega
        · rw [hset_if, if_neg (fun y => w y.2)]
          exact u2 e' he
    · rw [hset_if, if_neg (fun v => w ⟨v.1, v.2, q⟩)]
theorem clear24 (h : Hp) {c : Nat} (hc : c < 256) (v2 : Int32) : ∃ o : Int32 × Hp, loopN 1000000 (fun s => Jwy_lengthOf_L41 (nI c) v2 s.1 s.2) (0, h) = some o ∧ (∀ d, d < 256 → o.2 24 d = if d = c then nI 1 else nI 0) ∧ ∀ p j, p ≠ 24 → o.2 p j = h p j := by
  obtain ⟨r, l1, l2⟩ := loop_cnt (fun s => Jwy_lengthOf_L41 (nI c) v2 s.1 s.2) (fun i t => t.1 = nI i ∧ (∀ d, d < i → t.2 24 d = if d = c then nI 1 else nI 0) ∧ ∀ p j, p ≠ 24 → t.2 p j = h p j) (fun t => (∀ d, d < 256 → t.2 24 d = if d = c then nI 1 else nI 0) ∧ ∀ p j, p ≠ 24 → t.2 p j = h p j) 256 (fun i t hi ht => by
      obtain ⟨i', hh⟩ := t
      obtain ⟨e1, h1, fr⟩ := ht
      replace e1 : i' = nI i := e1
      subst e1
      replace h1 : ∀ d, d < i → hh 24 d = if d = c then nI 1 else nI 0 := h1
      replace fr : ∀ p j, p ≠ 24 → hh p j = h p j := fr
      have nar1 : vp_nar .boolean 1 = nI 1 := rfl
      have nar0 : vp_nar .boolean 0 = nI 0 := rfl
      have lt : nI i < (256 : Int32) := (nI_ltI (b := 256) (by omega) (by omega)).mpr hi
      refine Or.inl ⟨(nI (i + 1), hset hh 24 i (if i = c then nI 1 else nI 0)), ?_, rfl, fun d hd => ?_, fun p j hp => ?_⟩
      · show Jwy_lengthOf_L41 (nI c) v2 (nI i) hh = _
        unfold Jwy_lengthOf_L41
        rw [if_pos lt]
        by_cases q : i = c
        · rw [if_pos (by rw [q]), if_pos q, ib_nI hi (by omega), cond_true, nI_clamp (by omega), nar1, lt_of', lit 1, nI_add]
        · rw [if_neg (fun w => q ((nI_eq (by omega) (by omega)).mp w)), if_neg q, ib_nI hi (by omega), cond_true, nI_clamp (by omega), nar0, lt_of', lit 1, nI_add]
      · show hset hh 24 i _ 24 d = _
        rw [hset_if]
        by_cases q : d = i
        · rw [if_pos ⟨rfl, q⟩, q]
        · rw [if_neg (fun w => q w.2)]
          exact h1 d (by omega)
      · show hset hh 24 i _ p j = _
        rw [hset_if, if_neg (fun w => hp w.1)]
        exact fr p j hp) (fun t ht => by
      obtain ⟨i', hh⟩ := t
      obtain ⟨e1, h1⟩ := ht
      replace e1 : i' = nI 256 := e1
      subst e1
      exact ⟨(nI 256, hh), by simp (disch := omega) only [Jwy_lengthOf_L41, bd_some, lt_of', sm_l, sm_r, lit, lN_n, hset_if, nI_ltP, nI_eqI, nI_add, nI_sub, nI_clamp, ib_nI, cond_true, if_pos, if_neg, and_self, and_true, true_and, false_and, and_false, ↓reduceIte, eq_self, nI_m1], h1⟩) (F := 1000000) (by omega) (a := 0) (by omega) (s := (0, h)) ⟨rfl, fun d hd => absurd hd (Nat.not_lt_zero d), fun _ _ _ => rfl⟩
  exact ⟨r, l1, l2⟩
theorem lengthOf_at {h : Hp} {s : Sh} {ln : Nat → Nat} {c k : Nat} (hs : okS s) (H : CF h s) (L : lnOK s ln) (W : WF h s ln) (hc : c < 256) (e : FC s c = some k) : ∃ h', Jwy_lengthOf (nI c) h = some (nI (ln c), h') ∧ WF h' s ln ∧ (∀ p j, (p < 20 ∨ 25 < p) → h' p j = h p j) ∧ h' 25 c = nI (ln c) := by
  have kl := FC_le e
  obtain ⟨ln1, ln2⟩ := ln_le hs L k c hc e
  have e11 : h 11 c = nI k := ((H.1 c hc).1 k e).1
  have n1 : ¬ nI k = -1 := nI_ne1 (by omega)
  by_cases pos : (0 : Int32) < h 25 c
  · have e25 : h 25 c = nI (ln c) := by
      rcases W.2.1 c hc with w | ⟨-, -, w⟩
      · rw [w] at pos
        exact absurd pos (by decide)
      · exact w
    refine ⟨h, ?_, W, fun _ _ _ => rfl, e25⟩
    unfold Jwy_lengthOf
    rw [costOf_at hc, bd_some, e11, if_neg n1, ib_nI hc (by omega), cond_true, nI_clamp (by omega), if_pos pos, if_neg n1, cond_true, e25]
  · have H0 := H
    obtain ⟨R, -, -, n, bc, st, n1', B, -, e12, klt⟩ := H0
    have B' := B
    obtain ⟨b1, b2, b3, b4, b5, b6, b7, b8, b9, b10⟩ := B'
    have kn := klt c k e
    obtain ⟨o1, l1, l2, l3⟩ := clear24 h hc (nI k)
    have B1 : BC o1.2 n (FC s) bc st := BC_fr (fun k => l3 13 k (by decide)) (fun k => l3 14 k (by decide)) (l3 10 9 (by decide)) B
    obtain ⟨a, en, p1, p2, -, p3, p4, -⟩ := parts_at B1 ((l3 10 12 (by decide)).trans e12) (by omega) kn (by omega) true
    obtain ⟨rfl, rfl⟩ := p3 rfl
    have cost_of : ∀ {j}, j < st (k + 1) → bc j < 256 ∧ ∃ m, m ≤ k ∧ FC s (bc j) = some m ∧ st m ≤ j ∧ j < st (m + 1) := fun hj => by
      obtain ⟨m, m1, m2, m3⟩ := level_of b9 hj
      have hj256 := (b4 _ (Nat.lt_of_lt_of_le hj p4)).2
      exact ⟨hj256, m, by omega, (b6 m (by omega) _ hj256).mpr ⟨_, m2, m3, rfl⟩, m2, m3⟩
    have pos_of : ∀ {d m}, d < 256 → FC s d = some m → m ≤ k → ∃ j, j < st (k + 1) ∧ st m ≤ j ∧ j < st (m + 1) ∧ bc j = d := by
      intro d m hd em hm
      obtain ⟨j, j1, j2, j3⟩ := (b6 m (by omega) _ hd).mp em
      have := BC_le B (show m + 1 ≤ k + 1 by omega) (by omega)
      exact ⟨j, by omega, j1, j2, j3⟩
    -- the needed ones, dear ones first
    obtain ⟨r2, m1, m2, m3, m4, m5, m6⟩ := loop_cnt (fun t => Jwy_lengthOf_L85 (nI c) (nI k) (nI (st (k + 1))) t.1 t.2) (fun i t => t.1 = nI (st (k + 1) - i) - nI 1 ∧ WF t.2 s ln ∧ (∀ d, d < 256 → t.2 24 d ≠ 0 → ∃ m, m ≤ k ∧ FC s d = some m) ∧ (∀ j, st (k + 1) - i ≤ j → j < st (k + 1) → t.2 24 (bc j) ≠ 0 → (FC s (bc j) = some 0 ∨ t.2 23 (bc j) = nI 1) ∧ ∀ e, PAR s (bc j) e → t.2 24 e ≠ 0) ∧ t.2 24 c ≠ 0 ∧ ∀ p j, p ≠ 20 → p ≠ 21 → p ≠ 22 → p ≠ 23 → p ≠ 24 → t.2 p j = h p j) (fun t => WF t.2 s ln ∧ (∀ d, d < 256 → t.2 24 d ≠ 0 → ∃ m, m ≤ k ∧ FC s d = some m) ∧ (∀ j, j < st (k + 1) → t.2 24 (bc j) ≠ 0 → (FC s (bc j) = some 0 ∨ t.2 23 (bc j) = nI 1) ∧ ∀ e, PAR s (bc j) e → t.2 24 e ≠ 0) ∧ t.2 24 c ≠ 0 ∧ ∀ p j, p ≠ 20 → p ≠ 21 → p ≠ 22 → p ≠ 23 → p ≠ 24 → t.2 p j = h p j) (st (k + 1)) (fun i t hi ht => by
        obtain ⟨v4, hh⟩ := t
        obtain ⟨q1, q2, q3, q4, q5, q6⟩ := ht
        replace q1 : v4 = nI (st (k + 1) - i) - nI 1 := q1
        subst q1
        replace q2 : WF hh s ln := q2
        replace q3 : ∀ d, d < 256 → hh 24 d ≠ 0 → ∃ m, m ≤ k ∧ FC s d = some m := q3
        replace q4 : ∀ j, st (k + 1) - i ≤ j → j < st (k + 1) → hh 24 (bc j) ≠ 0 → (FC s (bc j) = some 0 ∨ hh 23 (bc j) = nI 1) ∧ ∀ e, PAR s (bc j) e → hh 24 e ≠ 0 := q4
        replace q5 : hh 24 c ≠ 0 := q5
        replace q6 : ∀ p j, p ≠ 20 → p ≠ 21 → p ≠ 22 → p ≠ 23 → p ≠ 24 → hh p j = h p j := q6
        obtain ⟨w1, m, w2, w3, w4, w5⟩ := cost_of (j := st (k + 1) - i - 1) (by omega)
        have CFh : CF hh s := CF_FW (fun p j hp => q6 p j (by omega) (by omega) (by omega) (by omega) (by omega)) H
        have ma := madeAt_at (h := hh) (i := st (k + 1) - i - 1) ((q6 10 9 (by decide) (by decide) (by decide) (by decide) (by decide)).trans b10) (by omega) b2 ((q6 13 _ (by decide) (by decide) (by decide) (by decide) (by decide)).trans (b4 _ (by omega)).1)
        obtain ⟨h', n1, n2, n3, n4, n5, n6, n7⟩ := needParts_at hs CFh q2 w1 w3
        refine Or.inl ⟨(nI (st (k + 1) - (i + 1)) - nI 1, h'), ?_, rfl, n2, fun d hd w => ?_, fun j j1 j2 j3 => ?_, n3 c q5, fun p j u1 u2 u3 u4 u5 => (n7 p j u1 u2 u3 u4 u5).trans (q6 p j u1 u2 u3 u4 u5)⟩
        · show Jwy_lengthOf_L85 (nI c) (nI k) (nI (st (k + 1))) (nI (st (k + 1) - i) - nI 1) hh = _
          unfold Jwy_lengthOf_L85
          rw [nI_sub (by omega), if_neg (nI_pos (by omega)), ma, bd_some, n1, bd_some, ← Int32.sub_eq_add_neg, show st (k + 1) - (i + 1) = st (k + 1) - i - 1 by omega]
          rfl
        · rcases n4 d w with u | u
          · exact q3 d hd u
          · obtain ⟨-, m', u1, u2⟩ := PAR_low u w3
            exact ⟨m', by omega, u1⟩
        · by_cases z : j = st (k + 1) - i - 1
          · subst z
            have old : hh 24 (bc (st (k + 1) - i - 1)) ≠ 0 := by
              rcases n4 _ j3 with u | u
              · exact u
              · obtain ⟨-, m', u1, u2⟩ := PAR_low u w3
                rw [w3] at u1
                cases u1
                omega
            obtain ⟨v1, v2⟩ := n5 old
            refine ⟨?_, v2⟩
            rcases Nat.eq_zero_or_pos m with z | z
            · rw [z] at w3; exact Or.inl w3
            · exact Or.inr (v1 z)
          · have old : hh 24 (bc j) ≠ 0 := by
              rcases n4 _ j3 with u | u
              · exact u
              · obtain ⟨-, m', u1, u2⟩ := PAR_low u w3
                obtain ⟨-, m2, -, v2, v3, v4⟩ := cost_of j2
                rw [v2] at u1
                cases u1
                have := BC_le B (show m' + 1 ≤ m by omega) (by omega)
                omega
            obtain ⟨v1, v2⟩ := q4 j (by omega) j2 old
            refine ⟨?_, fun e' he => n3 e' (v2 e' he)⟩
            rcases v1 with v1 | v1
            · exact Or.inl v1
            · exact Or.inr (n6 _ v1)) (fun t ht => by
        obtain ⟨v4, hh⟩ := t
        obtain ⟨q1, q2, q3, q4, q5, q6⟩ := ht
        replace q1 : v4 = nI (st (k + 1) - st (k + 1)) - nI 1 := q1
        subst q1
        refine ⟨(nI (st (k + 1) - st (k + 1)) - nI 1, hh), ?_, q2, q3, fun j hj => q4 j (by omega) hj, q5, q6⟩
        show Jwy_lengthOf_L85 (nI c) (nI k) (nI (st (k + 1))) (nI (st (k + 1) - st (k + 1)) - nI 1) hh = _
        unfold Jwy_lengthOf_L85
        rw [Nat.sub_self, if_pos (by decide)]) (F := 1000000) (by omega) (a := 0) (by omega) (s := (nI (st (k + 1)) - nI 1, o1.2)) ⟨rfl, WF_fr (fun k => l3 22 k (by decide)) (fun k => l3 23 k (by decide)) (fun k => l3 25 k (by decide)) W, fun d hd w => by
        have u := l2 d hd
        by_cases v : d = c
        · exact ⟨k, Nat.le_refl k, by rw [v]; exact e⟩
        · rw [if_neg v] at u
          exact absurd u w, fun j j1 j2 => by omega, by
        show o1.2 24 c ≠ 0
        rw [l2 c hc, if_pos rfl]
        decide, fun p j _ _ _ _ w => l3 p j w⟩
    -- and measured, cheap ones first
    obtain ⟨r3, k1, k2, k3, k4⟩ := loop_cnt (fun t => Jwy_lengthOf_L112 (nI c) (nI k) (nI (st (k + 1))) t.1 t.2) (fun i t => t.1 = nI i ∧ WF t.2 s ln ∧ (∀ j, j < i → r2.2 24 (bc j) ≠ 0 → t.2 25 (bc j) = nI (ln (bc j))) ∧ ∀ p j, p ≠ 25 → t.2 p j = r2.2 p j) (fun t => WF t.2 s ln ∧ (∀ j, j < st (k + 1) → r2.2 24 (bc j) ≠ 0 → t.2 25 (bc j) = nI (ln (bc j))) ∧ ∀ p j, p ≠ 25 → t.2 p j = r2.2 p j) (st (k + 1)) (fun i t hi ht => by
        obtain ⟨i', hh⟩ := t
        obtain ⟨q1, q2, q3, q4⟩ := ht
        replace q1 : i' = nI i := q1
        subst q1
        replace q2 : WF hh s ln := q2
        replace q3 : ∀ j, j < i → r2.2 24 (bc j) ≠ 0 → hh 25 (bc j) = nI (ln (bc j)) := q3
        replace q4 : ∀ p j, p ≠ 25 → hh p j = r2.2 p j := q4
        obtain ⟨w1, m, w2, w3, w4, w5⟩ := cost_of (j := i) hi
        have fr : ∀ p j, p ≠ 20 → p ≠ 21 → p ≠ 22 → p ≠ 23 → p ≠ 24 → p ≠ 25 → hh p j = h p j := fun p j u1 u2 u3 u4 u5 u6 => (q4 p j u6).trans (m6 p j u1 u2 u3 u4 u5)
        have ma := madeAt_at (h := hh) (i := i) ((fr 10 9 (by decide) (by decide) (by decide) (by decide) (by decide) (by decide)).trans b10) (by omega) b2 ((fr 13 _ (by decide) (by decide) (by decide) (by decide) (by decide) (by decide)).trans (b4 _ (by omega)).1)
        obtain ⟨h', n1, n2, n3, n4⟩ := measure_at hs L q2 w1 w3 (fun w => by
          rw [q4 24 _ (by decide)] at w
          obtain ⟨v1, v2⟩ := m4 i hi w
          refine ⟨?_, fun e' he => ?_⟩
          · rcases v1 with v1 | v1
            · rw [w3] at v1
              cases v1
              exact Or.inl rfl
            · exact Or.inr (by rw [q4 23 _ (by decide)]; exact v1)
          · obtain ⟨u0, m', u1, u2⟩ := PAR_low he w3
            obtain ⟨j, j1, j2, j3, j4⟩ := pos_of u0 u1 (by omega)
            have := BC_le B (show m' + 1 ≤ m by omega) (by omega)
            have := q3 j (by omega) (by rw [j4]; exact v2 e' he)
            rw [j4] at this
            exact this)
        refine Or.inl ⟨(nI (i + 1), h'), ?_, rfl, n2, fun j j1 j2 => ?_, fun p j hp => (n4 p j (fun w => hp w.1)).trans (q4 p j hp)⟩
        · show Jwy_lengthOf_L112 (nI c) (nI k) (nI (st (k + 1))) (nI i) hh = _
          unfold Jwy_lengthOf_L112
          rw [if_pos ((nI_ltI (by omega) (by omega)).mpr hi), ma, bd_some, n1, bd_some, lit 1, nI_add]
        · by_cases z : bc j = bc i
          · rw [z]
            exact n3 (by rw [q4 24 _ (by decide), ← z]; exact j2)
          · show h' 25 (bc j) = _
            rw [n4 25 (bc j) (fun w => z w.2.1)]
            refine q3 j ?_ j2
            by_cases y : j = i
            · rw [y] at z; exact absurd rfl z
            · omega) (fun t ht => by
        obtain ⟨i', hh⟩ := t
        obtain ⟨q1, q2⟩ := ht
        replace q1 : i' = nI (st (k + 1)) := q1
        subst q1
        refine ⟨(nI (st (k + 1)), hh), ?_, q2⟩
        show Jwy_lengthOf_L112 (nI c) (nI k) (nI (st (k + 1))) (nI (st (k + 1))) hh = _
        unfold Jwy_lengthOf_L112
        rw [if_neg (fun w => absurd ((nI_ltI (by omega) (by omega)).mp w) (by omega))]) (F := 1000000) (by omega) (a := 0) (by omega) (s := (0, r2.2)) ⟨rfl, m2, fun j hj => absurd hj (Nat.not_lt_zero j), fun _ _ _ => rfl⟩
    obtain ⟨j, j1, -, -, j4⟩ := pos_of hc e (Nat.le_refl k)
    have fin := k3 j j1 (by rw [j4]; exact m5)
    rw [j4] at fin
    refine ⟨r3.2, ?_, k2, fun p q w => (k4 p q (by omega)).trans (m6 p q (by omega) (by omega) (by omega) (by omega) (by omega)), fin⟩
    have p2' : Jcs_partsTo (nI k) 1 o1.2 = some (nI (st (k + 1))) := p2
    unfold Jwy_lengthOf
    rw [costOf_at hc, bd_some, e11, if_neg n1, ib_nI hc (by omega), cond_true, nI_clamp (by omega), if_neg pos]
    refine (bd_of l1).trans ?_
    rw [p2', bd_some]
    refine (bd_of m1).trans ?_
    refine (bd_of k1).trans ?_
    rw [cond_true, fin]
