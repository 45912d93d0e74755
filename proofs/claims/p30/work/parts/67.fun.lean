/-! Calls: relation, keeps, function, fails. -/
theorem MC_tl {h h' : Hp} (H : MC h) (t : tLaid h') (g : ∀ j, j ≠ 12 → h' 37 j = h 37 j) (f : ∀ p, p ≠ 37 → p ≠ 43 → h' p = h p) : MC h' := by
  have pl : pLaid h → pLaid h' := fun w => ⟨t, (g 14 (by decide)).trans w.2.1, fun k hk => by rw [f 44 (by decide) (by decide)]; exact w.2.2 k hk⟩
  refine ⟨Or.inr t, ?_, ?_⟩
  · rcases H.2.1 with w | w
    · exact Or.inl ((g 14 (by decide)).trans w)
    · exact Or.inr (pl w)
  · rcases H.2.2 with w | w
    · exact Or.inl ((g 16 (by decide)).trans w)
    · exact Or.inr ⟨pl w.1, (g 16 (by decide)).trans w.2.1, fun k hk => by rw [f 45 (by decide) (by decide)]; exact w.2.2 k hk⟩
theorem inv_tl {h h' : Hp} (H : Inv h) (t : tLaid h') (g : ∀ j, j ≠ 12 → h' 37 j = h 37 j) (f : ∀ p, p ≠ 37 → p ≠ 43 → h' p = h p) : Inv h' := by
  have w := MC_tl (inv_CM H).2 t g f
  obtain ⟨t, ok, c, d⟩ := H
  exact inv_pl ok c d (fun j a _ _ => g j a) (fun p a b _ _ => f p a b) w
theorem b01_t : nI (if true = true then 1 else 0) = nI 1 := rfl
theorem b01_f : nI (if false = true then 1 else 0) = nI 0 := rfl
def rlT (f : Nat → Bool) : Nat → Nat
  | 0 => 4095
  | i + 1 => bif f i then rlT f i &&& trN i else rlT f i
theorem rlT_ok (f : Nat → Bool) : ∀ i, i ≤ 256 → rlT f i < 4096 ∧ isP (rlT f i) = true
  | 0 => fun _ => ⟨show 4095 < 4096 by decide, isP_4095⟩
  | i + 1 => fun hi => by
    obtain ⟨a, b⟩ := rlT_ok f i (by omega)
    have e : rlT f (i + 1) = bif f i then rlT f i &&& trN i else rlT f i := rfl
    rw [e]
    cases f i with
    | false => exact ⟨a, b⟩
    | true =>
      obtain ⟨x1, x2⟩ := isP_ix a b
      obtain ⟨-, -, w⟩ := pcE_at (c := i) (by omega)
      obtain ⟨y1, y2, -⟩ := w (ixN (rlT f i)) x1
      rw [x2] at y1 y2
      exact ⟨y2, y1⟩
theorem relC_at {h : Hp} {k n R : Nat} (hP : CP h) (hr : relK k n) (hR : R < 2 ^ n) (v3 : Int32) : ∃ x, loopN 1000000 (fun s => Jyn_relation_L31 (nI k) (nI R) v3 h s.1 s.2.1 s.2.2) (0, 4095, 0) = some (nI (cntT (keB k n R) 256), nI (rlT (keB k n R) 256), x) := by
  obtain ⟨r, l1, l2⟩ := loop_cnt (fun s => Jyn_relation_L31 (nI k) (nI R) v3 h s.1 s.2.1 s.2.2) (fun i s => s = (nI (cntT (keB k n R) i), nI (rlT (keB k n R) i), nI i)) (fun r => r = (nI (cntT (keB k n R) 256), nI (rlT (keB k n R) 256), nI 256)) 256 (fun i s hi hs => by
    subst hs
    refine Or.inl ⟨_, ?_, rfl⟩
    show Jyn_relation_L31 (nI k) (nI R) v3 h (nI (cntT (keB k n R) i)) (nI (rlT (keB k n R) i)) (nI i) = _
    unfold Jyn_relation_L31
    rw [if_pos (show nI i < (256 : Int32) from nI_lt (b := 256) hi (by decide)), keptC_at hi hr hR, bd_some, cntT_succ, show nI i + (1 : Int32) = nI (i + 1) from nI_add i 1]
    show _ = some (Sum.inl (_, nI (bif keB k n R i then rlT (keB k n R) i &&& trN i else rlT (keB k n R) i), _))
    cases keB k n R i with
    | false => rw [b01_f, if_pos n0_0]; rfl
    | true =>
      rw [b01_t, if_neg n1_0, traitsOf_at hP hi, bd_some, nI_and, show nI (cntT (keB k n R) i) + (1 : Int32) = nI (cntT (keB k n R) i + 1) from nI_add _ 1]
      rfl) (fun s hs => by
    subst hs
    refine ⟨_, ?_, rfl⟩
    show Jyn_relation_L31 (nI k) (nI R) v3 h (nI (cntT (keB k n R) 256)) (nI (rlT (keB k n R) 256)) (nI 256) = _
    unfold Jyn_relation_L31
    rw [if_neg (show ¬ nI 256 < (256 : Int32) from nI_nlt (b := 256) (Nat.le_refl 256) (by decide))]) (F := 1000000) (by omega) (a := 0) (Nat.zero_le 256) (s := (0, 4095, 0)) rfl
  exact ⟨_, by rw [l1, l2]⟩
theorem relM_at {h : Hp} {k n R : Nat} (hT : tLaid h) (hr : relK k n) (hR : R < 2 ^ n) (v3 : Int32) : ∃ x, loopN 1000000 (fun s => Jm_relation_L36 (nI k) (nI R) v3 h s.1 s.2.1 s.2.2) (0, 4095, 0) = some (nI (cntT (keB k n R) 256), nI (rlT (keB k n R) 256), x) := by
  obtain ⟨r, l1, l2⟩ := loop_cnt (fun s => Jm_relation_L36 (nI k) (nI R) v3 h s.1 s.2.1 s.2.2) (fun i s => s = (nI (cntT (keB k n R) i), nI (rlT (keB k n R) i), nI i)) (fun r => r = (nI (cntT (keB k n R) 256), nI (rlT (keB k n R) 256), nI 256)) 256 (fun i s hi hs => by
    subst hs
    refine Or.inl ⟨_, ?_, rfl⟩
    show Jm_relation_L36 (nI k) (nI R) v3 h (nI (cntT (keB k n R) i)) (nI (rlT (keB k n R) i)) (nI i) = _
    have lt := (rlT_ok (keB k n R) i (by omega)).1
    unfold Jm_relation_L36
    rw [if_pos (show nI i < (256 : Int32) from nI_lt (b := 256) hi (by decide)), keptM_at hi hr hR, bd_some, cntT_succ]
    show _ = some (Sum.inl (_, nI (bif keB k n R i then rlT (keB k n R) i &&& trN i else rlT (keB k n R) i), _))
    cases keB k n R i with
    | false =>
      rw [b01_f, if_pos n0_0]
      unfold Jm_relation_J65
      rw [if_pos n0_0, show nI (cntT (keB k n R) i) + (0 : Int32) = nI (cntT (keB k n R) i + 0) from nI_add _ 0, lit 4095, nI_and, and4095 lt, show nI i + (1 : Int32) = nI (i + 1) from nI_add i 1]
      rfl
    | true =>
      rw [b01_t, if_neg n1_0]
      unfold Jm_relation_J65
      rw [if_neg n1_0, ib_nI hi (by omega), cond_true, nI_clamp (by omega), hT.2 i hi, nI_and, show nI (cntT (keB k n R) i) + (1 : Int32) = nI (cntT (keB k n R) i + 1) from nI_add _ 1, show nI i + (1 : Int32) = nI (i + 1) from nI_add i 1]
      rfl) (fun s hs => by
    subst hs
    refine ⟨_, ?_, rfl⟩
    show Jm_relation_L36 (nI k) (nI R) v3 h (nI (cntT (keB k n R) 256)) (nI (rlT (keB k n R) 256)) (nI 256) = _
    unfold Jm_relation_L36
    rw [if_neg (show ¬ nI 256 < (256 : Int32) from nI_nlt (b := 256) (Nat.le_refl 256) (by decide))]) (F := 1000000) (by omega) (a := 0) (Nat.zero_le 256) (s := (0, 4095, 0)) rfl
  exact ⟨_, by rw [l1, l2]⟩
theorem relation_inv {h : Hp} (v w x : Int32) (H : Inv h) : ∃ r h2, Jyn_relation v w x h = some r ∧ Jm_relation v w x h = some (r, h2) ∧ Inv h2 := by
  obtain ⟨hP, hM⟩ := inv_CM H
  rcases isRel_or v w with ⟨k, n, R, hr, hR, rfl, rfl, i1, i2⟩ | ⟨i1, i2⟩
  · obtain ⟨h', a1, a2, a3, a4⟩ := layTraits_at hM.1
    have iv : Inv h' := inv_tl H a2 a3 a4
    have hM' := (inv_CM iv).2
    obtain ⟨c1, c2⟩ := relC_at hP hr hR x
    obtain ⟨m1, m2⟩ := relM_at a2 hr hR x
    obtain ⟨p1, p2⟩ := rlT_ok (keB k n R) 256 (Nat.le_refl 256)
    have C : Jyn_relation (nI k) (nI R) x h = (if x < 0 then some (-1000000002) else if 1 < x then some (-1000000002) else if x = 0 then some (nI (cntT (keB k n R) 256)) else some (nI (ixN (rlT (keB k n R) 256)))) := by
      unfold Jyn_relation
      rw [i1, bd_some, if_neg one0, c2, bd_some]
      dsimp only
      rw [numberOf_at hP p1 p2, bd_some]
    by_cases q0 : x = 0
    · subst q0
      refine ⟨nI (cntT (keB k n R) 256), h', ?_, ?_, iv⟩
      · rw [C, if_neg (by decide), if_neg (by decide), if_pos rfl]
      · unfold Jm_relation
        rw [i2, bd_some, if_neg one0, show Jm_in (Int32.toInt64 (0 : Int32)) 0 1 = some 1 from in_yes (k := 0) (a := 0) (b := 1) (by decide) (by decide) (by decide), bd_some, if_neg one0, a1, bd_some, m2, bd_some, if_pos rfl]
    by_cases q1 : x = 1
    · subst q1
      obtain ⟨h2, d1, d2, d3, d4⟩ := placeOf_at hM'.1 hM'.2.1 p1 p2
      refine ⟨nI (ixN (rlT (keB k n R) 256)), h2, ?_, ?_, inv_p2 iv d2 d3 d4⟩
      · rw [C, if_neg (by decide), if_neg (by decide), if_neg q0]
      · unfold Jm_relation
        rw [i2, bd_some, if_neg one0, show Jm_in (Int32.toInt64 (1 : Int32)) 0 1 = some 1 from in_yes (k := 1) (a := 0) (b := 1) (by decide) (by decide) (by decide), bd_some, if_neg one0, a1, bd_some, m2, bd_some, if_neg q0]
        dsimp only
        rw [d1, bd_some]
    refine ⟨-1000000002, h, ?_, ?_, H⟩
    · rw [C]
      by_cases z : x < 0
      · rw [if_pos z]
      · obtain ⟨j, hj, rfl⟩ := nI_of z
        have j0 : j ≠ 0 := fun e => q0 (by rw [e]; rfl)
        have j1 : j ≠ 1 := fun e => q1 (by rw [e]; rfl)
        rw [if_neg z, if_pos (show (1 : Int32) < nI j from nI_lt (a := 1) (by omega) hj)]
    · have i5 : Jm_in (Int32.toInt64 x) 0 1 = some 0 := by
        by_cases z : x < 0
        · exact in_neg (a := 0) z (by decide) _
        · obtain ⟨j, hj, rfl⟩ := nI_of z
          have j0 : j ≠ 0 := fun e => q0 (by rw [e]; rfl)
          have j1 : j ≠ 1 := fun e => q1 (by rw [e]; rfl)
          exact in_high (b := 1) 0 (by omega) hj (by decide)
      unfold Jm_relation
      rw [i2, bd_some, if_neg one0, i5, bd_some, if_pos rfl]
  · refine ⟨-1000000002, h, ?_, ?_, H⟩
    · unfold Jyn_relation
      rw [i1, bd_some, if_pos rfl]
    · unfold Jm_relation
      rw [i2, bd_some, if_pos rfl]
theorem f_or {n : Nat} (hn : n ≤ 6) (v : Int32) : (∃ k, k < n ∧ v = nI k) ∨ (v < 0 ∨ nI n ≤ v) := by
  by_cases q : v < 0
  · exact Or.inr (Or.inl q)
  · obtain ⟨k, hk, rfl⟩ := nI_of q
    by_cases z : k < n
    · exact Or.inl ⟨k, z, rfl⟩
    · exact Or.inr (Or.inr (Int32.not_lt.mp (nI_nlt (by omega) hk)))
theorem isFn_yes {h : Hp} {s : Sh} {k : Nat} (hS : rowM h 0 s) (hn : s.1 ≤ 6) (hk : k < s.1) : Jm_isFunction (nI k) h = some 1 := by
  unfold Jm_isFunction
  rw [hS.1, show nI s.1 - (1 : Int32) = nI (s.1 - 1) from nI_sub (b := 1) (by omega), nI_l (n := s.1 - 1) (by omega), show Jm_in (Int32.toInt64 (nI k)) 0 (lN (s.1 - 1)) = some 1 from in_yes (a := 0) (by omega) (by omega) (by omega), bd_some]
  rfl
theorem isFn_no {h : Hp} {s : Sh} {v : Int32} (hS : rowM h 0 s) (hn : s.1 ≤ 6) (hv : v < 0 ∨ nI s.1 ≤ v) : Jm_isFunction v h = some 0 := by
  unfold Jm_isFunction
  have key : Jm_in (Int32.toInt64 v) 0 (Int32.toInt64 (h 38 0 - 1)) = some 0 := by
    by_cases q : v < 0
    · exact in_neg (a := 0) q (by decide) _
    obtain ⟨k, hk, rfl⟩ := nI_of q
    have hk2 : s.1 ≤ k := by
      rcases hv with w | w
      · exact absurd w q
      · exact Nat.not_lt.mp fun z => (Int32.not_lt.mpr w) (nI_lt z (by omega))
    rw [hS.1]
    by_cases z : s.1 = 0
    · rw [z, in_at, nI_l hk]
      have l : Int32.toInt64 (nI 0 - 1) < lN k := by
        rw [Int64.lt_iff_toInt_lt, lN_toInt hk, show (Int32.toInt64 (nI 0 - 1)).toInt = -1 by decide +kernel]
        omega
      rw [if_pos l]
      by_cases y : lN k < 0
      · rw [if_pos y]
      · rw [if_neg y]
    · rw [show nI s.1 - (1 : Int32) = nI (s.1 - 1) from nI_sub (b := 1) (by omega), nI_l (n := s.1 - 1) (by omega)]
      exact in_high (b := s.1 - 1) 0 (by omega) hk (by decide)
  rw [key, bd_some]
  rfl
theorem fnM {h : Hp} {s : Sh} {k : Nat} (hS : rowM h 0 s) (hn : s.1 ≤ 6) (hk : k < s.1) : ibB ((1 : Int32) + nI k) 152 = true ∧ h 38 (Int32.toNatClampNeg ((1 : Int32) + nI k)) = nI (s.2.1 k) := by
  have e : (1 : Int32) + nI k = nI (1 + k) := nI_add 1 k
  rw [e, nI_clamp (by omega)]
  refine ⟨ib_nI (by omega) (by omega), ?_⟩
  have := hS.2.2 k hk
  rw [Nat.zero_add] at this
  exact this
theorem keeps_inv {h : Hp} (v w x : Int32) (H : Inv h) : ∃ r, Jyn_keeps v w x h = some r ∧ Jm_keeps v w x h = some r := by
  obtain ⟨⟨s, ⟨m, T⟩, F, ⟨n, K, V⟩, sd, ⟨u, U⟩, ⟨G, I, E⟩⟩, ok, c, d⟩ := H
  have hS := c.1
  have hm : rowM h 0 s := d.1.1
  have hn := ok.1.1
  rcases f_or hn v with ⟨k, hk, rfl⟩ | hv
  · rcases isRel_or w x with ⟨l, n, R, hr, hR, rfl, rfl, i1, i2⟩ | ⟨i1, i2⟩
    · have hc := ok.1.2.1 k hk
      obtain ⟨b1, b2⟩ := fnM hm hn hk
      refine ⟨nI (if keB l n R (s.2.1 k) = true then 1 else 0), ?_, ?_⟩
      · unfold Jyn_keeps
        rw [holds_yes hS hn hk, bd_some, if_neg one0, i1, bd_some, if_neg one0, codeAt_in hS hn hk, bd_some, keptC_at hc hr hR, bd_some]
        cases keB l n R (s.2.1 k) with
        | false => rw [b01_f, if_pos n0_0]; rfl
        | true => rw [b01_t, if_neg n1_0]; rfl
      · unfold Jm_keeps
        rw [isFn_yes hm hn hk, bd_some, if_neg one0, i2, bd_some, if_neg one0, b1, cond_true, b2, keptM_at hc hr hR, bd_some]
        cases keB l n R (s.2.1 k) with
        | false => rw [b01_f, if_pos n0_0]; rfl
        | true => rw [b01_t, if_neg n1_0]; rfl
    · refine ⟨-1000000002, ?_, ?_⟩
      · unfold Jyn_keeps
        rw [holds_yes hS hn hk, bd_some, if_neg one0, i1, bd_some, if_pos rfl]
      · unfold Jm_keeps
        rw [isFn_yes hm hn hk, bd_some, if_neg one0, i2, bd_some, if_pos rfl]
  · refine ⟨-1000000001, ?_, ?_⟩
    · unfold Jyn_keeps
      rw [holds_no hS hn hv, bd_some, if_pos rfl]
    · unfold Jm_keeps
      rw [isFn_no hm hn hv, bd_some, if_pos rfl]
theorem fails_inv {h : Hp} (v x : Int32) (H : Inv h) : ∃ r, Jyn_fails v x h = some r ∧ Jm_fails v x h = some r := by
  obtain ⟨⟨s, ⟨m, T⟩, F, ⟨n, K, V⟩, sd, ⟨u, U⟩, ⟨G, I, E⟩⟩, ok, c, d⟩ := H
  have hS := c.1
  have hm : rowM h 0 s := d.1.1
  have hn := ok.1.1
  rcases f_or hn v with ⟨k, hk, rfl⟩ | hv
  · have hc := ok.1.2.1 k hk
    obtain ⟨b1, b2⟩ := fnM hm hn hk
    by_cases q : x < 0
    · refine ⟨-1000000001, ?_, ?_⟩
      · unfold Jyn_fails
        rw [holds_yes hS hn hk, bd_some, if_neg one0, if_pos q]
      · unfold Jm_fails
        rw [isFn_yes hm hn hk, bd_some, if_neg one0, show Jm_in (Int32.toInt64 x) 0 11 = some 0 from in_neg (a := 0) q (by decide) _, bd_some, if_pos rfl]
    obtain ⟨t, ht, rfl⟩ := nI_of q
    by_cases z : t < 12
    · obtain ⟨f1, f2⟩ := ft_at hc z
      refine ⟨ftI (s.2.1 k) t, ?_, ?_⟩
      · unfold Jyn_fails
        rw [holds_yes hS hn hk, bd_some, if_neg one0, if_neg q, if_pos (show nI t < (12 : Int32) from nI_lt (b := 12) z (by decide)), codeAt_in hS hn hk, bd_some, f1, bd_some]
      · unfold Jm_fails
        rw [isFn_yes hm hn hk, bd_some, if_neg one0, show Jm_in (Int32.toInt64 (nI t)) 0 11 = some 1 from in_yes (a := 0) (b := 11) (by omega) (by omega) (by decide), bd_some, if_neg one0, b1, cond_true, b2, f2, bd_some]
    · refine ⟨-1000000001, ?_, ?_⟩
      · unfold Jyn_fails
        rw [holds_yes hS hn hk, bd_some, if_neg one0, if_neg q, if_neg (show ¬ nI t < (12 : Int32) from nI_nlt (b := 12) (by omega) ht)]
      · unfold Jm_fails
        rw [isFn_yes hm hn hk, bd_some, if_neg one0, show Jm_in (Int32.toInt64 (nI t)) 0 11 = some 0 from in_high (b := 11) 0 (by omega) ht (by decide), bd_some, if_pos rfl]
  · refine ⟨-1000000001, ?_, ?_⟩
    · unfold Jyn_fails
      rw [holds_no hS hn hv, bd_some, if_pos rfl]
    · unfold Jm_fails
      rw [isFn_no hm hn hv, bd_some, if_pos rfl]
theorem cost_eq {h h2 : Hp} {s : Sh} {c : Nat} (H : CF h s) (M : MF h2 s) (hc : c < 256) : h 11 c = h2 46 c := by
  cases e : FC s c with
  | some k => rw [((H.1 c hc).1 k e).1, ((M.1 c hc).1 k e).1]
  | none => rw [((H.1 c hc).2 e).1, (M.1 c hc).2 e]
theorem function_inv {h : Hp} (v x : Int32) (H : Inv h) : ∃ r h1 h2, Jyn_function v x h = some (r, h1) ∧ Jm_function v x h1 = some (r, h2) ∧ Inv h2 := by
  obtain ⟨hP, hM⟩ := inv_CM H
  obtain ⟨⟨s, ⟨m, T⟩, F, ⟨n, K, V⟩, sd, ⟨u, U⟩, ⟨G, I, E⟩⟩, ok, c, d⟩ := id H
  have hS := c.1
  have hm : rowM h 0 s := d.1.1
  have hn := ok.1.1
  rcases f_or hn v with ⟨k, hk, rfl⟩ | hv
  · have hc := ok.1.2.1 k hk
    obtain ⟨b1, b2⟩ := fnM hm hn hk
    obtain ⟨u1, u2, u3, u4, u5, u6, u7, u8⟩ := pu_at hc
    obtain ⟨co, eco⟩ : ∃ z, z = s.2.1 k := ⟨_, rfl⟩
    rw [← eco] at hc b2 u1 u2 u3 u4 u5 u6 u7 u8
    have ca : Jsh_codeAt (nI k) h = some (nI co) := by rw [eco]; exact codeAt_in hS hn hk
    have C : ∀ z, Jyn_function (nI k) z h = (if z = 0 then some (nI co, h) else if z = 1 then some (nI (hgN co), h) else if z = 2 then some (nI (arN co), h) else if z = 3 then some (nI (suN co), h) else if z = 4 then some (nI (trN co), h) else if z = 5 then some (nI (tnN co), h) else if z = 6 then bd (Jyn_reckoned h) fun c8 => bd (Jcs_costOf (nI co) c8) fun c9 => some (c9, c8) else some (-1000000002, h)) := fun z => by
      unfold Jyn_function
      rw [holds_yes hS hn hk, bd_some, if_neg one0, ca, bd_some, u1, bd_some, u3, bd_some, u7, bd_some, traitsOf_at hP hc, bd_some, u5, bd_some]
    have M : ∀ z (g : Hp), rowM g 0 s → Jm_function (nI k) z g = (if z = 0 then some (nI co, g) else if z = 1 then some (nI (hgN co), g) else if z = 2 then some (nI (arN co), g) else if z = 3 then some (nI (suN co), g) else if z = 4 then bd (Jm_traitsNow (nI co) g) fun c5 => some (c5.1, c5.2) else if z = 5 then some (nI (tnN co), g) else if z = 6 then bd (Jm_costNow (nI co) g) fun c7 => some (c7.1, c7.2) else some (-1000000002, g)) := fun z g hg => by
      obtain ⟨y1, y2⟩ := fnM hg hn hk
      unfold Jm_function
      rw [isFn_yes hg hn hk, bd_some, if_neg one0, y1, cond_true, y2, ← eco, u2, bd_some, u4, bd_some, u8, bd_some, u6, bd_some]
    by_cases q0 : x = 0
    · exact ⟨nI co, h, h, by rw [C, if_pos q0], by rw [M _ _ hm, if_pos q0], H⟩
    by_cases q1 : x = 1
    · exact ⟨nI (hgN co), h, h, by rw [C, if_neg q0, if_pos q1], by rw [M _ _ hm, if_neg q0, if_pos q1], H⟩
    by_cases q2 : x = 2
    · exact ⟨nI (arN co), h, h, by rw [C, if_neg q0, if_neg q1, if_pos q2], by rw [M _ _ hm, if_neg q0, if_neg q1, if_pos q2], H⟩
    by_cases q3 : x = 3
    · exact ⟨nI (suN co), h, h, by rw [C, if_neg q0, if_neg q1, if_neg q2, if_pos q3], by rw [M _ _ hm, if_neg q0, if_neg q1, if_neg q2, if_pos q3], H⟩
    by_cases q4 : x = 4
    · obtain ⟨h', a1, a2, a3, a4⟩ := layTraits_at hM.1
      refine ⟨nI (trN co), h, h', by rw [C, if_neg q0, if_neg q1, if_neg q2, if_neg q3, if_pos q4], ?_, inv_tl H a2 a3 a4⟩
      rw [M _ _ hm, if_neg q0, if_neg q1, if_neg q2, if_neg q3, if_pos q4]
      unfold Jm_traitsNow
      rw [a1, bd_some, ib_nI hc (by omega), cond_true, nI_clamp (by omega), a2.2 co hc, bd_some]
    by_cases q5 : x = 5
    · exact ⟨nI (tnN co), h, h, by rw [C, if_neg q0, if_neg q1, if_neg q2, if_neg q3, if_neg q4, if_pos q5], by rw [M _ _ hm, if_neg q0, if_neg q1, if_neg q2, if_neg q3, if_neg q4, if_pos q5], H⟩
    by_cases q6 : x = 6
    · obtain ⟨h1, ln, a1, a2, a3, a4, a5, a6⟩ := reckX hS ok.1 hP c.2.2.2.2.2.2.2.2
      have M1 := mdS_RCX a6 d.1
      obtain ⟨h2, e1, e2, e3, e4⟩ := mdS_lay ok.1 M1
      refine ⟨h1 11 co, h1, h2, ?_, ?_, inv_costs ok c d a5 a6 e3 e4⟩
      · rw [C, if_neg q0, if_neg q1, if_neg q2, if_neg q3, if_neg q4, if_neg q5, if_pos q6, a1, bd_some, costOf_at hc, bd_some]
      · rw [M _ _ M1.1, if_neg q0, if_neg q1, if_neg q2, if_neg q3, if_neg q4, if_neg q5, if_pos q6]
        unfold Jm_costNow
        rw [e1, bd_some, ib_nI hc (by omega), cond_true, nI_clamp (by omega), bd_some]
        dsimp only
        rw [cost_eq a2 e2 hc]
    exact ⟨-1000000002, h, h, by rw [C, if_neg q0, if_neg q1, if_neg q2, if_neg q3, if_neg q4, if_neg q5, if_neg q6], by rw [M _ _ hm, if_neg q0, if_neg q1, if_neg q2, if_neg q3, if_neg q4, if_neg q5, if_neg q6], H⟩
  · refine ⟨-1000000001, h, h, ?_, ?_, H⟩
    · unfold Jyn_function
      rw [holds_no hS hn hv, bd_some, if_pos rfl]
    · unfold Jm_function
      rw [isFn_no hm hn hv, bd_some, if_pos rfl]
