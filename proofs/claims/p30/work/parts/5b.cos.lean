/-! Calls: cost. -/
theorem top_both {h h2 : Hp} {s : Sh} {c k : Nat} (H : CF h s) (M : MF h2 s) (hc : c < 256) (e : FC s c = some k) : h 12 c = if h2 46 c = 0 then -1 else h2 47 c := by
  obtain ⟨m1, -, m3⟩ := (M.1 c hc).1 k e
  obtain ⟨c1, c2, c3⟩ := (H.1 c hc).1 k e
  have kl := FC_le e
  rcases Nat.eq_zero_or_pos k with z | z
  · rw [m1, if_pos (by rw [z]; rfl), c2 z]
  · obtain ⟨g, x, y, w, t, -, e47, -⟩ := m3 z
    obtain ⟨g', t', e12⟩ := c3 z
    rw [m1, if_neg (show ¬ nI k = (0 : Int32) from fun w => by
      have := (nI_eq (a := k) (b := 0) (by omega) (by omega)).mp w
      omega), e47, e12, isTop_uniq t t']
/-- a part, both sides -/
theorem part_both {h : Hp} {s : Sh} {ln : Nat → Nat} {c i : Nat} (hs : okS s) (H : CF h s) (L : lnOK s ln) (W : WF h s ln) (hc : c < 256) (hi : i < 3) : ∃ r h', Jwy_partOf (nI c) (nI i) h = some (r, h') ∧ CF h' s ∧ WF h' s ln ∧ (∀ p j, (p < 20 ∨ 25 < p) → h' p j = h p j) ∧ ∀ h2, MF h2 s → r = (if h2 46 c < 0 then -1 else if h2 46 c = 0 then -1 else h2 48 (3 * c + i)) := by
  unfold Jwy_partOf
  have none' : (FC s c = none ∨ FC s c = some 0) → Jwy_knownPart (nI c) (nI i) h = some (-1) := fun w => by
    rw [knownPart_at hc hi]
    rcases W.1 c hc with u | ⟨-, k, g, x, y, z, a, b, -⟩
    · rw [if_pos (show h 23 c = 0 from u)]
    · rcases w with w | w
      · rw [w] at a; cases a
      · rw [w] at a; cases a; omega
  cases e : FC s c with
  | none =>
    refine ⟨-1, h, ?_, H, W, fun _ _ _ => rfl, fun h2 M => ?_⟩
    · rw [lookFor_no H.1 hc (Or.inl e), bd_some, none' (Or.inl e), bd_some]
    · rw [(M.1 c hc).2 e, if_pos m1_lt0]
  | some k =>
    rcases Nat.eq_zero_or_pos k with z | z
    · subst z
      refine ⟨-1, h, ?_, H, W, fun _ _ _ => rfl, fun h2 M => ?_⟩
      · rw [lookFor_no H.1 hc (Or.inr e), bd_some, none' (Or.inr e), bd_some]
      · rw [((M.1 c hc).1 0 e).1, if_neg (by decide), if_pos (by decide)]
    · obtain ⟨h', a1, a2, a3, a4, -, a5⟩ := lookFor_at hs H W hc e z
      have kl := FC_le e
      refine ⟨h' 22 (3 * c + i), h', ?_, CF_FW (fun p j hp => a5 p j (by omega) (by omega) (by omega) (by omega)) H, a4, fun p j w => a5 p j (by omega) (by omega) (by omega) (by omega), fun h2 M => ?_⟩
      · rw [a1, bd_some, knownPart_at hc hi, if_neg (show ¬ h' 23 c = 0 by rw [a2]; decide), bd_some]
      · obtain ⟨m1, -, m3⟩ := (M.1 c hc).1 k e
        obtain ⟨g, x, y, w, t, p, -, e1, e2, e3, -⟩ := m3 z
        obtain ⟨k', g', x', y', w', u1, u2, u3, u4, f1, f2, f3⟩ := a3
        rw [e] at u1
        cases u1
        have := isTop_uniq t u3
        subst this
        obtain ⟨rfl, rfl, rfl⟩ := isPts_uniq p u4
        rw [m1, if_neg (nI_pos (by omega)), if_neg (show ¬ nI k = (0 : Int32) from fun w => by
          have := (nI_eq (a := k) (b := 0) (by omega) (by omega)).mp w
          omega)]
        rcases (show i = 0 ∨ i = 1 ∨ i = 2 by omega) with rfl | rfl | rfl
        · rw [Nat.add_zero, e1, f1]
        · rw [e2, f2]
        · rw [e3, f3]
theorem cost_both {h : Hp} {s : Sh} (v1 v2 : Int32) (hS : shC h s) (hs : okS s) (hP : CP h) (H : CW h) (M : mdS h s) : ∃ r h1 h2, Jyn_cost v1 v2 h = some (r, h1) ∧ Jm_cost v1 v2 h1 = some (r, h2) ∧ CW h1 ∧ RCX h h1 ∧ mdS h2 s ∧ RMM h1 h2 := by
  rcases code_or v1 with ⟨c, hc, rfl, i1, i2⟩ | ⟨i1, i2⟩
  · obtain ⟨h1, ln, a1, a2, a3, a4, a5, a6⟩ := reckX hS hs hP H
    have cls : Jyn_cost (nI c) v2 h = if v2 = 0 then bd (Jcs_costOf (nI c) h1) fun c3 => some (c3, h1) else if v2 = 1 then bd (Jcs_topOf (nI c) h1) fun c4 => some (c4, h1) else if v2 = 2 then bd (Jwy_partOf (nI c) 0 h1) fun c5 => some (c5.1, c5.2) else if v2 = 3 then bd (Jwy_partOf (nI c) 1 h1) fun c6 => some (c6.1, c6.2) else if v2 = 4 then bd (Jwy_partOf (nI c) 2 h1) fun c7 => some (c7.1, c7.2) else if v2 = 5 then bd (Jwy_lengthOf (nI c) h1) fun c8 => some (c8.1, c8.2) else some ((-1000000002), h1) := by
      unfold Jyn_cost
      rw [i1, bd_some, if_neg (by decide), a1, bd_some]
    have mod : ∀ {h1 h2 : Hp}, Jm_layCosts h1 = some h2 → Jm_in (Int32.toInt64 v2) 0 5 = some 1 → Jm_cost (nI c) v2 h1 = if v2 = 0 then some (h2 46 c, h2) else if h2 46 c < 0 then some (h2 46 c, h2) else if v2 = 5 then some (h2 49 c, h2) else if h2 46 c = 0 then some (-1, h2) else if v2 = 1 then some (h2 47 c, h2) else bif ibB ((((3 : Int32) * nI c) + v2) - (2 : Int32)) 768 then some (h2 48 (Int32.toNatClampNeg ((((3 : Int32) * nI c) + v2) - (2 : Int32))), h2) else none := fun b1 i5 => by
      unfold Jm_cost
      rw [i2, bd_some, if_neg (by decide), i5, bd_some, if_neg (by decide), b1, bd_some, ib_nI hc (by omega)]
      simp only [cond_true, nI_clamp (show c < 2 ^ 31 by omega)]
    have inn : ∀ {j : Nat}, j ≤ 5 → Jm_in (Int32.toInt64 (nI j)) 0 5 = some 1 := fun hj => in_yes (a := 0) (b := 5) (by omega) hj (by decide)
    by_cases q : ∃ j, j ≤ 5 ∧ v2 = nI j
    · obtain ⟨j, hj, rfl⟩ := q
      have mne : ∀ c' k, c' < 256 → FC s c' = some k → ∀ h2, MF h2 s → ¬ h2 46 c' < 0 := fun c' k hc' e h2 M => by
        rw [((M.1 c' hc').1 k e).1]
        exact nI_pos (by have := FC_le e; omega)
      have lay := mdS_lay hs (mdS_RCX a6 M)
      rcases (show j = 0 ∨ j = 1 ∨ (∃ i, i < 3 ∧ j = i + 2) ∨ j = 5 by
        rcases (show j = 0 ∨ j = 1 ∨ j = 2 ∨ j = 3 ∨ j = 4 ∨ j = 5 by omega) with h | h | h | h | h | h
        · exact Or.inl h
        · exact Or.inr (Or.inl h)
        · exact Or.inr (Or.inr (Or.inl ⟨0, by omega, by omega⟩))
        · exact Or.inr (Or.inr (Or.inl ⟨1, by omega, by omega⟩))
        · exact Or.inr (Or.inr (Or.inl ⟨2, by omega, by omega⟩))
        · exact Or.inr (Or.inr (Or.inr h))) with rfl | rfl | ⟨i, hi, rfl⟩ | rfl
      · obtain ⟨h2, b1, b2, b3, b4⟩ := lay
        refine ⟨h1 11 c, h1, h2, ?_, ?_, a5, a6, b3, b4⟩
        · rw [cls, if_pos (by decide), costOf_at hc, bd_some]
        · rw [mod b1 (inn (by omega)), if_pos (by decide), MR_cost b2 hc, CR_cost a2.1 hc]
          cases FC s c <;> rfl
      · obtain ⟨h2, b1, b2, b3, b4⟩ := lay
        refine ⟨h1 12 c, h1, h2, ?_, ?_, a5, a6, b3, b4⟩
        · rw [cls, if_neg (by decide), if_pos (by decide)]
          unfold Jcs_topOf
          rw [i1, bd_some, if_neg (by decide), ib_nI hc (by omega), cond_true, nI_clamp (by omega), bd_some]
        · rw [mod b1 (inn (by omega)), if_neg (by decide)]
          cases e : FC s c with
          | none => rw [(b2.1 c hc).2 e, if_pos m1_lt0, ((a2.1 c hc).2 e).2]
          | some k =>
            rw [if_neg (mne c k hc e h2 b2), if_neg (by decide), top_both a2 b2 hc e]
            by_cases w : h2 46 c = 0
            · rw [if_pos w, if_pos w]
            · rw [if_neg w, if_neg w, if_pos (by decide)]
      · obtain ⟨r, h1', p1, p2, p3, p4, p5⟩ := part_both hs a2 a3 a4 hc hi
        have r1 : RCX h h1' := RCX_tr a6 (fun p j w => p4 p j (by omega))
        obtain ⟨h2, b1, b2, b3, b4⟩ := mdS_lay hs (mdS_RCX r1 M)
        refine ⟨r, h1', h2, ?_, ?_, Or.inr ⟨s, ln, hs, p2, a3, p3⟩, r1, b3, b4⟩
        · rw [cls]
          rcases (show i = 0 ∨ i = 1 ∨ i = 2 by omega) with rfl | rfl | rfl
          · rw [if_neg (by decide), if_neg (by decide), if_pos (by decide)]
            exact (bd_of p1).trans rfl
          · rw [if_neg (by decide), if_neg (by decide), if_neg (by decide), if_pos (by decide)]
            exact (bd_of p1).trans rfl
          · rw [if_neg (by decide), if_neg (by decide), if_neg (by decide), if_neg (by decide), if_pos (by decide)]
            exact (bd_of p1).trans rfl
        · have ne : ∀ {v : Nat}, v < 2 ^ 31 → v ≠ i + 2 → ¬ nI (i + 2) = nI v := fun hv h w => h ((nI_eq (by omega) hv).mp w).symm
          rw [mod b1 (inn (by omega)), if_neg (show ¬ nI (i + 2) = (0 : Int32) from ne (v := 0) (by decide) (by omega)), p5 h2 b2]
          have e0 := MR_cost b2 hc
          cases e : FC s c with
          | none =>
            rw [e] at e0
            have e0 : h2 46 c = -1 := e0
            rw [e0, if_pos m1_lt0, if_pos m1_lt0]
          | some k =>
            have m0 := mne c k hc e h2 b2
            rw [if_neg m0, if_neg m0, if_neg (show ¬ nI (i + 2) = (5 : Int32) from ne (v := 5) (by decide) (by omega))]
            by_cases w : h2 46 c = 0
            · rw [if_pos w, if_pos w]
            · rw [if_neg w, if_neg w, if_neg (show ¬ nI (i + 2) = (1 : Int32) from ne (v := 1) (by decide) (by omega)), lit 3, lit 2, nI_mul, nI_add, nI_sub (by omega), ib_nI (by omega) (by omega), cond_true, nI_clamp (by omega), show 3 * c + (i + 2) - 2 = 3 * c + i by omega]
      · have cls5 : Jyn_cost (nI c) (nI 5) h = bd (Jwy_lengthOf (nI c) h1) fun c8 => some (c8.1, c8.2) := by
          rw [cls, if_neg (by decide), if_neg (by decide), if_neg (by decide), if_neg (by decide), if_neg (by decide), if_pos (by decide)]
        cases e : FC s c with
        | none =>
          obtain ⟨h2, b1, b2, b3, b4⟩ := lay
          refine ⟨-1, h1, h2, ?_, ?_, a5, a6, b3, b4⟩
          · rw [cls5, len_no a2 hc e, bd_some]
          · rw [mod b1 (inn (by omega)), if_neg (by decide), (b2.1 c hc).2 e, if_pos m1_lt0]
        | some k =>
          obtain ⟨h1', c1, c2, c3, c4⟩ := lengthOf_at hs a2 a3 a4 hc e
          have r1 : RCX h h1' := RCX_tr a6 (fun p j w => c3 p j (by omega))
          obtain ⟨h2, b1, b2, b3, b4⟩ := mdS_lay hs (mdS_RCX r1 M)
          refine ⟨nI (ln c), h1', h2, ?_, ?_, Or.inr ⟨s, ln, hs, CF_FW (fun p j hp => c3 p j (by omega)) a2, a3, c2⟩, r1, b3, b4⟩
          · rw [cls5, c1, bd_some]
          · rw [mod b1 (inn (by omega)), if_neg (by decide), if_neg (mne c k hc e h2 b2), if_pos (by decide), MF_len' hs b2 a3 hc e]
    · have no : ∀ {j : Nat}, j ≤ 5 → ¬ v2 = nI j := fun hj w => q ⟨_, hj, w⟩
      have i5 : Jm_in (Int32.toInt64 v2) 0 5 = some 0 := by
        by_cases z : v2 < 0
        · exact in_neg (a := 0) z (by decide) _
        · obtain ⟨k, hk, rfl⟩ := nI_of z
          exact in_high (b := 5) 0 (Nat.not_le.mp fun w => q ⟨k, w, rfl⟩) hk (by decide)
      refine ⟨-1000000002, h1, h1, ?_, ?_, a5, a6, mdS_RCX a6 M, fun _ _ _ _ => rfl⟩
      · rw [cls, if_neg (show ¬ v2 = (0 : Int32) from no (j := 0) (by decide)), if_neg (show ¬ v2 = (1 : Int32) from no (j := 1) (by decide)), if_neg (show ¬ v2 = (2 : Int32) from no (j := 2) (by decide)), if_neg (show ¬ v2 = (3 : Int32) from no (j := 3) (by decide)), if_neg (show ¬ v2 = (4 : Int32) from no (j := 4) (by decide)), if_neg (show ¬ v2 = (5 : Int32) from no (j := 5) (by decide))]
      · unfold Jm_cost
        rw [i2, bd_some, if_neg (by decide), i5, bd_some, if_pos (by decide)]
  · refine ⟨-1000000002, h, h, ?_, ?_, H, fun _ _ _ => rfl, M, fun _ _ _ _ => rfl⟩
    · unfold Jyn_cost
      rw [i1, bd_some, if_pos (by decide)]
    · unfold Jm_cost
      rw [i2, bd_some, if_pos (by decide)]
