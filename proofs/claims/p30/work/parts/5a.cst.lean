/-! Calls: costing. -/
theorem countC_at {h : Hp} {s : Sh} {m : Nat} (H : CF h s) (hm : m < 2 ^ 31) : Jcs_countCosting (nI m) h = some (nI (cntT (ce (FC s) m) 256)) := by
  obtain ⟨R, -, -, n, bc, st, n1, B, sc, e12, klt⟩ := H
  have hn := B.1
  unfold Jcs_countCosting
  by_cases q : m < n
  · obtain ⟨a, b, p1, p2, -, p3, p4, -⟩ := parts_at B e12 (by omega) q (by omega) true
    obtain ⟨rfl, rfl⟩ := p3 rfl
    have p1' : Jcs_partsFrom (nI m) 1 h = some (nI (st m)) := p1
    have p2' : Jcs_partsTo (nI m) 1 h = some (nI (st (m + 1))) := p2
    have le := B.2.2.1 m q
    rw [p2', bd_some, p1', bd_some, nI_sub le, sc m (by omega), sc (m + 1) q, cb_succ, Nat.add_sub_cancel_left]
  · have z : cntT (ce (FC s) m) 256 = 0 := cnt_z fun c _ => by
      cases w : ce (FC s) m c with
      | false => rfl
      | true => have := klt c m (ce_iff.mp w); omega
    have f1 : Jcs_partsTo (nI m) 1 h = some 0 := by
      unfold Jcs_partsTo
      rw [if_neg (nI_pos hm), e12, if_pos ((nI_ltI (by omega) hm).mpr (by omega))]
    have f2 : Jcs_partsFrom (nI m) 1 h = some 0 := by
      unfold Jcs_partsFrom
      rw [if_neg (by decide), if_neg (nI_pos hm), e12, if_pos ((nI_ltI (by omega) hm).mpr (by omega))]
    rw [f1, bd_some, f2, bd_some, z]
    rfl
theorem MR_cost {h : Hp} {s : Sh} (H : MF h s) {c : Nat} (hc : c < 256) : h 46 c = match FC s c with
  | some k => nI k
  | none => -1 := by
  cases q : FC s c with
  | some k => exact ((H.1 c hc).1 k q).1
  | none => exact (H.1 c hc).2 q
theorem countM_at {h : Hp} {s : Sh} {m : Nat} (H : MF h s) (hm : m < 2 ^ 31) : ∃ o : Int32 × Int32, loopN 1000000 (fun t => Jm_costing_L15 (nI m) h t.1 t.2) (0, 0) = some o ∧ o.1 = nI (cntT (ce (FC s) m) 256) := by
  obtain ⟨r, l1, l2⟩ := loop_cnt (fun t => Jm_costing_L15 (nI m) h t.1 t.2) (fun i t => t = (nI (cntT (ce (FC s) m) i), nI i)) (fun r => r.1 = nI (cntT (ce (FC s) m) 256)) 256 (fun i t hi ht => by
      subst ht
      have e := MR_cost H hi
      have lt : nI i < (256 : Int32) := (nI_ltI (b := 256) (by omega) (by omega)).mpr hi
      refine Or.inl ⟨(nI (cntT (ce (FC s) m) (i + 1)), nI (i + 1)), ?_, rfl⟩
      show Jm_costing_L15 (nI m) h (nI (cntT (ce (FC s) m) i)) (nI i) = _
      unfold Jm_costing_L15
      rw [if_pos lt, ib_nI hi (by omega), cond_true, nI_clamp (by omega), e, cntT_succ]
      cases q : FC s i with
      | none =>
        have b : ce (FC s) m i = false := by
          cases w : ce (FC s) m i with
          | false => rfl
          | true => rw [ce_iff.mp w] at q; cases q
        rw [b, if_neg (show ¬ (-1 : Int32) = nI m from fun w => nI_ne1 hm w.symm), lit 0, lit 1, nI_add, nI_add]
        rfl
      | some k =>
        have kl := FC_le q
        by_cases z : k = m
        · subst z
          rw [ce_iff.mpr q, if_pos rfl, lit 1, nI_add, nI_add]
          rfl
        · have b : ce (FC s) m i = false := by
            cases w : ce (FC s) m i with
            | false => rfl
            | true =>
              have := ce_iff.mp w
              rw [q] at this
              cases this
              exact absurd rfl z
          rw [b, if_neg (show ¬ nI k = nI m from fun w => z ((nI_eq (by omega) hm).mp w)), lit 0, lit 1, nI_add, nI_add]
          rfl) (fun t ht => by
      subst ht
      exact ⟨(nI (cntT (ce (FC s) m) 256), nI 256), by simp (disch := omega) only [Jm_costing_L15, bd_some, lt_of', sm_l, sm_r, lit, lN_n, hset_if, nI_ltP, nI_eqI, nI_add, nI_sub, nI_clamp, ib_nI, cond_true, if_pos, if_neg, and_self, and_true, true_and, false_and, and_false, ↓reduceIte, eq_self, nI_m1], rfl⟩) (F := 1000000) (by omega) (a := 0) (by omega) (s := (0, 0)) rfl
  exact ⟨r, l1, l2⟩
theorem costing_both {h : Hp} {s : Sh} (v1 : Int32) (hS : shC h s) (hs : okS s) (hP : CP h) (H : CW h) (M : mdS h s) : ∃ r h1 h2, Jyn_costing v1 h = some (r, h1) ∧ Jm_costing v1 h1 = some (r, h2) ∧ CW h1 ∧ RCX h h1 ∧ mdS h2 s ∧ RMM h1 h2 := by
  by_cases n1 : v1 < 0
  · refine ⟨-1000000002, h, h, ?_, ?_, H, fun _ _ _ => rfl, M, fun _ _ _ _ => rfl⟩
    · unfold Jyn_costing
      rw [if_pos n1]
    · unfold Jm_costing
      rw [if_pos n1]
  · obtain ⟨m, hm, rfl⟩ := nI_of n1
    obtain ⟨h1, ln, a1, a2, a3, a4, a5, a6⟩ := reckX hS hs hP H
    obtain ⟨h2, b1, b2, b3, b4⟩ := mdS_lay hs (mdS_RCX a6 M)
    obtain ⟨o, c1, c2⟩ := countM_at b2 hm
    refine ⟨nI (cntT (ce (FC s) m) 256), h1, h2, ?_, ?_, a5, a6, b3, b4⟩
    · unfold Jyn_costing
      rw [if_neg n1, a1, bd_some, countC_at a2 hm, bd_some]
    · unfold Jm_costing
      rw [if_neg n1, b1, bd_some]
      refine (bd_of c1).trans ?_
      rw [c2]
