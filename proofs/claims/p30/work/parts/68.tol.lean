/-! Calls: told. -/
theorem gr_cost {h : Hp} {s : Sh} {c : Nat} (M : MF h s) (w : isDear s c) : h 46 c = nI (gr s) := ((M.1 c w.1).1 _ w.2.1).1
theorem told_inv {h : Hp} (x : Int32) (H : Inv h) : ∃ r h1 h2, Jyn_told x h = some (r, h1) ∧ Jm_told x h1 = some (r, h2) ∧ Inv h2 := by
  obtain ⟨hP, hM⟩ := inv_CM H
  obtain ⟨⟨s, ⟨m, T⟩, F, ⟨n, K, V⟩, sd, ⟨u, U⟩, ⟨G, I, E⟩⟩, ok, c, d⟩ := id H
  obtain ⟨c1, c2, c3, c4, c5, c6, c7, c8, c9⟩ := id c
  obtain ⟨d1, d2, d3, d4, d5, d6, d7, d8⟩ := id d
  have hs := ok.1
  have hm : rowM h 0 s := d1.1
  by_cases q0 : x = 0
  · refine ⟨nI s.1, h, h, ?_, ?_, H⟩
    · unfold Jyn_told
      rw [if_pos q0, size_at c1, bd_some]
    · unfold Jm_told
      rw [if_pos q0, hm.1]
  by_cases q1 : x = 1
  · refine ⟨nI m, h, h, ?_, ?_, H⟩
    · unfold Jyn_told Jfm_size
      rw [if_neg q0, if_pos q1, bd_some, c2.1]
    · unfold Jm_told
      rw [if_neg q0, if_pos q1, d2.1]
  by_cases q2 : x = 2
  · refine ⟨nI s.2.2, h, h, ?_, ?_, H⟩
    · unfold Jyn_told
      rw [if_neg q0, if_neg q1, if_pos q2, chosen_at c1, bd_some]
    · unfold Jm_told
      rw [if_neg q0, if_neg q1, if_pos q2, show h 38 7 = nI s.2.2 from hm.2.1]
  by_cases q3 : x = 3
  · obtain ⟨h', a1, a2, a3, a4⟩ := commonM_at (k := 99) (v := -1) (Or.inr ⟨rfl, rfl⟩) (by decide) hm hs hM.1
    refine ⟨nI (cmS s), h, h', ?_, ?_, inv_tl H a2 a3 a4⟩
    · unfold Jyn_told
      rw [if_neg q0, if_neg q1, if_neg q2, if_pos q3, commonC_at c1 hs hP, bd_some]
    · unfold Jm_told
      rw [if_neg q0, if_neg q1, if_neg q2, if_pos q3, a1, bd_some]
      rfl
  by_cases q4 : x = 4
  · obtain ⟨h', a1, a2, a3, a4⟩ := commonM_at (k := 99) (v := -1) (Or.inr ⟨rfl, rfl⟩) (by decide) hm hs hM.1
    have iv := inv_tl H a2 a3 a4
    have hM' := (inv_CM iv).2
    obtain ⟨h2, b1, b2, b3, b4⟩ := placeOf_at hM'.1 hM'.2.1 (cmS_lt s) (cmS_isP hs)
    refine ⟨nI (ixN (cmS s)), h, h2, ?_, ?_, inv_p2 iv b2 b3 b4⟩
    · unfold Jyn_told
      rw [if_neg q0, if_neg q1, if_neg q2, if_neg q3, if_pos q4, commonC_at c1 hs hP, bd_some, numberOf_at hP (cmS_lt s) (cmS_isP hs), bd_some]
    · unfold Jm_told
      rw [if_neg q0, if_neg q1, if_neg q2, if_neg q3, if_pos q4, a1, bd_some]
      exact (bd_of b1).trans rfl
  obtain ⟨h1, ln, a1, a2, a3, a4, a5, a6⟩ := reckX c1 hs hP c9
  have M1 := mdS_RCX a6 d1
  by_cases q5 : x = 5
  · obtain ⟨h2, e1, e2, e3, e4⟩ := madeM_at hs M1
    refine ⟨nI (cntT (isM s) 256), h1, h2, ?_, ?_, inv_costs ok c d a5 a6 e2 e4⟩
    · unfold Jyn_told
      rw [if_neg q0, if_neg q1, if_neg q2, if_neg q3, if_neg q4, if_pos q5, a1, bd_some, madeC_at a2, bd_some]
    · unfold Jm_told
      rw [if_neg q0, if_neg q1, if_neg q2, if_neg q3, if_neg q4, if_pos q5, e1, bd_some]
  by_cases q6 : x = 6
  · obtain ⟨h2, co, e1, e2, e3, e4, e5⟩ := dearM_at hs M1
    refine ⟨nI (gr s), h1, h2, ?_, ?_, inv_costs ok c d a5 a6 e3 e5⟩
    · unfold Jyn_told
      rw [if_neg q0, if_neg q1, if_neg q2, if_neg q3, if_neg q4, if_neg q5, if_pos q6, a1, bd_some, (dearC_at a2).1, bd_some]
    · unfold Jm_told
      rw [if_neg q0, if_neg q1, if_neg q2, if_neg q3, if_neg q4, if_neg q5, if_pos q6, e1, bd_some]
      dsimp only
      rw [ib_nI e2.1 (by have := e2.1; omega), cond_true, nI_clamp (by have := e2.1; omega), gr_cost e4 e2]
  have MT : ∀ g, Jm_told x g = bd (Jm_toldOfAll x g) fun c6 => some (c6.1, c6.2) := fun g => by
    unfold Jm_told
    rw [if_neg q0, if_neg q1, if_neg q2, if_neg q3, if_neg q4, if_neg q5, if_neg q6]
  have CT : Jyn_told x h = if x = 7 then bd (Jyn_reckoned h) fun c11 => bd (Jyn_reckoned c11) fun c12 => bd (Jcs_greatestCost c12) fun c13 => bd (Jcs_leastCodeCosting c13 c12) fun c14 => some (c14, c12) else if x = 8 then bd (Jyn_spare h) fun c15 => some (c15, h) else if x = 9 then bd (Jpl_count h) fun c16 => some (c16, h) else if x = 10 then bd (Jbk_size h) fun c17 => some (c17, h) else if x = 11 then bd (Jyn_reckoned h) fun c18 => bd (Jbk_firstWrong c18) fun c19 => some (c19, c18) else if x = 12 then bd (Jpa_size h) fun c20 => some (c20, h) else some (-1000000002, h) := by
    unfold Jyn_told
    rw [if_neg q0, if_neg q1, if_neg q2, if_neg q3, if_neg q4, if_neg q5, if_neg q6]
  by_cases q7 : x = 7
  · have s1 : shC h1 s := shC_fr (funext fun k => a6 29 k (Or.inr (by decide))) (funext fun k => a6 30 k (Or.inr (by decide))) c1
    have P1 : CP h1 := CP_fr (funext fun k => a6 4 k (Or.inl (by decide))) (funext fun k => a6 5 k (Or.inl (by decide))) (funext fun k => a6 6 k (Or.inl (by decide))) (funext fun k => a6 7 k (Or.inl (by decide))) (funext fun k => a6 8 k (Or.inl (by decide))) hP
    obtain ⟨h1', ln', b1, b2, b3, b4, b5, b6⟩ := reckX s1 hs P1 a5
    obtain ⟨h2, co, e1, e2, e3, e4, e5⟩ := dearM_at hs (mdS_RCX b6 M1)
    obtain ⟨g1, co', g2, g3⟩ := dearC_at b2
    have ee := isDear_uniq e2 g3
    subst ee
    refine ⟨nI co, h1', h2, ?_, ?_, inv_costs ok c d b5 (RCX_tr a6 b6) e3 e5⟩
    · rw [CT, if_pos q7, a1, bd_some, b1, bd_some, g1, bd_some, g2, bd_some]
    · rw [MT]
      unfold Jm_toldOfAll
      rw [if_pos q7, e1, bd_some, bd_some]
  by_cases q8 : x = 8
  · obtain ⟨h2, e1, e2, e3, e4⟩ := spareM_at hm hs hM.1
    refine ⟨nI (spA s s.1), h, h2, ?_, ?_, ?_⟩
    · rw [CT, if_neg q7, if_pos q8, spareC_at c1 hs hP, bd_some]
    · rw [MT]
      unfold Jm_toldOfAll
      rw [if_neg q7, if_pos q8, e1, bd_some, bd_some]
    · by_cases z : tLaid h2
      · exact inv_tl H z e3 e4
      · have nt : ¬ tLaid h := fun w => z (e2.2 w)
        have r2 : tRaw h2 := e2.1.resolve_right z
        have w1 : h 37 14 = nI 0 := hM.2.1.resolve_right fun w => nt w.1
        have w2 : h 37 16 = nI 0 := hM.2.2.resolve_right fun w => nt w.1.1
        exact inv_pl ok c d (fun j a _ _ => e3 j a) (fun p a b _ _ => e4 p a b) ⟨Or.inl r2, Or.inl ((e3 14 (by decide)).trans w1), Or.inl ((e3 16 (by decide)).trans w2)⟩
  by_cases q9 : x = 9
  · obtain ⟨h2, e1, e2, e3, e4⟩ := layPlaces_at hM.1 hM.2.1
    refine ⟨nI 46, h, h2, ?_, ?_, inv_p2 H e2 e3 e4⟩
    · rw [CT, if_neg q7, if_neg q8, if_pos q9]
      unfold Jpl_count
      rw [bd_some, hP.2.1]
    · rw [MT]
      unfold Jm_toldOfAll
      rw [if_neg q7, if_neg q8, if_pos q9, e1, bd_some, bd_some, e2.2.1]
  by_cases q10 : x = 10
  · refine ⟨nI n, h, h, ?_, ?_, H⟩
    · rw [CT, if_neg q7, if_neg q8, if_neg q9, if_pos q10]
      unfold Jbk_size
      rw [bd_some, c4.1]
    · rw [MT]
      unfold Jm_toldOfAll
      rw [if_neg q7, if_neg q8, if_neg q9, if_pos q10, bd_some, d4.1]
  by_cases q11 : x = 11
  · have B1 : bkC h1 n K V := bkC_fr (funext fun k => a6 26 k (Or.inr (by decide))) (funext fun k => a6 27 k (Or.inr (by decide))) (funext fun k => a6 28 k (Or.inr (by decide))) c4
    have B2 : bkM h1 n K V := bkM_fr (a6 37 10 (Or.inr (by decide))) (funext fun k => a6 41 k (Or.inr (by decide))) (funext fun k => a6 42 k (Or.inr (by decide))) d4
    obtain ⟨r, b1, b2⟩ := wrongC_at B1 ok.2.2.1
    obtain ⟨r', h2, e1, e2, e3, e4, e5⟩ := wrongM_at hs M1 B2 ok.2.2.1
    have er : r = r' := WR_uniq (fun i hi => cost_eq a2 e4 (ok.2.2.1.2 i hi)) b2 e2
    subst er
    refine ⟨r, h1, h2, ?_, ?_, inv_costs ok c d a5 a6 e3 e5⟩
    · rw [CT, if_neg q7, if_neg q8, if_neg q9, if_neg q10, if_pos q11, a1, bd_some, b1, bd_some]
    · rw [MT]
      unfold Jm_toldOfAll
      rw [if_neg q7, if_neg q8, if_neg q9, if_neg q10, if_pos q11, e1, bd_some, bd_some]
  by_cases q12 : x = 12
  · refine ⟨nI u, h, h, ?_, ?_, H⟩
    · rw [CT, if_neg q7, if_neg q8, if_neg q9, if_neg q10, if_neg q11, if_pos q12]
      unfold Jpa_size
      rw [bd_some, c6.1]
    · rw [MT]
      unfold Jm_toldOfAll
      rw [if_neg q7, if_neg q8, if_neg q9, if_neg q10, if_neg q11, if_pos q12, bd_some, d6.1]
  · refine ⟨-1000000002, h, h, ?_, ?_, H⟩
    · rw [CT, if_neg q7, if_neg q8, if_neg q9, if_neg q10, if_neg q11, if_neg q12]
    · rw [MT]
      unfold Jm_toldOfAll
      rw [if_neg q7, if_neg q8, if_neg q9, if_neg q10, if_neg q11, if_neg q12, bd_some]
