/-! What can be spared: the model. -/
theorem spareM_at {h : Hp} {s : Sh} (hS : rowM h 0 s) (hs : okS s) (H : tRaw h ∨ tLaid h) : ∃ h', Jm_spare h = some (nI (spA s s.1), h') ∧ ((tRaw h' ∨ tLaid h') ∧ (tLaid h → tLaid h')) ∧ (∀ j, j ≠ 12 → h' 37 j = h 37 j) ∧ ∀ p, p ≠ 37 → p ≠ 43 → h' p = h p := by
  have h6 := hs.1
  have hb := base_lt hs
  have cm := cmS_lt s
  obtain ⟨r, l1, l2, l3⟩ := loop_cnt (fun t => Jm_spare_L4 t.1 t.2.1 t.2.2) (fun i t => t.1 = nI (spA s i) ∧ t.2.1 = nI i ∧ ((tRaw t.2.2 ∨ tLaid t.2.2) ∧ (tLaid h → tLaid t.2.2)) ∧ (∀ j, j ≠ 12 → t.2.2 37 j = h 37 j) ∧ ∀ p, p ≠ 37 → p ≠ 43 → t.2.2 p = h p) (fun r => r.1 = nI (spA s s.1) ∧ ((tRaw r.2.2 ∨ tLaid r.2.2) ∧ (tLaid h → tLaid r.2.2)) ∧ (∀ j, j ≠ 12 → r.2.2 37 j = h 37 j) ∧ ∀ p, p ≠ 37 → p ≠ 43 → r.2.2 p = h p) s.1 (fun i t hi ht => by
      obtain ⟨v1, v2, hh⟩ := t
      obtain ⟨e1, e2, q1, q2, q3⟩ := ht
      replace e1 : v1 = nI (spA s i) := e1
      replace e2 : v2 = nI i := e2
      subst e1
      subst e2
      replace q1 : (tRaw hh ∨ tLaid hh) ∧ (tLaid h → tLaid hh) := q1
      replace q2 : ∀ j, j ≠ 12 → hh 37 j = h 37 j := q2
      replace q3 : ∀ p, p ≠ 37 → p ≠ 43 → hh p = h p := q3
      have row : rowM hh 0 s := rowM_fr (q3 38 (by decide) (by decide)) hS
      have s0 : hh 38 0 = nI s.1 := row.1
      have s7 : hh 38 7 = nI s.2.2 := row.2.1
      have b1 := has_tl (b := s.2.2) (t := i) (by omega) (by omega)
      rcases t01 (tl_le s.2.2 i) with q | q
      · refine Or.inl ⟨(nI (spA s (i + 1)), nI (i + 1), hh), ?_, rfl, rfl, q1, q2, q3⟩
        show Jm_spare_L4 (nI (spA s i)) (nI i) hh = _
        unfold Jm_spare_L4
        rw [s0, if_pos ((nI_ltI (by omega) (by omega)).mpr hi), s7, b1, bd_some, q, if_pos (show nI 0 = (0 : Int32) from rfl), spA, if_neg (by omega), lit 0, lit 1, nI_or, Nat.or_zero, nI_add]
      · obtain ⟨h1, a1, a2, a3, a4⟩ := commonM_at (v := nI i) (k := i) (Or.inl rfl) (by omega) row hs q1.1
        have row1 : rowM h1 0 s := rowM_fr (a4 38 (by decide) (by decide)) row
        obtain ⟨h2, c1, c2, c3, c4⟩ := commonM_at (v := -1) (k := 99) (Or.inr ⟨rfl, rfl⟩) (by omega) row1 hs (Or.inr a2)
        have c1' : Jm_common (-1) h1 = some (nI (cmS s), h2) := c1
        have c4' := cmX_lt s s.2.2 i s.1
        have run : Jm_spare_L4 (nI (spA s i)) (nI i) hh = some (.inl (nI (spA s (i + 1)), nI (i + 1), h2)) := by
          unfold Jm_spare_L4
          rw [s0, if_pos ((nI_ltI (by omega) (by omega)).mpr hi), s7, b1, bd_some, q, if_neg (by decide), a1, bd_some, c1', bd_some, spA]
          by_cases z : cmX s s.2.2 i s.1 = cmS s
          · rw [if_pos (by rw [z]), if_pos ⟨q, z⟩, shl1 (by omega), nI_or, lit 1, nI_add]
          · rw [if_neg (fun w => z ((nI_eq (by omega) (by omega)).mp w)), if_neg (fun w => z w.2), lit 0, lit 1, nI_or, Nat.or_zero, nI_add]
        exact Or.inl ⟨(nI (spA s (i + 1)), nI (i + 1), h2), run, rfl, rfl, ⟨Or.inr c2, fun _ => c2⟩, fun j hj => ((c3 j hj).trans (a3 j hj)).trans (q2 j hj), fun p p1 p2 => ((c4 p p1 p2).trans (a4 p p1 p2)).trans (q3 p p1 p2)⟩) (fun t ht => by
      obtain ⟨v1, v2, hh⟩ := t
      obtain ⟨e1, e2, q1, q2, q3⟩ := ht
      replace e2 : v2 = nI s.1 := e2
      subst e2
      have row : rowM hh 0 s := rowM_fr (q3 38 (by decide) (by decide)) hS
      have s0 : hh 38 0 = nI s.1 := row.1
      refine ⟨(v1, nI s.1, hh), ?_, e1, q1, q2, q3⟩
      show Jm_spare_L4 v1 (nI s.1) hh = _
      unfold Jm_spare_L4
      rw [s0, if_neg (fun w => absurd ((nI_ltI (by omega) (by omega)).mp w) (by omega))]) (F := 1000000) (by omega) (a := 0) (by omega) (s := (0, 0, h)) ⟨rfl, rfl, ⟨H, id⟩, fun _ _ => rfl, fun _ _ _ => rfl⟩
  refine ⟨r.2.2, ?_, l3⟩
  unfold Jm_spare
  exact (bd_of l1).trans (by rw [l2])
