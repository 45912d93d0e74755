/-! The dearest code of the class. -/
theorem dearC_at {h : Hp} {s : Sh} (H : CF h s) : Jcs_greatestCost h = some (nI (gr s)) ∧ ∃ c, Jcs_leastCodeCosting (nI (gr s)) h = some (nI c) ∧ isDear s c := by
  have H' := H
  obtain ⟨R, -, g, n, bc, st, n1, B, sc, e12, klt⟩ := H'
  have hn := B.1
  refine ⟨by unfold Jcs_greatestCost; rw [g], ?_⟩
  obtain ⟨c0, c1, c2⟩ := gr_is s
  have gl := klt c0 _ c2
  obtain ⟨a, b, p1, -, ⟨g1, g2, g3, g4⟩, p3, p4, p5⟩ := parts_at B e12 (by omega) gl (by omega) true
  obtain ⟨i, i1, i2, -⟩ := g4 c0 ⟨c1, Or.inl ⟨rfl, c2⟩⟩
  obtain ⟨k1, k2, k3⟩ := g3 a (Nat.le_refl a) (by omega)
  have s256 := B.2.1
  refine ⟨bc a, ?_, k2, ?_, fun d hd ed => ?_⟩
  · unfold Jcs_leastCodeCosting
    rw [show Jcs_partsFrom (nI (gr s)) 1 h = some (nI a) from p1, bd_some, madeAt_at B.2.2.2.2.2.2.2.2.2 (by omega) s256 k1, bd_some]
  · exact PR_any (FC_170 s) k3
  · obtain ⟨j, j1, j2, j3⟩ := g4 d ⟨hd, Or.inl ⟨rfl, ed⟩⟩
    rw [← j3]
    by_cases z : j = a
    · rw [z]; exact Nat.le_refl _
    · have := p5 a j (Nat.le_refl a) (by omega) j2
      omega
