/-! Calls: cost, spell, costing. -/
theorem inv_costs {h h1 h2 : Hp} {t : Ste} (ok : okSt t) (c : clI h t) (d : mdI h t) (w : CW h1) (r : RCX h h1) (m : mdS h2 t.1) (q : RMM h1 h2) : Inv h2 := by
  have c1 : clI h1 t := clI_fr (fun p v => funext fun k => r p k (by omega)) w c
  have d1 : mdI h1 t := mdI_C (fun p v => funext fun k => r p k (by omega)) d
  exact ⟨t, ok, clI_M (fun p v => funext fun k => q p k (by omega) (by omega)) c1, mdI_RMM q m d1⟩
theorem cost_inv {h : Hp} (v1 v2 : Int32) (H : Inv h) : ∃ r h1 h2, Jyn_cost v1 v2 h = some (r, h1) ∧ Jm_cost v1 v2 h1 = some (r, h2) ∧ Inv h2 := by
  obtain ⟨⟨s, ⟨m, T⟩, F, ⟨n, K, V⟩, sd, ⟨u, U⟩, ⟨G, I, E⟩⟩, ok, c, d⟩ := H
  obtain ⟨r, h1, h2, a1, a2, a3, a4, a5, a6⟩ := cost_both v1 v2 c.1 ok.1 c.2.2.2.2.2.2.2.1 c.2.2.2.2.2.2.2.2 d.1
  exact ⟨r, h1, h2, a1, a2, inv_costs ok c d a3 a4 a5 a6⟩
theorem spell_inv {h : Hp} (v1 v2 : Int32) (H : Inv h) : ∃ r h1 h2, Jyn_spell v1 v2 h = some (r, h1) ∧ Jm_spell v1 v2 h1 = some (r, h2) ∧ Inv h2 := by
  obtain ⟨⟨s, ⟨m, T⟩, F, ⟨n, K, V⟩, sd, ⟨u, U⟩, ⟨G, I, E⟩⟩, ok, c, d⟩ := H
  obtain ⟨r, h1, h2, a1, a2, a3, a4, a5, a6⟩ := spell_both v1 v2 c.1 ok.1 c.2.2.2.2.2.2.2.1 c.2.2.2.2.2.2.2.2 d.1
  exact ⟨r, h1, h2, a1, a2, inv_costs ok c d a3 a4 a5 a6⟩
theorem costing_inv {h : Hp} (v1 : Int32) (H : Inv h) : ∃ r h1 h2, Jyn_costing v1 h = some (r, h1) ∧ Jm_costing v1 h1 = some (r, h2) ∧ Inv h2 := by
  obtain ⟨⟨s, ⟨m, T⟩, F, ⟨n, K, V⟩, sd, ⟨u, U⟩, ⟨G, I, E⟩⟩, ok, c, d⟩ := H
  obtain ⟨r, h1, h2, a1, a2, a3, a4, a5, a6⟩ := costing_both v1 c.1 ok.1 c.2.2.2.2.2.2.2.1 c.2.2.2.2.2.2.2.2 d.1
  exact ⟨r, h1, h2, a1, a2, inv_costs ok c d a3 a4 a5 a6⟩
