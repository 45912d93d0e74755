/-! Calls: fault, seed, tear, write. -/
theorem mdI_RMM {h h' : Hp} {t : Ste} (r : RMM h h') (w : mdS h' t.1) (H : mdI h t) : mdI h' t := by
  obtain ⟨s, ⟨m, T⟩, F, ⟨n, K, V⟩, sd, ⟨u, U⟩, ⟨G, I, E⟩⟩ := t
  obtain ⟨h1, h2, h3, h4, h5, h6, h7, h8⟩ := H
  have e : ∀ {p}, p ≠ 37 → p < 46 → h' p = h p := fun q q2 => funext fun k => r _ k (fun v => q v.1) (Or.inl q2)
  have e37 : ∀ {k}, k ≠ 23 → k ≠ 24 → h' 37 k = h 37 k := fun q1 q2 => r 37 _ (fun v => by rcases v.2 with x | x; exact q1 x; exact q2 x) (Or.inl (by decide))
  exact ⟨w, txM_fr (e37 (by decide) (by decide)) (e (by decide) (by decide)) h2, (e37 (by decide) (by decide)).trans h3, bkM_fr (e37 (by decide) (by decide)) (e (by decide) (by decide)) (e (by decide) (by decide)) h4, (e37 (by decide) (by decide)).trans h5, undM_fr (e (by decide) (by decide)) (e37 (by decide) (by decide)) h6, imM_fr (e (by decide) (by decide)) (e (by decide) (by decide)) (e37 (by decide) (by decide)) h7, MC_fr (e37 (by decide) (by decide)) (e (by decide) (by decide)) (e37 (by decide) (by decide)) (e (by decide) (by decide)) (e37 (by decide) (by decide)) (e (by decide) (by decide)) h8⟩
theorem fault_both {h : Hp} (H : Inv h) : ∃ r, Jyn_fault h = some r ∧ Jm_fault h = some r := by
  obtain ⟨⟨s, ⟨m, T⟩, F, ⟨n, K, V⟩, sd, ⟨u, U⟩, ⟨G, I, E⟩⟩, ok, c, d⟩ := H
  exact ⟨F, by unfold Jyn_fault; rw [c.2.2.1], by unfold Jm_fault; rw [d.2.2.1]⟩
