/-! What the calls that only reckon leave alone. -/
theorem imC_fr {h h' : Hp} {G : Nat → Bool} {I : Nat → Sh} {E : Nat → Nat} (a : h' 32 = h 32) (b : h' 33 = h 33) (c : h' 34 = h 34) (d : h' 35 = h 35) (e : h' 36 = h 36) (H : imC h G I E) : imC h' G I E := by
  intro i hi
  obtain ⟨h1, h2⟩ := H i hi
  rw [e, d]
  exact ⟨h1, fun q => ⟨slotC_fr a b c (h2 q).1, (h2 q).2⟩⟩
theorem undC_fr {h h' : Hp} {u : Nat} {U : Nat → Sh} (z : h' 31 = h 31) (a : h' 32 = h 32) (b : h' 33 = h 33) (c : h' 34 = h 34) (H : undC h u U) : undC h' u U := by
  obtain ⟨h1, h2, nx, h3, h4, h5⟩ := H
  unfold undC
  rw [z]
  exact ⟨h1, h2, nx, h3, h4, fun j hj => slotC_fr a b c (h5 j hj)⟩
theorem imM_fr {h h' : Hp} {G : Nat → Bool} {I : Nat → Sh} {E : Nat → Nat} (a : h' 38 = h 38) (b : h' 39 = h 39) (c : h' 37 2 = h 37 2) (H : imM h G I E) : imM h' G I E := by
  obtain ⟨h1, h2⟩ := H
  unfold imM
  rw [c, b]
  exact ⟨h1, fun i hi q => ⟨rowM_fr a (h2 i hi q).1, (h2 i hi q).2⟩⟩
theorem undM_fr {h h' : Hp} {u : Nat} {U : Nat → Sh} (a : h' 38 = h 38) (c : h' 37 1 = h 37 1) (H : undM h u U) : undM h' u U := by
  obtain ⟨h1, h2, h3⟩ := H
  unfold undM
  rw [c]
  exact ⟨h1, h2, fun j hj => rowM_fr a (h3 j hj)⟩
theorem txC_fr {h h' : Hp} {m : Nat} {T : Nat → Nat} (a : h' 1 = h 1) (b : h' 2 = h 2) (H : txC h m T) : txC h' m T := by
  unfold txC
  rw [a, b]
  exact H
theorem txM_fr {h h' : Hp} {m : Nat} {T : Nat → Nat} (a : h' 37 6 = h 37 6) (b : h' 40 = h 40) (H : txM h m T) : txM h' m T := by
  unfold txM
  rw [a, b]
  exact H
theorem bkC_fr {h h' : Hp} {n : Nat} {K : Nat → Nat} {V : Nat → Int32} (a : h' 26 = h 26) (b : h' 27 = h 27) (c : h' 28 = h 28) (H : bkC h n K V) : bkC h' n K V := by
  unfold bkC
  rw [a, b, c]
  exact H
theorem bkM_fr {h h' : Hp} {n : Nat} {K : Nat → Nat} {V : Nat → Int32} (a : h' 37 10 = h 37 10) (b : h' 41 = h 41) (c : h' 42 = h 42) (H : bkM h n K V) : bkM h' n K V := by
  unfold bkM
  rw [a, b, c]
  exact H
theorem clI_fr {h h' : Hp} (f : ∀ p, (p < 10 ∨ (25 < p ∧ p < 37)) → h' p = h p) (w : CW h') {t : Ste} (H : clI h t) : clI h' t := by
  obtain ⟨s, ⟨m, T⟩, F, ⟨n, K, V⟩, sd, ⟨u, U⟩, ⟨G, I, E⟩⟩ := t
  obtain ⟨h1, h2, h3, h4, h5, h6, h7, h8, -⟩ := H
  have e : ∀ {p}, (p < 10 ∨ (25 < p ∧ p < 37)) → h' p = h p := fun q => f _ q
  exact ⟨shC_fr (e (by decide)) (e (by decide)) h1, txC_fr (e (by decide)) (e (by decide)) h2, by rw [e (p := 0) (by decide)]; exact h3, bkC_fr (e (by decide)) (e (by decide)) (e (by decide)) h4, by rw [e (p := 0) (by decide)]; exact h5, undC_fr (e (by decide)) (e (by decide)) (e (by decide)) (e (by decide)) h6, imC_fr (e (by decide)) (e (by decide)) (e (by decide)) (e (by decide)) (e (by decide)) h7, CP_fr (e (by decide)) (e (by decide)) (e (by decide)) (e (by decide)) (e (by decide)) h8, w⟩
theorem CW_fr {h h' : Hp} (f : ∀ p, p < 37 → h' p = h p) (H : CW h) : CW h' := by
  rcases H with H | ⟨s0, ln, a, b, c, d⟩
  · left
    rw [f 10 (by decide)]
    exact H
  · exact Or.inr ⟨s0, ln, a, CF_FW (fun p k hp => by rw [f p (by omega)]) b, c, WF_fr (fun k => by rw [f 22 (by decide)]) (fun k => by rw [f 23 (by decide)]) (fun k => by rw [f 25 (by decide)]) d⟩
/-- the class's part does not see the model's places -/
theorem clI_M {h h' : Hp} (f : ∀ p, p < 37 → h' p = h p) {t : Ste} (H : clI h t) : clI h' t := by
  refine clI_fr (fun p w => f p (by omega)) (CW_fr f ?_) H
  obtain ⟨s, ⟨m, T⟩, F, ⟨n, K, V⟩, sd, ⟨u, U⟩, ⟨G, I, E⟩⟩ := t
  obtain ⟨-, -, -, -, -, -, -, -, h9⟩ := H
  exact h9
/-- the model's part does not see the class's places -/
theorem mdI_C {h h' : Hp} (f : ∀ p, 36 < p → h' p = h p) {t : Ste} (H : mdI h t) : mdI h' t := by
  obtain ⟨s, ⟨m, T⟩, F, ⟨n, K, V⟩, sd, ⟨u, U⟩, ⟨G, I, E⟩⟩ := t
  obtain ⟨h1, h2, h3, h4, h5, h6, h7, h8⟩ := H
  have e : ∀ {p}, 36 < p → h' p = h p := fun q => f _ q
  have e37 : h' 37 = h 37 := e (by decide)
  refine ⟨⟨rowM_fr (e (by decide)) h1.1, ?_⟩, txM_fr (by rw [e37]) (e (by decide)) h2, by rw [e37]; exact h3, bkM_fr (by rw [e37]) (e (by decide)) (e (by decide)) h4, by rw [e37]; exact h5, undM_fr (e (by decide)) (by rw [e37]) h6, imM_fr (e (by decide)) (e (by decide)) (by rw [e37]) h7, MC_fr (by rw [e37]) (e (by decide)) (by rw [e37]) (e (by decide)) (by rw [e37]) (e (by decide)) h8⟩
  rw [e37]
  rcases h1.2 with w | w
  · exact Or.inl w
  · exact Or.inr (MF_fr (by rw [e37]) (fun k => by rw [e (p := 46) (by decide)]) (fun k => by rw [e (p := 47) (by decide)]) (fun k => by rw [e (p := 48) (by decide)]) (fun k => by rw [e (p := 49) (by decide)]) w)
