/-! Calls: spelling. -/
theorem code_or (v : Int32) : (∃ k, k < 256 ∧ v = nI k ∧ Jyn_isCode v = some 1 ∧ Jm_in (Int32.toInt64 v) 0 255 = some 1) ∨ (Jyn_isCode v = some 0 ∧ Jm_in (Int32.toInt64 v) 0 255 = some 0) := by
  by_cases q : v < 0
  · right
    refine ⟨?_, in_neg (a := 0) q (by decide) _⟩
    unfold Jyn_isCode
    rw [if_pos q]
  · obtain ⟨k, hk, rfl⟩ := nI_of q
    by_cases z : k < 256
    · left
      exact ⟨k, z, rfl, isCode_at z, in_yes (a := 0) (b := 255) (by omega) (by omega) (by decide)⟩
    · right
      refine ⟨?_, in_high (b := 255) 0 (by omega) hk (by decide)⟩
      unfold Jyn_isCode
      rw [if_neg q, if_neg (show ¬ nI k < (256 : Int32) from fun w => z ((nI_ltI (b := 256) hk (by omega)).mp w))]
def RCX (h h' : Hp) : Prop := ∀ p k, (p < 10 ∨ 25 < p) → h' p k = h p k
theorem RCX_tr {h h1 h2 : Hp} (a : RCX h h1) (b : RCX h1 h2) : RCX h h2 := fun p k q => (b p k q).trans (a p k q)
def mdS (h : Hp) (s : Sh) : Prop := rowM h 0 s ∧ (h 37 23 = nI 0 ∨ MF h s)
theorem mdS_RCX {h h' : Hp} {s : Sh} (r : RCX h h') (H : mdS h s) : mdS h' s := by
  obtain ⟨a, b⟩ := H
  refine ⟨rowM_fr (funext fun k => r 38 k (Or.inr (by decide))) a, ?_⟩
  rw [r 37 23 (Or.inr (by decide))]
  rcases b with b | b
  · exact Or.inl b
  · exact Or.inr (MF_fr (r 37 23 (Or.inr (by decide))) (fun k => r 46 k (Or.inr (by decide))) (fun k => r 47 k (Or.inr (by decide))) (fun k => r 48 k (Or.inr (by decide))) (fun k => r 49 k (Or.inr (by decide))) b)
theorem mdS_lay {h : Hp} {s : Sh} (hs : okS s) (H : mdS h s) : ∃ h', Jm_layCosts h = some h' ∧ MF h' s ∧ mdS h' s ∧ RMM h h' := by
  obtain ⟨h', a, b, c⟩ := layCosts_at H.1 hs H.2
  exact ⟨h', a, b, ⟨rowM_RMM c H.1, Or.inr b⟩, c⟩
theorem reckX {h : Hp} {s : Sh} (hS : shC h s) (hs : okS s) (hP : CP h) (H : CW h) : ∃ h' ln, Jyn_reckoned h = some h' ∧ CF h' s ∧ lnOK s ln ∧ WF h' s ln ∧ CW h' ∧ RCX h h' := by
  obtain ⟨h', ln, a, b, c, d, e⟩ := reckoned_at hS hs hP H
  exact ⟨h', ln, a, b, c, d, Or.inr ⟨s, ln, hs, b, c, d⟩, fun p k w => e p k (by omega)⟩
theorem MF_len' {h : Hp} {s : Sh} {ln : Nat → Nat} (hs : okS s) (M : MF h s) (L : lnOK s ln) {c k : Nat} (hc : c < 256) (e : FC s c = some k) : h 49 c = nI (ln c) := by
  obtain ⟨a, b⟩ := MF_ln M
  rw [(b c k hc e).1, ← ln_uniq hs a L k c hc e]
theorem len_no {h : Hp} {s : Sh} {c : Nat} (H : CF h s) (hc : c < 256) (e : FC s c = none) : Jwy_lengthOf (nI c) h = some (-1, h) := by
  unfold Jwy_lengthOf
  rw [costOf_at hc, bd_some, CR_cost H.1 hc, e]
  rfl
theorem letters {h h2 : Hp} {s : Sh} {e k : Nat} (hs : okS s) (H : CF h s) (M : MF h2 s) (he : e < 256) (ek : FC s e = some k) : ∃ r, Jwy_firstLetterOf (nI e) h = some r ∧ (if 0 < h2 46 e then some ((65 : Int32) + h2 47 e) else Jm_letterOf (nI e)) = some r := by
  obtain ⟨m1, -, m3⟩ := (M.1 e he).1 k ek
  obtain ⟨c1, c2, c3⟩ := (H.1 e he).1 k ek
  by_cases z : k = 0
  · subst z
    have nz : ¬ (0 : Int32) < nI 0 := by decide
    rw [m1, if_neg nz]
    rcases base_cost ek with rfl | rfl | rfl
    · exact ⟨99, rfl, rfl⟩
    · exact ⟨98, rfl, rfl⟩
    · exact ⟨97, rfl, rfl⟩
  · have kl := FC_le ek
    obtain ⟨g, x, y, w, t, -, e47, -⟩ := m3 (by omega)
    obtain ⟨g', t', e12⟩ := c3 (by omega)
    have := isTop_uniq t t'
    subst this
    have nb : ∀ {b : Nat}, base3 b → b < 256 → ¬ nI e = nI b := fun q hb w => by
      have := (nI_eq (by omega) (by omega)).mp w
      rw [this, FC_low (n := 0) (by omega) ((LV_0 s _).mpr q)] at ek
      cases ek
      exact z rfl
    have g6 : g < 2 ^ 31 := by
      have := t.1.1
      have := hs.1
      omega
    refine ⟨(65 : Int32) + nI g, ?_, by rw [m1, if_pos (show (0 : Int32) < nI k from (nI_ltI (a := 0) (by omega) (by omega)).mpr (by omega)), e47]⟩
    have tp : Jcs_topOf (nI e) h = some (nI g) := by
      unfold Jcs_topOf
      rw [isCode_at he, bd_some, if_neg (by decide), ib_nI he (by omega), cond_true, nI_clamp (by omega), e12]
    unfold Jwy_firstLetterOf
    rw [if_neg (show ¬ nI e = (170 : Int32) from nb (b := 170) (Or.inl rfl) (by decide)), if_neg (show ¬ nI e = (204 : Int32) from nb (b := 204) (Or.inr (Or.inl rfl)) (by decide)), if_neg (show ¬ nI e = (240 : Int32) from nb (b := 240) (Or.inr (Or.inr rfl)) (by decide)), tp, bd_some, if_neg (nI_ne1 g6), bd_some]
