/-! The dearest code. -/
def isDear (s : Sh) (c : Nat) : Prop := c < 256 ∧ FC s c = some (gr s) ∧ ∀ d, d < 256 → FC s d = some (gr s) → c ≤ d
theorem isDear_uniq {s : Sh} {c d : Nat} (h : isDear s c) (h' : isDear s d) : c = d := by
  have := h.2.2 d h'.1 h'.2.1
  have := h'.2.2 c h.1 h.2.1
  omega
theorem gr_max {s : Sh} {c k : Nat} (hc : c < 256) (e : FC s c = some k) : k ≤ gr s := drN_max hc (FC_LV e)
theorem gr_is (s : Sh) : ∃ c, c < 256 ∧ FC s c = some (gr s) := by
  obtain ⟨c, c1, c2⟩ := drN_is s 9999
  exact ⟨c, c1, FC_low (Nat.le_refl _) c2⟩
theorem dearM_at {h : Hp} {s : Sh} (hs : okS s) (H : mdS h s) : ∃ h' c, Jm_dearestCode h = some (nI c, h') ∧ isDear s c ∧ mdS h' s ∧ MF h' s ∧ RMM h h' := by
  obtain ⟨h', a1, a2, a3, a4⟩ := mdS_lay hs H
  obtain ⟨r, l1, v, k, l2, l3, l4, l5⟩ := loop_cnt (fun t => Jm_dearestCode_L12 h' t.1 t.2) (fun i t => t.2 = nI (256 - i) - nI 1 ∧ ∃ v k, t.1 = nI v ∧ v < 256 ∧ FC s v = some k ∧ ∀ j, 256 - i ≤ j → j < 256 → ∀ kj, FC s j = some kj → kj < k ∨ (kj = k ∧ v ≤ j)) (fun r => ∃ v k, r.1 = nI v ∧ v < 256 ∧ FC s v = some k ∧ ∀ j, j < 256 → ∀ kj, FC s j = some kj → kj < k ∨ (kj = k ∧ v ≤ j)) 256 (fun i t hi ht => by
      obtain ⟨v', w⟩ := t
      obtain ⟨e1, v, k, e2, hv, ev, inv⟩ := ht
      replace e1 : w = nI (256 - i) - nI 1 := e1
      replace e2 : v' = nI v := e2
      subst e1
      subst e2
      have ej := MR_cost a2 (show 256 - i - 1 < 256 by omega)
      have e1 := MR_cost a2 hv
      rw [ev] at e1
      replace e1 : h' 46 v = nI k := e1
      have kl := FC_le ev
      have nx : nI (256 - i - 1) + (-1) = nI (256 - (i + 1)) - nI 1 := by
        rw [← Int32.sub_eq_add_neg, show 256 - (i + 1) = 256 - i - 1 by omega]
        rfl
      have run : Jm_dearestCode_L12 h' (nI v) (nI (256 - i) - nI 1) = if h' 46 (256 - i - 1) < nI k then some (.inl (nI v, nI (256 - (i + 1)) - nI 1)) else some (.inl (nI (256 - i - 1), nI (256 - (i + 1)) - nI 1)) := by
        unfold Jm_dearestCode_L12
        rw [nI_sub (by omega), if_neg (nI_pos (by omega)), ib_nI (by omega) (by omega), cond_true, ib_nI hv (by omega), cond_true, nI_clamp (by omega), nI_clamp (by omega), e1, nx]
      cases q : FC s (256 - i - 1) with
      | none =>
        rw [q] at ej
        replace ej : h' 46 (256 - i - 1) = -1 := ej
        refine Or.inl ⟨(nI v, nI (256 - (i + 1)) - nI 1), ?_, rfl, v, k, rfl, hv, ev, fun j j1 j2 kj ek => ?_⟩
        · refine Eq.trans run ?_
          rw [ej, if_pos]
          refine Int32.not_le.mp fun w => ?_
          exact nI_pos (show k < 2 ^ 31 by omega) (Int32.lt_of_le_of_lt w m1_lt0)
        · by_cases z : j = 256 - i - 1
          · rw [z, q] at ek; cases ek
          · exact inv j (by omega) j2 kj ek
      | some kj =>
        rw [q] at ej
        replace ej : h' 46 (256 - i - 1) = nI kj := ej
        have kjl := FC_le q
        by_cases z : kj < k
        · refine Or.inl ⟨(nI v, nI (256 - (i + 1)) - nI 1), ?_, rfl, v, k, rfl, hv, ev, fun j j1 j2 kj' ek => ?_⟩
          · refine Eq.trans run ?_
            rw [ej, if_pos ((nI_ltI (by omega) (by omega)).mpr z)]
          · by_cases y : j = 256 - i - 1
            · rw [y, q] at ek; cases ek; exact Or.inl z
            · exact inv j (by omega) j2 kj' ek
        · refine Or.inl ⟨(nI (256 - i - 1), nI (256 - (i + 1)) - nI 1), ?_, rfl, 256 - i - 1, kj, rfl, by omega, q, fun j j1 j2 kj' ek => ?_⟩
          · refine Eq.trans run ?_
            rw [ej, if_neg (fun w => z ((nI_ltI (by omega) (by omega)).mp w))]
          · by_cases y : j = 256 - i - 1
            · rw [y, q] at ek; cases ek; exact Or.inr ⟨rfl, by omega⟩
            · have := inv j (by omega) j2 kj' ek
              omega) (fun t ht => by
      obtain ⟨v', w⟩ := t
      obtain ⟨e1, v, k, e2, hv, ev, inv⟩ := ht
      replace e1 : w = nI (256 - 256) - nI 1 := e1
      subst e1
      refine ⟨(v', nI (256 - 256) - nI 1), ?_, v, k, e2, hv, ev, fun j hj => inv j (by omega) hj⟩
      show Jm_dearestCode_L12 h' v' (nI (256 - 256) - nI 1) = _
      unfold Jm_dearestCode_L12
      rw [if_pos (by decide)]) (F := 1000000) (by omega) (a := 0) (by omega) (s := (170, 255)) ⟨rfl, 170, 0, rfl, by omega, FC_170 s, fun j j1 j2 => by omega⟩
  obtain ⟨c, c1, c2⟩ := gr_is s
  have top : k = gr s := by
    have u1 := gr_max l3 l4
    have u2 := l5 c c1 _ c2
    omega
  refine ⟨h', v, ?_, ⟨l3, by rw [← top]; exact l4, fun d hd ed => ?_⟩, a3, a2, a4⟩
  · unfold Jm_dearestCode
    rw [a1, bd_some]
    exact (bd_of l1).trans (by rw [l2])
  · have := l5 d hd _ ed
    omega
