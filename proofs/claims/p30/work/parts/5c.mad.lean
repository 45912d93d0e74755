/-! How many codes are made. -/
noncomputable def isM (s : Sh) (c : Nat) : Bool := (FC s c).isSome
theorem isM_some {s : Sh} {c k : Nat} (e : FC s c = some k) : isM s c = true := by
  unfold isM
  rw [e]
  rfl
theorem isM_none {s : Sh} {c : Nat} (e : FC s c = none) : isM s c = false := by
  unfold isM
  rw [e]
  rfl
theorem isM_cb {s : Sh} {c n : Nat} (h : ∀ k, FC s c = some k → k < n) : cb (FC s) n c = isM s c := by
  rw [Bool.eq_iff_iff, cb_iff]
  constructor
  · intro ⟨k, e, _⟩
    exact isM_some e
  · intro w
    cases q : FC s c with
    | none => rw [isM_none q] at w; cases w
    | some k => exact ⟨k, rfl, h k q⟩
theorem madeC_at {h : Hp} {s : Sh} (H : CF h s) : Jcs_madeCount h = some (nI (cntT (isM s) 256)) := by
  obtain ⟨R, -, -, n, bc, st, n1, B, sc, e12, klt⟩ := H
  unfold Jcs_madeCount
  rw [B.2.2.2.2.2.2.2.2.2, sc n (Nat.le_refl n)]
  refine congrArg (fun m => some (nI m)) (cnt_eq fun c _ => isM_cb (klt c))
theorem madeM_at {h : Hp} {s : Sh} (hs : okS s) (H : mdS h s) : ∃ h', Jm_madeMany h = some (nI (cntT (isM s) 256), h') ∧ mdS h' s ∧ MF h' s ∧ RMM h h' := by
  obtain ⟨h', a1, a2, a3, a4⟩ := mdS_lay hs H
  obtain ⟨r, l1, l2⟩ := loop_cnt (fun t => Jm_madeMany_L8 h' t.1 t.2) (fun i t => t = (nI (cntT (isM s) i), nI i)) (fun r => r.1 = nI (cntT (isM s) 256)) 256 (fun i t hi ht => by
      subst ht
      have e := MR_cost a2 hi
      have lt : nI i < (256 : Int32) := (nI_ltI (b := 256) (by omega) (by omega)).mpr hi
      refine Or.inl ⟨(nI (cntT (isM s) (i + 1)), nI (i + 1)), ?_, rfl⟩
      show Jm_madeMany_L8 h' (nI (cntT (isM s) i)) (nI i) = _
      unfold Jm_madeMany_L8
      rw [if_pos lt, ib_nI hi (by omega), cond_true, nI_clamp (by omega), e, cntT_succ]
      cases q : FC s i with
      | none =>
        rw [isM_none q]
        show (if (-1 : Int32) < 0 then _ else _) = _
        rw [if_pos m1_lt0, lit 0, lit 1, nI_add, nI_add]
        rfl
      | some k =>
        have kl := FC_le q
        rw [isM_some q]
        show (if nI k < 0 then _ else _) = _
        rw [if_neg (nI_pos (by omega)), lit 1, nI_add, nI_add]
        rfl) (fun t ht => by
      subst ht
      exact ⟨(nI (cntT (isM s) 256), nI 256), by simp (disch := omega) only [Jm_madeMany_L8, bd_some, lt_of', sm_l, sm_r, lit, lN_n, hset_if, nI_ltP, nI_eqI, nI_add, nI_sub, nI_clamp, ib_nI, cond_true, if_pos, if_neg, and_self, and_true, true_and, false_and, and_false, ↓reduceIte, eq_self, nI_m1], rfl⟩) (F := 1000000) (by omega) (a := 0) (by omega) (s := (0, 0)) rfl
  refine ⟨h', ?_, a3, a2, a4⟩
  unfold Jm_madeMany
  rw [a1, bd_some]
  exact (bd_of l1).trans (by rw [l2])
