/-! Calls: spell. -/
theorem spell_both {h : Hp} {s : Sh} (v1 v2 : Int32) (hS : shC h s) (hs : okS s) (hP : CP h) (H : CW h) (M : mdS h s) : ∃ r h1 h2, Jyn_spell v1 v2 h = some (r, h1) ∧ Jm_spell v1 v2 h1 = some (r, h2) ∧ CW h1 ∧ RCX h h1 ∧ mdS h2 s ∧ RMM h1 h2 := by
  have refl : RCX h h := fun _ _ _ => rfl
  have refl2 : RMM h h := fun _ _ _ _ => rfl
  rcases code_or v1 with ⟨c, hc, rfl, i1, i2⟩ | ⟨i1, i2⟩
  · by_cases n2 : v2 < 0
    · refine ⟨-1000000002, h, h, ?_, ?_, H, refl, M, refl2⟩
      · unfold Jyn_spell
        rw [i1, bd_some, if_neg (by decide), if_pos n2]
      · unfold Jm_spell
        rw [i2, bd_some, if_neg (by decide), if_pos n2]
    · obtain ⟨k2, hk2, rfl⟩ := nI_of n2
      obtain ⟨h1, ln, a1, a2, a3, a4, a5, a6⟩ := reckX hS hs hP H
      have cls : Jyn_spell (nI c) (nI k2) h = bd (Jwy_lengthOf (nI c) h1) fun c3 => if nI k2 < c3.1 then bd (Jwy_letterOf (nI c) (nI k2) c3.2) fun c4 => some (c4, c3.2) else some ((-1), c3.2) := by
        unfold Jyn_spell
        rw [i1, bd_some, if_neg (by decide), if_neg n2, a1, bd_some]
      cases e : FC s c with
      | none =>
        obtain ⟨h2, b1, b2, b3, b4⟩ := mdS_lay hs (mdS_RCX a6 M)
        refine ⟨-1, h1, h2, ?_, ?_, a5, a6, b3, b4⟩
        · rw [cls, len_no a2 hc e, bd_some, if_neg (fun w => by
            have := Int32.lt_trans w m1_lt0
            exact n2 this)]
        · unfold Jm_spell
          rw [i2, bd_some, if_neg (by decide), if_neg n2, b1, bd_some, ib_nI hc (by omega), cond_true, nI_clamp (by omega), (b2.1 c hc).2 e, if_pos m1_lt0]
      | some k =>
        obtain ⟨h1', c1, c2, c3, c4⟩ := lengthOf_at hs a2 a3 a4 hc e
        have r1 : RCX h h1' := RCX_tr a6 (fun p j w => c3 p j (by omega))
        obtain ⟨h2, b1, b2, b3, b4⟩ := mdS_lay hs (mdS_RCX r1 M)
        have CF1 : CF h1' s := CF_FW (fun p j hp => c3 p j (by omega)) a2
        have CW1 : CW h1' := Or.inr ⟨s, ln, hs, CF1, a3, c2⟩
        obtain ⟨l1, l2⟩ := ln_le hs a3 k c hc e
        have kl := FC_le e
        have e46 := ((b2.1 c hc).1 k e).1
        have e49 := MF_len' hs b2 a3 hc e
        have mod : Jm_spell (nI c) (nI k2) h1' = if nI k2 < nI (ln c) then bd (loopN 1000000 (fun s => Jm_spell_L49 (nI c) (nI k2) h2 s.1 s.2) (nI c, nI k2)) fun (t4 : Int32 × Int32) => bif ibB t4.1 256 then if 0 < (h2 46 (Int32.toNatClampNeg t4.1)) then bif ibB t4.1 256 then some ((65 : Int32) + (h2 47 (Int32.toNatClampNeg t4.1)), h2) else none else bd (Jm_letterOf t4.1) fun c5 => some (c5, h2) else none else some ((-1), h2) := by
          unfold Jm_spell
          rw [i2, bd_some, if_neg (by decide), if_neg n2, b1, bd_some, ib_nI hc (by omega), cond_true, nI_clamp (by omega), e46, if_neg (nI_pos (by omega)), cond_true, e49]
        rw [c1, bd_some] at cls
        by_cases lt : k2 < ln c
        · have lt' : nI k2 < nI (ln c) := (nI_ltI (by omega) (by omega)).mpr lt
          have nz : h1' 25 c ≠ nI 0 := by
            rw [c4]
            exact fun w => by
              have := (nI_eq (a := ln c) (b := 0) (by omega) (by omega)).mp w
              omega
          obtain ⟨en, D⟩ := Dn_ex hs a3 255 c k k2 hc e lt (rkc_le hc e)
          obtain ⟨f1, x, y, f2⟩ := descC (u1 := nI c) (u2 := nI k2) hs a3 c2 255 1000000 c k2 0 en hc nz (by omega) (by omega) D
          obtain ⟨x', f3⟩ := descM (u1 := nI c) (u2 := nI k2) hs a3 b2 255 1000000 c k2 en hc (by omega) D
          obtain ⟨ke, ek⟩ : ∃ ke, FC s en = some ke := by
            have nzE : ∀ (n c left : Nat), (∃ k, FC s c = some k) → Dn s ln n c left en → ∃ ke, FC s en = some ke := by
              intro n
              induction n with
              | zero =>
                intro c left w D
                obtain ⟨-, rfl⟩ := D
                exact w
              | succ n ih =>
                intro c left w D
                rcases D with ⟨-, rfl⟩ | ⟨c', left', st, D⟩
                · exact w
                · obtain ⟨k', g, x, y, z, i, u1, -, -, u4, u5, u6, rfl, -⟩ := st
                  obtain ⟨-, k'', u7, -⟩ := pt_low (FC_le u1) u4.1 u5 u6
                  exact ih _ left' ⟨k'', u7⟩ D
            exact nzE 255 c k2 ⟨k, e⟩ D
          obtain ⟨r, g1, g2⟩ := letters hs CF1 b2 f1 ek
          refine ⟨r, h1', h2, ?_, ?_, CW1, r1, b3, b4⟩
          · rw [cls, if_pos lt']
            unfold Jwy_letterOf
            rw [show loopN 1000000 (fun s => Jwy_letterOf_L8 (nI c) (nI k2) h1' s.1 s.2.1 s.2.2) (nI c, nI k2, 0) = some (nI en, x, y) from f2, bd_some, g1, bd_some, bd_some]
          · rw [mod, if_pos lt']
            refine (bd_of f3).trans ?_
            rw [ib_nI f1 (by omega), cond_true, nI_clamp (by omega)]
            by_cases w : (0 : Int32) < h2 46 en
            · rw [if_pos w] at g2 ⊢
              rw [cond_true]
              cases g2
              rfl
            · rw [if_neg w] at g2 ⊢
              rw [g2, bd_some]
        · have lt' : ¬ nI k2 < nI (ln c) := fun w => lt ((nI_ltI (by omega) (by omega)).mp w)
          refine ⟨-1, h1', h2, ?_, ?_, CW1, r1, b3, b4⟩
          · rw [cls, if_neg lt']
          · rw [mod, if_neg lt']
  · refine ⟨-1000000002, h, h, ?_, ?_, H, refl, M, refl2⟩
    · unfold Jyn_spell
      rw [i1, bd_some, if_pos rfl]
    · unfold Jm_spell
      rw [i2, bd_some, if_pos rfl]
