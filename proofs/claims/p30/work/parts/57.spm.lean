/-! Spelling: the loops. -/
theorem descC {h : Hp} {s : Sh} {ln : Nat → Nat} {u1 u2 : Int32} (hs : okS s) (L : lnOK s ln) (W : WF h s ln) (n : Nat) : ∀ (F c left d e : Nat), c < 256 → h 25 c ≠ nI 0 → n < F → d + n ≤ 255 → Dn s ln n c left e → e < 256 ∧ ∃ x y, loopN F (fun t => Jwy_letterOf_L8 u1 u2 h t.1 t.2.1 t.2.2) (nI c, nI left, nI d) = some (nI e, x, y) := by
  have stop : ∀ (F c d : Nat), d < 256 → loopN (F + 1) (fun t => Jwy_letterOf_L8 u1 u2 h t.1 t.2.1 t.2.2) (nI c, nI 0, nI d) = some (nI c, nI 0, nI d) := fun F c d hd => loopN_out (f := fun t : Int32 × Int32 × Int32 => Jwy_letterOf_L8 u1 u2 h t.1 t.2.1 t.2.2) (by
    show Jwy_letterOf_L8 u1 u2 h (nI c) (nI 0) (nI d) = _
    unfold Jwy_letterOf_L8
    rw [if_pos (show nI d < (256 : Int32) from (nI_ltI (b := 256) (by omega) (by omega)).mpr hd), if_neg (by decide)]) F
  induction n with
  | zero =>
    intro F c left d e hc nz hF hd D
    obtain ⟨rfl, rfl⟩ := D
    obtain ⟨F, rfl⟩ : ∃ G, F = G + 1 := ⟨F - 1, by omega⟩
    exact ⟨hc, _, _, stop F e d (by omega)⟩
  | succ n ih =>
    intro F c left d e hc nz hF hd D
    obtain ⟨F, rfl⟩ : ∃ G, F = G + 1 := ⟨F - 1, by omega⟩
    rcases D with ⟨rfl, rfl⟩ | ⟨c', left', st, D⟩
    · exact ⟨hc, _, _, stop F e d (by omega)⟩
    · obtain ⟨a1, a2, a3⟩ := stepC (u1 := u1) (u2 := u2) (d := d) hs L W hc (by omega) nz st
      obtain ⟨b1, x, y, b2⟩ := ih F c' left' (d + 1) e a2 a3 (by omega) (by omega) D
      have a1' : (fun t : Int32 × Int32 × Int32 => Jwy_letterOf_L8 u1 u2 h t.1 t.2.1 t.2.2) (nI c, nI left, nI d) = some (.inl (nI c', nI left', nI (d + 1))) := a1
      refine ⟨b1, x, y, ?_⟩
      rw [loopN_in a1' F]
      exact b2
theorem stepM {h : Hp} {s : Sh} {ln : Nat → Nat} (hs : okS s) (L : lnOK s ln) (M : MF h s) {c left c' left' : Nat} {u1 u2 : Int32} (hc : c < 256) (st : StepD s ln c left c' left') : Jm_spell_L49 u1 u2 h (nI c) (nI left) = some (.inl (nI c', nI left')) ∧ c' < 256 := by
  obtain ⟨k, g, x, y, z, i, e, hk, t, p, i1, i2, rfl, lt, rfl⟩ := st
  have kl := FC_le e
  obtain ⟨m1, -, m3⟩ := (M.1 c hc).1 k e
  obtain ⟨g', x', y', z', t', p', -, e48a, e48b, e48c, -⟩ := m3 hk
  have := isTop_uniq t t'
  subst this
  obtain ⟨rfl, rfl, rfl⟩ := isPts_uniq p p'
  have e48 : ∀ j, j < 3 → j < arN (s.2.1 g) → h 48 (3 * c + j) = nI (pt x y z j) := fun j hj ha => by
    rcases (show j = 0 ∨ j = 1 ∨ j = 2 by omega) with rfl | rfl | rfl
    · rw [Nat.add_zero, e48a]; unfold pv; rw [if_pos ha]; rfl
    · rw [e48b]; unfold pv; rw [if_pos ha]; rfl
    · rw [e48c]; unfold pv; rw [if_pos ha]; rfl
  obtain ⟨N1, N2⟩ := MF_ln M
  have len : ∀ j, j < 3 → j < arN (s.2.1 g) → h 49 (pt x y z j) = nI (lp ln (arN (s.2.1 g)) j (pt x y z j)) ∧ pt x y z j < 256 ∧ lp ln (arN (s.2.1 g)) j (pt x y z j) ≤ 30000 := fun j hj ha => by
    obtain ⟨u1, k', u2, u3⟩ := pt_low kl p.1 hj ha
    obtain ⟨v1, v2⟩ := N2 _ k' u1 u2
    have := ln_uniq hs N1 L k' _ u1 u2
    unfold lp
    rw [if_pos ha, ← this]
    exact ⟨v1, u1, by show (h 49 (pt x y z j)).toNatClampNeg ≤ 30000; omega⟩
  have body : ∀ j m, j < 3 → j < arN (s.2.1 g) → m < 2 ^ 31 → Jm_spell_L69 u1 u2 (nI c) h (nI m) (nI j) = if m < lp ln (arN (s.2.1 g)) j (pt x y z j) then some (.inr (nI m, nI j)) else some (.inl (nI (m - lp ln (arN (s.2.1 g)) j (pt x y z j)), nI (j + 1))) := fun j m hj ha hm => by
    obtain ⟨v1, v2, v3⟩ := len j hj ha
    unfold Jm_spell_L69
    rw [lit 3, nI_mul, nI_add, ib_nI (by omega) (by omega), cond_true, nI_clamp (by omega), e48 j hj ha, ib_nI v2 (by omega), cond_true, nI_clamp (by omega), v1]
    by_cases w : m < lp ln (arN (s.2.1 g)) j (pt x y z j)
    · rw [if_pos ((nI_ltI (by omega) (by omega)).mpr w), if_pos w]
    · rw [if_neg (fun q => w ((nI_ltI (by omega) (by omega)).mp q)), if_neg w, cond_true, cond_true, nI_sub (by omega), lit 1, nI_add]
  obtain ⟨pi1, k', pi2, pi3⟩ := pt_low kl p.1 i1 i2
  have lpi : lp ln (arN (s.2.1 g)) i (pt x y z i) = ln (pt x y z i) := by unfold lp; rw [if_pos i2]
  have lni := (ln_le hs L k' _ pi1 pi2).2
  have b0 : 0 < i → lp ln (arN (s.2.1 g)) 0 x ≤ 30000 := fun w => (len 0 (by decide) (by omega)).2.2
  have b1 : 1 < i → lp ln (arN (s.2.1 g)) 1 y ≤ 30000 := fun w => (len 1 (by decide) (by omega)).2.2
  have inner : loopN 1000000 (fun t => Jm_spell_L69 u1 u2 (nI c) h t.1 t.2) (nI (((if 0 < i then lp ln (arN (s.2.1 g)) 0 x else 0) + (if 1 < i then lp ln (arN (s.2.1 g)) 1 y else 0)) + left'), nI 0) = some (nI left', nI i) := by
    rcases (show i = 0 ∨ i = 1 ∨ i = 2 by omega) with rfl | rfl | rfl
    · rw [if_neg (by decide), if_neg (by decide), Nat.zero_add]
      refine loopN_out (f := fun t : Int32 × Int32 => Jm_spell_L69 u1 u2 (nI c) h t.1 t.2) ?_ 999999
      show Jm_spell_L69 u1 u2 (nI c) h (nI left') (nI 0) = _
      rw [body 0 left' (by decide) i2 (by omega), if_pos (by omega)]
    · have b0 := b0 (by decide)
      rw [if_pos (by decide), if_neg (by decide), Nat.add_zero]
      have s1 : (fun t : Int32 × Int32 => Jm_spell_L69 u1 u2 (nI c) h t.1 t.2) (nI (lp ln (arN (s.2.1 g)) 0 x + left'), nI 0) = some (.inl (nI left', nI 1)) := by
        show Jm_spell_L69 u1 u2 (nI c) h (nI (lp ln (arN (s.2.1 g)) 0 x + left')) (nI 0) = _
        rw [body 0 _ (by decide) (by omega) (by omega)]
        rw [show pt x y z 0 = x from rfl, if_neg (by omega), Nat.add_sub_cancel_left]
      rw [loopN_in s1 999999]
      refine loopN_out (f := fun t : Int32 × Int32 => Jm_spell_L69 u1 u2 (nI c) h t.1 t.2) ?_ 999998
      show Jm_spell_L69 u1 u2 (nI c) h (nI left') (nI 1) = _
      rw [body 1 left' (by decide) i2 (by omega), if_pos (by omega)]
    · have b0 := b0 (by decide)
      have b1 := b1 (by decide)
      rw [if_pos (by decide), if_pos (by decide)]
      have s1 : (fun t : Int32 × Int32 => Jm_spell_L69 u1 u2 (nI c) h t.1 t.2) (nI (lp ln (arN (s.2.1 g)) 0 x + lp ln (arN (s.2.1 g)) 1 y + left'), nI 0) = some (.inl (nI (lp ln (arN (s.2.1 g)) 1 y + left'), nI 1)) := by
        show Jm_spell_L69 u1 u2 (nI c) h (nI (lp ln (arN (s.2.1 g)) 0 x + lp ln (arN (s.2.1 g)) 1 y + left')) (nI 0) = _
        rw [body 0 _ (by decide) (by omega) (by omega)]
        rw [show pt x y z 0 = x from rfl, if_neg (by omega), Nat.add_assoc, Nat.add_sub_cancel_left]
      rw [loopN_in s1 999999]
      have s2 : (fun t : Int32 × Int32 => Jm_spell_L69 u1 u2 (nI c) h t.1 t.2) (nI (lp ln (arN (s.2.1 g)) 1 y + left'), nI 1) = some (.inl (nI left', nI 2)) := by
        show Jm_spell_L69 u1 u2 (nI c) h (nI (lp ln (arN (s.2.1 g)) 1 y + left')) (nI 1) = _
        rw [body 1 _ (by decide) (by omega) (by omega)]
        rw [show pt x y z 1 = y from rfl, if_neg (by omega), Nat.add_sub_cancel_left]
      rw [loopN_in s2 999998]
      refine loopN_out (f := fun t : Int32 × Int32 => Jm_spell_L69 u1 u2 (nI c) h t.1 t.2) ?_ 999997
      show Jm_spell_L69 u1 u2 (nI c) h (nI left') (nI 2) = _
      rw [body 2 left' (by decide) i2 (by omega), if_pos (by omega)]
  refine ⟨?_, pi1⟩
  have sz : ((if 0 < i then lp ln (arN (s.2.1 g)) 0 x else 0) + (if 1 < i then lp ln (arN (s.2.1 g)) 1 y else 0)) + left' < 2 ^ 30 := by
    by_cases v0 : 0 < i <;> by_cases v1 : 1 < i <;> simp only [v0, v1, if_true, if_false] <;> have b0 := b0 <;> have b1 := b1 <;> omega
  generalize hm : (if 0 < i then lp ln (arN (s.2.1 g)) 0 x else 0) + (if 1 < i then lp ln (arN (s.2.1 g)) 1 y else 0) + left' = m at inner sz
  have sz' : 1 + ((if 0 < i then lp ln (arN (s.2.1 g)) 0 x else 0) + (if 1 < i then lp ln (arN (s.2.1 g)) 1 y else 0)) + left' = m + 1 := by omega
  rw [sz']
  unfold Jm_spell_L49
  rw [ib_nI hc (by omega), cond_true, nI_clamp (by omega), m1, if_pos (show (0 : Int32) < nI k from (nI_ltI (a := 0) (by omega) (by omega)).mpr hk), if_pos (show (0 : Int32) < nI (m + 1) from (nI_ltI (a := 0) (by omega) (by omega)).mpr (by omega)), ← Int32.sub_eq_add_neg, lit 1, nI_sub (by omega), Nat.add_sub_cancel]
  refine (bd_of (show _ = some (nI left', nI i) from inner)).trans ?_
  rw [lit 3, nI_mul, nI_add, ib_nI (by omega) (by omega), cond_true, nI_clamp (by omega), e48 i i1 i2]
theorem descM {h : Hp} {s : Sh} {ln : Nat → Nat} {u1 u2 : Int32} (hs : okS s) (L : lnOK s ln) (M : MF h s) (n : Nat) : ∀ (F c left e : Nat), c < 256 → n < F → Dn s ln n c left e → ∃ x, loopN F (fun t => Jm_spell_L49 u1 u2 h t.1 t.2) (nI c, nI left) = some (nI e, x) := by
  have stop : ∀ (F c : Nat), c < 256 → loopN (F + 1) (fun t => Jm_spell_L49 u1 u2 h t.1 t.2) (nI c, nI 0) = some (nI c, nI 0) := fun F c hc => loopN_out (f := fun t : Int32 × Int32 => Jm_spell_L49 u1 u2 h t.1 t.2) (by
    show Jm_spell_L49 u1 u2 h (nI c) (nI 0) = _
    unfold Jm_spell_L49
    rw [ib_nI hc (by omega), cond_true, if_neg (show ¬ (0 : Int32) < nI 0 by decide)]
    by_cases q : (0 : Int32) < h 46 (nI c).toNatClampNeg
    · rw [if_pos q]
    · rw [if_neg q]) F
  induction n with
  | zero =>
    intro F c left e hc hF D
    obtain ⟨rfl, rfl⟩ := D
    obtain ⟨F, rfl⟩ : ∃ G, F = G + 1 := ⟨F - 1, by omega⟩
    exact ⟨_, stop F e hc⟩
  | succ n ih =>
    intro F c left e hc hF D
    obtain ⟨F, rfl⟩ : ∃ G, F = G + 1 := ⟨F - 1, by omega⟩
    rcases D with ⟨rfl, rfl⟩ | ⟨c', left', st, D⟩
    · exact ⟨_, stop F e hc⟩
    · obtain ⟨a1, a2⟩ := stepM (u1 := u1) (u2 := u2) hs L M hc st
      obtain ⟨x, b2⟩ := ih F c' left' e a2 (by omega) D
      have a1' : (fun t : Int32 × Int32 => Jm_spell_L49 u1 u2 h t.1 t.2) (nI c, nI left) = some (.inl (nI c', nI left')) := a1
      refine ⟨x, ?_⟩
      rw [loopN_in a1' F]
      exact b2
