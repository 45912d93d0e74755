/-! Spelling: both go down the same way. -/
def StepD (s : Sh) (ln : Nat → Nat) (c left c' left' : Nat) : Prop := ∃ k g x y z i, FC s c = some k ∧ 0 < k ∧ isTop s k c g ∧ isPts s k c g x y z ∧ i < 3 ∧ i < arN (s.2.1 g) ∧ c' = pt x y z i ∧ left' < ln c' ∧ left = 1 + ((if 0 < i then lp ln (arN (s.2.1 g)) 0 x else 0) + (if 1 < i then lp ln (arN (s.2.1 g)) 1 y else 0)) + left'
def Dn (s : Sh) (ln : Nat → Nat) : Nat → Nat → Nat → Nat → Prop
  | 0, c, left, e => left = 0 ∧ e = c
  | n + 1, c, left, e => (left = 0 ∧ e = c) ∨ ∃ c' left', StepD s ln c left c' left' ∧ Dn s ln n c' left' e
noncomputable def rkc (s : Sh) (k : Nat) : Nat := cntT (cb (FC s) k) 256
theorem rkc_lt {s : Sh} {e k k' : Nat} (he : e < 256) (h : FC s e = some k') (hk : k' < k) : rkc s k' < rkc s k := by
  unfold rkc
  have a := cb_succ (FC s) k' 256
  have b : cntT (ce (FC s) k') 256 ≠ 0 := cnt_pos.mpr ⟨e, he, ce_iff.mpr h⟩
  have m : ∀ d, cntT (cb (FC s) (k' + 1)) 256 ≤ cntT (cb (FC s) (k' + 1 + d)) 256 := fun d => by
    induction d with
    | zero => exact Nat.le_refl _
    | succ d ih =>
      have := cb_succ (FC s) (k' + 1 + d) 256
      rw [← Nat.add_assoc]
      omega
  have := m (k - (k' + 1))
  rw [show k' + 1 + (k - (k' + 1)) = k by omega] at this
  omega
theorem rkc_le {s : Sh} {e k : Nat} (he : e < 256) (h : FC s e = some k) : rkc s k ≤ 255 := by
  unfold rkc
  have a := cnt_two (FC s) k 256
  have b : cntT (ce (FC s) k) 256 ≠ 0 := cnt_pos.mpr ⟨e, he, ce_iff.mpr h⟩
  omega
theorem step_ex {s : Sh} {ln : Nat → Nat} (hs : okS s) (L : lnOK s ln) {c k left : Nat} (hc : c < 256) (e : FC s c = some k) (hl : left < ln c) (pos : 0 < left) : ∃ c' left' k', StepD s ln c left c' left' ∧ c' < 256 ∧ FC s c' = some k' ∧ k' < k := by
  obtain ⟨a1, a2⟩ := L c hc k e
  rcases Nat.eq_zero_or_pos k with z | z
  · rw [a1 z] at hl; omega
  · obtain ⟨g, x, y, w, t, p⟩ := pts_ex hs hc e z
    have sum := a2 g x y w z t p
    have kl := FC_le e
    have mk : ∀ i left', i < 3 → i < arN (s.2.1 g) → left' < ln (pt x y w i) → left = 1 + ((if 0 < i then lp ln (arN (s.2.1 g)) 0 x else 0) + (if 1 < i then lp ln (arN (s.2.1 g)) 1 y else 0)) + left' → ∃ c' left' k', StepD s ln c left c' left' ∧ c' < 256 ∧ FC s c' = some k' ∧ k' < k := fun i left' i1 i2 i3 i4 => by
      obtain ⟨u1, k', u2, u3⟩ := pt_low kl p.1 i1 i2
      exact ⟨pt x y w i, left', k', ⟨k, g, x, y, w, i, e, z, t, p, i1, i2, rfl, i3, i4⟩, u1, u2, u3⟩
    by_cases q0 : left - 1 < lp ln (arN (s.2.1 g)) 0 x
    · have q0' := q0
      unfold lp at q0'
      by_cases r : 0 < arN (s.2.1 g)
      · rw [if_pos r] at q0'
        exact mk 0 (left - 1) (by decide) r q0' (by simp; omega)
      · rw [if_neg r] at q0'; omega
    · by_cases q1 : left - 1 - lp ln (arN (s.2.1 g)) 0 x < lp ln (arN (s.2.1 g)) 1 y
      · have q1' := q1
        unfold lp at q1'
        by_cases r : 1 < arN (s.2.1 g)
        · rw [if_pos r] at q1'
          exact mk 1 (left - 1 - lp ln (arN (s.2.1 g)) 0 x) (by decide) r q1' (by simp; omega)
        · rw [if_neg r] at q1'; omega
      · have q2 : left - 1 - lp ln (arN (s.2.1 g)) 0 x - lp ln (arN (s.2.1 g)) 1 y < lp ln (arN (s.2.1 g)) 2 w := by omega
        have q2' := q2
        unfold lp at q2'
        by_cases r : 2 < arN (s.2.1 g)
        · rw [if_pos r] at q2'
          exact mk 2 (left - 1 - lp ln (arN (s.2.1 g)) 0 x - lp ln (arN (s.2.1 g)) 1 y) (by decide) r q2' (by simp; omega)
        · rw [if_neg r] at q2'; omega
theorem Dn_ex {s : Sh} {ln : Nat → Nat} (hs : okS s) (L : lnOK s ln) (n : Nat) : ∀ (c k left : Nat), c < 256 → FC s c = some k → left < ln c → rkc s k ≤ n → ∃ e, Dn s ln n c left e := by
  induction n with
  | zero =>
    intro c k left hc e hl hr
    rcases Nat.eq_zero_or_pos left with z | z
    · exact ⟨c, z, rfl⟩
    · obtain ⟨c', left', k', -, c1, c2, c3⟩ := step_ex hs L hc e hl z
      have := rkc_lt c1 c2 c3
      omega
  | succ n ih =>
    intro c k left hc e hl hr
    rcases Nat.eq_zero_or_pos left with z | z
    · exact ⟨c, Or.inl ⟨z, rfl⟩⟩
    · obtain ⟨c', left', k', st, c1, c2, c3⟩ := step_ex hs L hc e hl z
      have := rkc_lt c1 c2 c3
      have lt : left' < ln c' := by
        obtain ⟨_, _, _, _, _, _, _, _, _, _, _, _, _, h, _⟩ := st
        exact h
      obtain ⟨r, hr'⟩ := ih c' k' left' c1 c2 lt (by omega)
      exact ⟨r, Or.inr ⟨c', left', st, hr'⟩⟩
/-- one step of the class -/
theorem stepC {h : Hp} {s : Sh} {ln : Nat → Nat} (hs : okS s) (L : lnOK s ln) (W : WF h s ln) {c left c' left' : Nat} {u1 u2 : Int32} {d : Nat} (hc : c < 256) (hd : d < 256) (nz : h 25 c ≠ nI 0) (st : StepD s ln c left c' left') : Jwy_letterOf_L8 u1 u2 h (nI c) (nI left) (nI d) = some (.inl (nI c', nI left', nI (d + 1))) ∧ c' < 256 ∧ h 25 c' ≠ nI 0 := by
  obtain ⟨k, g, x, y, z, i, e, hk, t, p, i1, i2, rfl, lt, rfl⟩ := st
  have kl := FC_le e
  obtain ⟨w1, w2⟩ := W.2.2 c hc nz
  have kn : k = 0 ∨ h 23 c = nI 1 := by
    rcases w1 with w1 | w1
    · rw [e] at w1; cases w1; omega
    · exact Or.inr w1
  have part25 : ∀ j, j < 3 → j < arN (s.2.1 g) → h 25 (pt x y z j) = nI (ln (pt x y z j)) := fun j j1 j2 => by
    have nn := w2 _ ⟨k, g, x, y, z, e, hk, t, p, j, j1, j2, rfl⟩
    rcases W.2.1 _ (pt_low kl p.1 j1 j2).1 with v | ⟨-, -, v⟩
    · exact absurd v nn
    · exact v
  have one : ∀ j, j < 3 → Jwy_partLength (nI c) (nI j) h = some (nI (lp ln (arN (s.2.1 g)) j (pt x y z j))) := fun j hj => by
    have := partLen_at W hc hj e kn (fun _ => t) (fun _ => p) (fun _ v => part25 j hj v)
    rw [if_neg (by omega)] at this
    exact this
  have bound : ∀ j, j < 3 → lp ln (arN (s.2.1 g)) j (pt x y z j) ≤ 30000 := fun j hj => by
    unfold lp
    by_cases v : j < arN (s.2.1 g)
    · rw [if_pos v]
      obtain ⟨u1, k', u2, u3⟩ := pt_low kl p.1 hj v
      have := (ln_le hs L k' _ u1 u2).2
      omega
    · rw [if_neg v]; omega
  have b0 := bound 0 (by decide)
  have b1 := bound 1 (by decide)
  have b2 := bound 2 (by decide)
  obtain ⟨pi1, k', pi2, pi3⟩ := pt_low kl p.1 i1 i2
  have lni := (ln_le hs L k' _ pi1 pi2)
  have kp : Jwy_knownPart (nI c) (nI i) h = some (nI (pt x y z i)) := by
    rcases knownPt_at W hc i1 e kn with ⟨-, a2⟩ | ⟨g', x', y', z', a1, a2, a3, a4, a5, a6⟩
    · exact absurd i2 (a2 g x y z hk t p)
    · have := isTop_uniq t a3
      subst this
      obtain ⟨rfl, rfl, rfl⟩ := isPts_uniq p a4
      exact a1
  have lpi : lp ln (arN (s.2.1 g)) i (pt x y z i) = ln (pt x y z i) := by unfold lp; rw [if_pos i2]
  have pt0 : pt x y z 0 = x := rfl
  have pt1 : pt x y z 1 = y := rfl
  have p0 := one 0 (by decide)
  have p1 := one 1 (by decide)
  rw [pt0] at p0 b0
  rw [pt1] at p1 b1
  have inner : loopN 1000000 (fun t => Jwy_letterOf_L27 u1 u2 (nI c) (nI d) h t.1 t.2) (nI (((if 0 < i then lp ln (arN (s.2.1 g)) 0 x else 0) + (if 1 < i then lp ln (arN (s.2.1 g)) 1 y else 0)) + left'), nI 0) = some (nI left', nI i) := by
    rcases (show i = 0 ∨ i = 1 ∨ i = 2 by omega) with rfl | rfl | rfl
    · rw [if_neg (by decide), if_neg (by decide), Nat.zero_add]
      refine loopN_out (f := fun t : Int32 × Int32 => Jwy_letterOf_L27 u1 u2 (nI c) (nI d) h t.1 t.2) ?_ 999999
      show Jwy_letterOf_L27 u1 u2 (nI c) (nI d) h (nI left') (nI 0) = _
      unfold Jwy_letterOf_L27
      rw [if_pos (by decide), p0, bd_some, if_pos ((nI_ltI (by omega) (by omega)).mpr (by have q : lp ln (arN (s.2.1 g)) 0 (pt x y z 0) = lp ln (arN (s.2.1 g)) 0 x := rfl; omega))]
    · rw [if_pos (by decide), if_neg (by decide), Nat.add_zero]
      have s1 : (fun t : Int32 × Int32 => Jwy_letterOf_L27 u1 u2 (nI c) (nI d) h t.1 t.2) (nI (lp ln (arN (s.2.1 g)) 0 x + left'), nI 0) = some (.inl (nI left', nI 1)) := by
        show Jwy_letterOf_L27 u1 u2 (nI c) (nI d) h (nI (lp ln (arN (s.2.1 g)) 0 x + left')) (nI 0) = _
        unfold Jwy_letterOf_L27
        rw [if_pos (by decide), p0, bd_some, if_neg (fun w => absurd ((nI_ltI (by omega) (by omega)).mp w) (by omega)), bd_some, nI_sub (by omega), Nat.add_sub_cancel_left]
        rfl
      rw [loopN_in s1 999999]
      refine loopN_out (f := fun t : Int32 × Int32 => Jwy_letterOf_L27 u1 u2 (nI c) (nI d) h t.1 t.2) ?_ 999998
      show Jwy_letterOf_L27 u1 u2 (nI c) (nI d) h (nI left') (nI 1) = _
      unfold Jwy_letterOf_L27
      rw [if_pos (by decide), p1, bd_some, if_pos ((nI_ltI (by omega) (by omega)).mpr (by have q : lp ln (arN (s.2.1 g)) 1 (pt x y z 1) = lp ln (arN (s.2.1 g)) 1 y := rfl; omega))]
    · rw [if_pos (by decide), if_pos (by decide)]
      have s1 : (fun t : Int32 × Int32 => Jwy_letterOf_L27 u1 u2 (nI c) (nI d) h t.1 t.2) (nI (lp ln (arN (s.2.1 g)) 0 x + lp ln (arN (s.2.1 g)) 1 y + left'), nI 0) = some (.inl (nI (lp ln (arN (s.2.1 g)) 1 y + left'), nI 1)) := by
        show Jwy_letterOf_L27 u1 u2 (nI c) (nI d) h (nI (lp ln (arN (s.2.1 g)) 0 x + lp ln (arN (s.2.1 g)) 1 y + left')) (nI 0) = _
        unfold Jwy_letterOf_L27
        rw [if_pos (by decide), p0, bd_some, if_neg (fun w => absurd ((nI_ltI (by omega) (by omega)).mp w) (by omega)), bd_some, nI_sub (by omega), Nat.add_assoc, Nat.add_sub_cancel_left]
        rfl
      rw [loopN_in s1 999999]
      have s2 : (fun t : Int32 × Int32 => Jwy_letterOf_L27 u1 u2 (nI c) (nI d) h t.1 t.2) (nI (lp ln (arN (s.2.1 g)) 1 y + left'), nI 1) = some (.inl (nI left', nI 2)) := by
        show Jwy_letterOf_L27 u1 u2 (nI c) (nI d) h (nI (lp ln (arN (s.2.1 g)) 1 y + left')) (nI 1) = _
        unfold Jwy_letterOf_L27
        rw [if_pos (by decide), p1, bd_some, if_neg (fun w => absurd ((nI_ltI (by omega) (by omega)).mp w) (by omega)), bd_some, nI_sub (by omega), Nat.add_sub_cancel_left]
        rfl
      rw [loopN_in s2 999998]
      refine loopN_out (f := fun t : Int32 × Int32 => Jwy_letterOf_L27 u1 u2 (nI c) (nI d) h t.1 t.2) ?_ 999997
      show Jwy_letterOf_L27 u1 u2 (nI c) (nI d) h (nI left') (nI 2) = _
      unfold Jwy_letterOf_L27
      rw [if_neg (by decide)]
  refine ⟨?_, pi1, w2 _ ⟨k, g, x, y, z, e, hk, t, p, i, i1, i2, rfl⟩⟩
  unfold Jwy_letterOf_L8
  have sz : 1 + ((if 0 < i then lp ln (arN (s.2.1 g)) 0 x else 0) + (if 1 < i then lp ln (arN (s.2.1 g)) 1 y else 0)) + left' < 2 ^ 31 := by
    by_cases v0 : 0 < i <;> by_cases v1 : 1 < i <;> simp only [v0, v1, if_true, if_false] <;> omega
  generalize hm : (if 0 < i then lp ln (arN (s.2.1 g)) 0 x else 0) + (if 1 < i then lp ln (arN (s.2.1 g)) 1 y else 0) + left' = m at inner
  have sz' : 1 + ((if 0 < i then lp ln (arN (s.2.1 g)) 0 x else 0) + (if 1 < i then lp ln (arN (s.2.1 g)) 1 y else 0)) + left' = m + 1 := by omega
  rw [sz'] at sz ⊢
  rw [if_pos (show nI d < (256 : Int32) from (nI_ltI (b := 256) (by omega) (by omega)).mpr hd), if_pos (show (0 : Int32) < nI (m + 1) from (nI_ltI (a := 0) (by omega) (by omega)).mpr (by omega)), ← Int32.sub_eq_add_neg, lit 1, nI_sub (by omega), Nat.add_sub_cancel]
  refine (bd_of (show _ = some (nI left', nI i) from inner)).trans ?_
  rw [kp, bd_some, nI_add]
