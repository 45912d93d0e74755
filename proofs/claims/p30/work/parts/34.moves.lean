/-! Deeds and images: the ring of the class, the rows of the model. -/
def undC (h : Hp) (u : Nat) (U : Nat → Sh) : Prop := h 31 3 = nI u ∧ u ≤ 16 ∧ ∃ nx, nx < 16 ∧ h 31 4 = nI nx ∧ ∀ j, j < u → slotC h ((nx + 15 - j) % 16) (U j)
def undM (h : Hp) (u : Nat) (U : Nat → Sh) : Prop := h 37 1 = nI u ∧ u ≤ 16 ∧ ∀ j, j < u → rowM h (8 * (j + 1)) (U j)
def okU (u : Nat) (U : Nat → Sh) : Prop := ∀ j, j < u → okS (U j)
def imC (h : Hp) (K : Nat → Bool) (I : Nat → Sh) (E : Nat → Nat) : Prop := ∀ i, i < 2 → h 36 i = nI (if K i then 1 else 0) ∧ (K i = true → slotC h (16 + i) (I i) ∧ h 35 i = nI (E i))
def imM (h : Hp) (K : Nat → Bool) (I : Nat → Sh) (E : Nat → Nat) : Prop := h 37 2 = nI ((if K 0 then 1 else 0) + (if K 1 then 2 else 0)) ∧ ∀ i, i < 2 → K i = true → rowM h (136 + 8 * i) (I i) ∧ h 39 i = nI (E i)
def okE (K : Nat → Bool) (I : Nat → Sh) (E : Nat → Nat) : Prop := ∀ i, i < 2 → K i = true → okS (I i) ∧ E i < 2 ^ 31
def pushU (s : Sh) (U : Nat → Sh) : Nat → Sh := fun j => match j with
  | 0 => s
  | j + 1 => U j
def pushN (u : Nat) : Nat := if u < 16 then u + 1 else 16
theorem okU_push {u : Nat} {U : Nat → Sh} {s : Sh} (hs : okS s) (hU : okU u U) : okU (pushN u) (pushU s U) := by
  intro j hj
  cases j with
  | zero => exact hs
  | succ j => exact hU j (by unfold pushN at hj; split at hj <;> omega)
/-- Past.push -/
theorem push_at {h : Hp} {s : Sh} {u : Nat} {U : Nat → Sh} {K : Nat → Bool} {I : Nat → Sh} {E : Nat → Nat} (hS : shC h s) (hn : s.1 ≤ 6) (hU : undC h u U) (oU : okU u U) (hI : imC h K I E) (oI : okE K I E) : ∃ h', Jpa_push h = some h' ∧ undC h' (pushN u) (pushU s U) ∧ imC h' K I E := by
  obtain ⟨u1, u2, nx, n1, n2, n3⟩ := hU
  obtain ⟨h1, e1, e2, e3⟩ := save_at hS hn (k := nx) (by omega)
  have w := FJpa_save _ _ _ e1
  have g31 : h1 31 = h 31 := w 31 (by decide)
  have em : nI (nx + 1) - nI (nx + 1) / nI 16 * nI 16 = nI ((nx + 1) % 16) := pk_rem (by omega) (by decide) (by decide)
  have em2 : (if nI 16 < nI (u + 1) then nI 16 else nI (u + 1)) = nI (pushN u) := by
    unfold pushN
    by_cases q : u < 16
    · rw [if_pos q]; exact if_neg (nI_nlt (by omega) (by decide))
    · rw [if_neg q]; exact if_pos (nI_lt (by omega) (by omega))
  let h2 := hset h1 31 4 (nI ((nx + 1) % 16))
  refine ⟨hset h2 31 3 (nI (pushN u)), ?_, ⟨by simp [hset_if], by unfold pushN; split <;> omega, (nx + 1) % 16, by omega, by simp [h2, hset_if], fun j hj => ?_⟩, fun i hi => ?_⟩
  · unfold Jpa_push
    rw [n2]
    refine (bd_of e1).trans ?_
    have e9 : hset h1 31 4 (nI ((nx + 1) % 16)) 31 3 = nI u := by simp [hset_if, g31, u1]
    simp only [lt_of', lit, g31, n2, nI_add, em, e9, em2]
    first | done | rfl
  · have hfr : ∀ k s', slotC h1 k s' → slotC (hset h2 31 3 (nI (pushN u))) k s' := fun k s' q => slotC_fr (h := h1) (by simp [h2, hset_ne]) (by simp [h2, hset_ne]) (by simp [h2, hset_ne]) q
    apply hfr
    cases j with
    | zero =>
      rw [show ((nx + 1) % 16 + 15 - 0) % 16 = nx by omega]
      exact e2
    | succ j =>
      have hj2 : j < u := by unfold pushN at hj; split at hj <;> omega
      have hj3 : j < 15 := by unfold pushN at hj; split at hj <;> omega
      rw [show ((nx + 1) % 16 + 15 - (j + 1)) % 16 = (nx + 15 - j) % 16 by omega]
      exact e3 _ _ (by omega) (oU j hj2).1 (n3 j hj2)
  · obtain ⟨i1, i2⟩ := hI i hi
    have g35 : h1 35 = h 35 := w 35 (by decide)
    have g36 : h1 36 = h 36 := w 36 (by decide)
    refine ⟨by simp [h2, hset_ne, g36, i1], fun q => ?_⟩
    obtain ⟨i3, i4⟩ := i2 q
    refine ⟨slotC_fr (h := h1) (by simp [h2, hset_ne]) (by simp [h2, hset_ne]) (by simp [h2, hset_ne]) (e3 _ _ (by omega) (oI i hi q).1.1 i3), by simp [h2, hset_ne, g35, i4]⟩
/-- Past.load -/
theorem load_at {h : Hp} {s : Sh} {k : Nat} (hk : k < 18) (hs : s.1 ≤ 6) (hS : slotC h k s) : ∃ h', Jpa_load (nI k) h = some h' ∧ shC h' s := by
  obtain ⟨s1, s2, s3⟩ := hS
  let h1 := hset (hset h 29 1 0) 29 2 (nI s.2.2)
  obtain ⟨r, e1, e2⟩ := loop_cnt (fun x => Jpa_load_L23 (nI k) x.1 x.2) (fun i x => x.1 = nI i ∧ shC x.2 (i, s.2.1, s.2.2) ∧ x.2 32 = h 32 ∧ x.2 34 = h 34) (fun r => shC r.2 s) s.1 (fun i x hi hx => by
    obtain ⟨a, x⟩ := x
    obtain ⟨rfl, g1, g2, g3⟩ := hx
    simp only at g1 g2 g3
    have hc := add_at g1 (by show i < 6; omega) (s.2.1 i)
    simp only at hc
    have hv := s3 i hi
    refine Or.inl ⟨(nI (i + 1), hset (hset x 30 i (nI (s.2.1 i))) 29 1 (nI (i + 1))), ?_, rfl, ?_, ?_, ?_⟩
    · rw [Nat.mul_comm] at hv
      simp (disch := omega) only [Jpa_load_L23, g2, g3, s1, hv, hc, nI_mul, bd_some, lt_of', sm_l, sm_r, lit, lN_n, hset_if, nI_ltP, nI_eqI, nI_add, nI_sub, nI_clamp, ib_nI, cond_true, if_pos, if_neg, and_self, and_true, true_and, false_and, and_false, ↓reduceIte]
    · have := add_sh g1 (s.2.1 i)
      obtain ⟨t1, t2, t3⟩ := this
      refine ⟨t1, t2, fun j hj => ?_⟩
      refine (t3 j hj).trans ?_
      simp only [addS]
      by_cases q : j = i
      · rw [if_pos q, q]
      · rw [if_neg q]
    · show hset (hset x 30 i (nI (s.2.1 i))) 29 1 (nI (i + 1)) 32 = _
      rw [hset_ne (by decide), hset_ne (by decide), g2]
    · show hset (hset x 30 i (nI (s.2.1 i))) 29 1 (nI (i + 1)) 34 = _
      rw [hset_ne (by decide), hset_ne (by decide), g3]) (fun x hx => by
    obtain ⟨a, x⟩ := x
    obtain ⟨rfl, g1, g2, g3⟩ := hx
    simp only at g1 g2 g3
    exact ⟨(nI s.1, x), by simp (disch := omega) only [Jpa_load_L23, g2, s1, bd_some, lt_of', sm_l, sm_r, lit, lN_n, hset_if, nI_ltP, nI_eqI, nI_add, nI_sub, nI_clamp, ib_nI, cond_true, if_pos, if_neg, and_self, and_true, true_and, false_and, and_false, ↓reduceIte], g1⟩) (F := 1000000) (by omega) (a := 0) (by omega) (s := (0, h1)) ⟨rfl, ⟨by simp [h1, hset_if]; rfl, by simp [h1, hset_if], fun i hi => absurd hi (Nat.not_lt_zero i)⟩, by simp [h1, hset_ne], by simp [h1, hset_ne]⟩
  refine ⟨r.2, ?_, e2⟩
  simp (disch := omega) only [Jpa_load, Jsh_restart, s2, bd_some, lt_of', sm_l, sm_r, lit, lN_n, hset_if, nI_ltP, nI_eqI, nI_add, nI_sub, nI_clamp, ib_nI, cond_true, if_pos, if_neg, and_self, and_true, true_and, false_and, and_false, ↓reduceIte]
  exact (bd_of e1).trans rfl
/-- the model's copies of rows -/
theorem copy_at {h : Hp} {a b : Nat} (ha : a + 8 ≤ 152) (hb : b + 8 ≤ 152) (hab : a + 8 ≤ b ∨ b + 8 ≤ a) : ∃ h', Jm_copyRow (nI a) (nI b) h = some h' ∧ (∀ i, i < 8 → h' 38 (b + i) = h 38 (a + i)) ∧ ∀ j, (j < b ∨ b + 8 ≤ j) → h' 38 j = h 38 j := by
  obtain ⟨r, e1, e2⟩ := loop_cnt (fun x => Jm_copyRow_L2 (nI a) (nI b) x.1 x.2) (fun i x => x.1 = nI i ∧ (∀ j, j < i → x.2 38 (b + j) = h 38 (a + j)) ∧ ∀ j, (j < b ∨ b + i ≤ j) → x.2 38 j = h 38 j) (fun r => (∀ j, j < 8 → r.2 38 (b + j) = h 38 (a + j)) ∧ ∀ j, (j < b ∨ b + 8 ≤ j) → r.2 38 j = h 38 j) 8 (fun i x hi hx => by
    obtain ⟨c, x⟩ := x
    obtain ⟨rfl, g1, g2⟩ := hx
    simp only at g1 g2
    refine Or.inl ⟨(nI (i + 1), hset x 38 (b + i) (x 38 (a + i))), ?_, rfl, fun j hj => ?_, fun j hj => ?_⟩
    · simp (disch := omega) only [Jm_copyRow_L2, bd_some, lt_of', sm_l, sm_r, lit, lN_n, hset_if, nI_ltP, nI_eqI, nI_add, nI_sub, nI_clamp, ib_nI, cond_true, if_pos, if_neg, and_self, and_true, true_and, false_and, and_false, ↓reduceIte]
    · simp only [hset_if]
      by_cases q : j = i
      · subst q; rw [if_pos ⟨trivial, rfl⟩]; exact g2 _ (by omega)
      · rw [if_neg (by omega)]; exact g1 j (by omega)
    · simp only [hset_if]
      rw [if_neg (by omega)]; exact g2 j (by omega)) (fun x hx => by
    obtain ⟨c, x⟩ := x
    obtain ⟨rfl, g1, g2⟩ := hx
    exact ⟨(nI 8, x), by simp (disch := omega) only [Jm_copyRow_L2, bd_some, lt_of', sm_l, sm_r, lit, lN_n, hset_if, nI_ltP, nI_eqI, nI_add, nI_sub, nI_clamp, ib_nI, cond_true, if_pos, if_neg, and_self, and_true, true_and, false_and, and_false, ↓reduceIte], g1, g2⟩) (F := 1000000) (by omega) (a := 0) (by omega) (s := (0, h)) ⟨rfl, fun j hj => absurd hj (Nat.not_lt_zero j), fun j _ => rfl⟩
  refine ⟨r.2, ?_, e2⟩
  unfold Jm_copyRow
  exact (bd_of e1).trans rfl
theorem rowM_of {h h' : Hp} {a b : Nat} {s : Sh} (hs : s.1 ≤ 6) (e : ∀ i, i < 8 → h' 38 (b + i) = h 38 (a + i)) (hr : rowM h a s) : rowM h' b s := by
  obtain ⟨h1, h2, h3⟩ := hr
  refine ⟨by have := e 0 (by decide); rw [Nat.add_zero, Nat.add_zero] at this; rw [this]; exact h1, by rw [e 7 (by decide)]; exact h2, fun i hi => ?_⟩
  rw [Nat.add_assoc, e (1 + i) (by omega), ← Nat.add_assoc]
  exact h3 i hi
theorem rowM_eq {h h' : Hp} {b : Nat} {s : Sh} (hs : s.1 ≤ 6) (e : ∀ i, i < 8 → h' 38 (b + i) = h 38 (b + i)) (hr : rowM h b s) : rowM h' b s := rowM_of hs e hr
/-- remember -/
theorem remember_at {h : Hp} {s : Sh} {u : Nat} {U : Nat → Sh} {K : Nat → Bool} {I : Nat → Sh} {E : Nat → Nat} (hS : rowM h 0 s) (hn : s.1 ≤ 6) (hU : undM h u U) (oU : okU u U) (hI : imM h K I E) (oI : okE K I E) : ∃ h', Jm_remember h = some h' ∧ rowM h' 0 s ∧ undM h' (pushN u) (pushU s U) ∧ imM h' K I E ∧ h' 37 23 = 0 ∧ ∀ j, j ≠ 1 → j ≠ 23 → h' 37 j = h 37 j := by
  obtain ⟨r, e1, e2⟩ := loop_cnt (fun x => Jm_remember_L3 x.1 x.2) (fun i x => x.1 = nI (16 - i) ∧ (∀ k, 16 - i < k → k ≤ 16 → ∀ t, t < 8 → x.2 38 (8 * k + t) = h 38 (8 * (k - 1) + t)) ∧ (∀ j, (j < 8 * (17 - i) ∨ 136 ≤ j) → x.2 38 j = h 38 j) ∧ ∀ p, p ≠ 38 → x.2 p = h p) (fun r => (∀ k, 0 < k → k ≤ 16 → ∀ t, t < 8 → r.2 38 (8 * k + t) = h 38 (8 * (k - 1) + t)) ∧ (∀ j, (j < 8 ∨ 136 ≤ j) → r.2 38 j = h 38 j) ∧ ∀ p, p ≠ 38 → r.2 p = h p) 16 (fun i x hi hx => by
    obtain ⟨c, x⟩ := x
    obtain ⟨rfl, g1, g2, g3⟩ := hx
    simp only at g1 g2 g3
    obtain ⟨h', c1, c2, c3⟩ := copy_at (h := x) (a := 8 * (16 - i - 1)) (b := 8 * (16 - i)) (by omega) (by omega) (by omega)
    have w := FJm_copyRow _ _ _ _ c1
    refine Or.inl ⟨(nI (16 - (i + 1)), h'), ?_, rfl, fun k hk1 hk2 t ht => ?_, fun j hj => ?_, fun p hp => ?_⟩
    · have m1 : nI (16 - i) + (-1) = nI (16 - (i + 1)) := by
        rw [sb_m1 (by omega)]; congr 1
      show Jm_remember_L3 (nI (16 - i)) x = _
      unfold Jm_remember_L3
      refine (if_pos (nI_lt (a := 0) (by omega) (by omega))).trans ?_
      have e1 : (8 : Int32) * (nI (16 - i) - 1) = nI (8 * (16 - i - 1)) := by
        rw [show (nI (16 - i) - 1 : Int32) = nI (16 - i - 1) from nI_sub (b := 1) (by omega)]
        exact nI_mul 8 _
      have e2 : (8 : Int32) * nI (16 - i) = nI (8 * (16 - i)) := nI_mul 8 _
      rw [e1, e2]
      refine (bd_of c1).trans ?_
      rw [m1]
    · show h' 38 (8 * k + t) = _
      by_cases q : k = 16 - i
      · subst q
        rw [c2 t ht]
        exact g2 _ (by omega)
      · rw [c3 _ (by omega)]
        exact g1 k (by omega) hk2 t ht
    · show h' 38 j = _
      rw [c3 _ (by omega)]; exact g2 j (by omega)
    · have hq : p ∉ SJm_copyRow := by
        intro z
        rw [show SJm_copyRow = [38] from rfl] at z
        exact hp (List.mem_singleton.mp z)
      exact (w p hq).trans (g3 p hp)) (fun x hx => by
    obtain ⟨c, x⟩ := x
    obtain ⟨rfl, g1, g2, g3⟩ := hx
    exact ⟨(nI 0, x), by simp (disch := omega) only [Jm_remember_L3, bd_some, lt_of', sm_l, sm_r, lit, lN_n, hset_if, nI_ltP, nI_eqI, nI_add, nI_sub, nI_clamp, ib_nI, cond_true, if_pos, if_neg, and_self, and_true, true_and, false_and, and_false, ↓reduceIte], fun k h1 h2 => g1 k (by omega) h2, fun j hj => g2 j (by omega), g3⟩) (F := 1000000) (by omega) (a := 0) (by omega) (s := (16, h)) ⟨rfl, fun k h1 h2 => by omega, fun j _ => rfl, fun _ _ => rfl⟩
  obtain ⟨g1, g2, g3⟩ := e2
  obtain ⟨c, r⟩ := r
  simp only at g1 g2 g3
  obtain ⟨u1, u2, u3⟩ := hU
  refine ⟨hset (hset r 37 1 (nI (pushN u))) 37 23 0, ?_, ?_, ⟨by simp [hset_if], by unfold pushN; split <;> omega, fun j hj => ?_⟩, ⟨by simp [hset_if, g3 37 (by decide), hI.1], fun i hi q => ?_⟩, by simp [hset_if], fun j h1 h2 => by simp [hset_if, g3 37 (by decide), h1, h2]⟩
  · unfold Jm_remember
    refine (bd_of e1).trans ?_
    simp only
    rw [g3 37 (by decide), u1]
    by_cases q : u < 16
    · simp (disch := omega) only [pushN, bd_some, lt_of', sm_l, sm_r, lit, lN_n, hset_if, nI_ltP, nI_eqI, nI_add, nI_sub, nI_clamp, ib_nI, cond_true, if_pos, if_neg, and_self, and_true, true_and, false_and, and_false, ↓reduceIte]
    · simp (disch := omega) only [pushN, bd_some, lt_of', sm_l, sm_r, lit, lN_n, hset_if, nI_ltP, nI_eqI, nI_add, nI_sub, nI_clamp, ib_nI, cond_true, if_pos, if_neg, and_self, and_true, true_and, false_and, and_false, ↓reduceIte]
  · exact rowM_fr (h := r) (by rw [hset_ne (by decide), hset_ne (by decide)]) (rowM_eq hn (fun i hi => g2 _ (by omega)) hS)
  · refine rowM_fr (h := r) (by rw [hset_ne (by decide), hset_ne (by decide)]) ?_
    cases j with
    | zero => exact rowM_of (a := 0) hn (fun i hi => by rw [show 8 * (0 + 1) + i = 8 * 1 + i by omega, g1 1 (by omega) (by omega) i hi]) hS
    | succ j =>
      have hj2 : j < u := by unfold pushN at hj; split at hj <;> omega
      have hj3 : j < 15 := by unfold pushN at hj; split at hj <;> omega
      exact rowM_of (a := 8 * (j + 1)) (oU j hj2).1 (fun i hi => by rw [g1 (j + 1 + 1) (by omega) (by omega) i hi]; congr 1) (u3 j hj2)
  · obtain ⟨i1, i2⟩ := hI.2 i hi q
    refine ⟨rowM_fr (h := r) (by rw [hset_ne (by decide), hset_ne (by decide)]) (rowM_eq (oI i hi q).1.1 (fun t ht => g2 _ (by omega)) i1), by rw [hset_ne (by decide), hset_ne (by decide), g3 39 (by decide)]; exact i2⟩
