/-! The law: functions told by formulas of choices. -/
def txl (b : Nat) (j : Nat) : Nat := if j = 0 then 63 else if j = 1 then 98 else if j = 2 then 63 else if j = 3 then 99 else if j = 4 then 48 + tl b 3 else if j = 5 then 48 + tl b 2 else if j = 6 then 63 else if j = 7 then 99 else if j = 8 then 48 + tl b 1 else 48 + tl b 0
/-- the letters that tell a function of this code -/
def tx (c j : Nat) : Nat := if j = 0 then 63 else if j = 1 then 97 else if j < 12 then txl (c / 16) (j - 2) else txl (c &&& 15) (j - 12)
theorem txl_lt (b j : Nat) : txl b j < 256 := by
  have := tl_le b 0
  have := tl_le b 1
  have := tl_le b 2
  have := tl_le b 3
  unfold txl
  repeat' split
  all_goals omega
theorem tx_lt (c j : Nat) : tx c j < 256 := by
  unfold tx
  split
  · omega
  split
  · omega
  split
  · exact txl_lt _ _
  · exact txl_lt _ _
def s00 : Sh := (0, fun _ => 0, 0)
def txC1 (c : Nat) : Bool := Nat.beq (opN (tx c) 22) 0 && (List.range 22).all (fun j => !(Nat.beq (opN (tx c) j) 0) && Nat.ble (wN (tx c j)) 3 && !(isF (tx c j)))
theorem tx_ok1 : ((List.range 256).all txC1) = true := by decide +kernel
def txC2 (c : Nat) : Bool := Nat.beq (stT s00 (tx c) 22 22 0) c
theorem tx_ok2a : ((List.range 64).all fun c => txC2 c) = true := by decide +kernel
theorem tx_ok2b : ((List.range 64).all fun c => txC2 (c + 64)) = true := by decide +kernel
theorem tx_ok2c : ((List.range 64).all fun c => txC2 (c + 128)) = true := by decide +kernel
theorem tx_ok2d : ((List.range 64).all fun c => txC2 (c + 192)) = true := by decide +kernel
theorem tx_val {c : Nat} (hc : c < 256) : stT s00 (tx c) 22 22 0 = c := by
  have key : txC2 c = true := by
    by_cases h1 : c < 64
    · exact al tx_ok2a h1
    by_cases h2 : c < 128
    · have := al tx_ok2b (i := c - 64) (by omega)
      rwa [show c - 64 + 64 = c by omega] at this
    by_cases h3 : c < 192
    · have := al tx_ok2c (i := c - 128) (by omega)
      rwa [show c - 128 + 128 = c by omega] at this
    · have := al tx_ok2d (i := c - 192) (by omega)
      rwa [show c - 192 + 192 = c by omega] at this
  exact Nat.eq_of_beq_eq_true key
theorem tx_at {c : Nat} (hc : c < 256) : opN (tx c) 22 = 0 ∧ ∀ j, j < 22 → opN (tx c) j ≠ 0 ∧ wN (tx c j) ≤ 3 ∧ isF (tx c j) = false := by
  have h := al tx_ok1 hc
  simp only [txC1, Bool.and_eq_true] at h
  refine ⟨Nat.eq_of_beq_eq_true h.1, fun j hj => ?_⟩
  have h2 := al h.2 hj
  simp only [Bool.and_eq_true, Bool.not_eq_true'] at h2
  obtain ⟨⟨a, b⟩, d⟩ := h2
  refine ⟨fun e => ?_, Nat.le_of_ble_eq_true b, d⟩
  rw [e] at a
  cases a
theorem va_s (s s' : Sh) {a : Nat} (h : isF a = false) (x y z : Nat) : vaN s a x y z = vaN s' a x y z := by
  unfold vaN coN
  rw [h]
  rfl
theorem stT_s (s s' : Sh) {X : Nat → Nat} {m : Nat} (h : ∀ j, j < m → isF (X j) = false) : ∀ t, t ≤ m → ∀ j, stT s X m t j = stT s' X m t j
  | 0, _, _ => rfl
  | t + 1, ht, j => by
    have ih := stT_s s s' h t (by omega)
    show (if j = opN X (m - t) - wN (X (m - (t + 1))) then vaN s (X (m - (t + 1))) (stT s X m t (opN X (m - t) - 1)) (stT s X m t (opN X (m - t) - 2)) (stT s X m t (opN X (m - t) - 3)) else stT s X m t j) = (if j = opN X (m - t) - wN (X (m - (t + 1))) then vaN s' (X (m - (t + 1))) (stT s' X m t (opN X (m - t) - 1)) (stT s' X m t (opN X (m - t) - 2)) (stT s' X m t (opN X (m - t) - 3)) else stT s' X m t j)
    rw [ih, ih, ih, ih, va_s s s' (h _ (by omega))]
theorem tx_tell {c : Nat} (hc : c < 256) (s : Sh) : (∀ j, j < 22 → faN (tx c) s.1 j = 0) ∧ opN (tx c) 22 = 0 ∧ stT s (tx c) 22 22 0 = c := by
  obtain ⟨h0, h⟩ := tx_at hc
  refine ⟨fun j hj => ?_, h0, ?_⟩
  · obtain ⟨a, b, d⟩ := h j hj
    exact fa_0 a (by omega) (fun w => by rw [d] at w; cases w.1)
  · rw [stT_s s s00 (fun j hj => (h j hj).2.2) 22 (Nat.le_refl 22)]
    exact tx_val hc
def bitC (b : Nat) : Bool := decide ((48 : Int32) + ((nI b >>> ((((2 : Int32) * 1) + (1 : Int32)) &&& 31) : Int32) &&& (1 : Int32)) = nI (48 + tl b 3)) && decide ((48 : Int32) + ((nI b >>> (((2 : Int32) * 1) &&& 31) : Int32) &&& (1 : Int32)) = nI (48 + tl b 2)) && decide ((48 : Int32) + ((nI b >>> ((((2 : Int32) * 0) + (1 : Int32)) &&& 31) : Int32) &&& (1 : Int32)) = nI (48 + tl b 1)) && decide ((48 : Int32) + ((nI b >>> (((2 : Int32) * 0) &&& 31) : Int32) &&& (1 : Int32)) = nI (48 + tl b 0))
theorem bit_ok : ((List.range 16).all bitC) = true := by decide +kernel
theorem bit_at {b : Nat} (hb : b < 16) : (48 : Int32) + ((nI b >>> ((((2 : Int32) * 1) + (1 : Int32)) &&& 31) : Int32) &&& (1 : Int32)) = nI (48 + tl b 3) ∧ (48 : Int32) + ((nI b >>> (((2 : Int32) * 1) &&& 31) : Int32) &&& (1 : Int32)) = nI (48 + tl b 2) ∧ (48 : Int32) + ((nI b >>> ((((2 : Int32) * 0) + (1 : Int32)) &&& 31) : Int32) &&& (1 : Int32)) = nI (48 + tl b 1) ∧ (48 : Int32) + ((nI b >>> (((2 : Int32) * 0) &&& 31) : Int32) &&& (1 : Int32)) = nI (48 + tl b 0) := by
  have h := al bit_ok hb
  simp only [bitC, Bool.and_eq_true, decide_eq_true_eq] at h
  exact ⟨h.1.1.1, h.1.1.2, h.1.2, h.2⟩
theorem o_half {s : Sh} {u : Nat} {U : Nat → Sh} {X : Nat → Nat} {j0 c : Nat} {b : St2} {w : Wd} (I : W2 (s, u, U, j0, X) b w) (hX : ∀ i, i < 10 → X (j0 + i) = txl c i) (hc : c < 16) (hj : j0 ≤ 12) : ∃ w', Jw_half (nI c) w = some (1, w') ∧ Nx (s, u, U, j0 + 10, X) b w w' := by
  have lt : ∀ i, i < 10 → X (j0 + i) < 256 := fun i hi => by rw [hX i hi]; exact txl_lt _ _
  obtain ⟨b3, b2, b1, b0⟩ := bit_at hc
  obtain ⟨w0, e0, n0⟩ := o_feed (m := j0 + 0) (show W2 (s, u, U, j0 + 0, X) b w from I) (by omega) (lt 0 (by omega))
  rw [hX 0 (by omega)] at e0
  obtain ⟨w1, e1, n1⟩ := o_feed (m := j0 + 1) (show W2 (s, u, U, j0 + 1, X) b w0 from n0.1) (by omega) (lt 1 (by omega))
  rw [hX 1 (by omega)] at e1
  obtain ⟨w2, e2, n2⟩ := o_feed (m := j0 + 2) (show W2 (s, u, U, j0 + 2, X) b w1 from n1.1) (by omega) (lt 2 (by omega))
  rw [hX 2 (by omega)] at e2
  obtain ⟨w3, e3, n3⟩ := o_feed (m := j0 + 3) (show W2 (s, u, U, j0 + 3, X) b w2 from n2.1) (by omega) (lt 3 (by omega))
  rw [hX 3 (by omega)] at e3
  obtain ⟨w4, e4, n4⟩ := o_feed (m := j0 + 4) (show W2 (s, u, U, j0 + 4, X) b w3 from n3.1) (by omega) (lt 4 (by omega))
  rw [hX 4 (by omega)] at e4
  obtain ⟨w5, e5, n5⟩ := o_feed (m := j0 + 5) (show W2 (s, u, U, j0 + 5, X) b w4 from n4.1) (by omega) (lt 5 (by omega))
  rw [hX 5 (by omega)] at e5
  obtain ⟨w6, e6, n6⟩ := o_feed (m := j0 + 6) (show W2 (s, u, U, j0 + 6, X) b w5 from n5.1) (by omega) (lt 6 (by omega))
  rw [hX 6 (by omega)] at e6
  obtain ⟨w7, e7, n7⟩ := o_feed (m := j0 + 7) (show W2 (s, u, U, j0 + 7, X) b w6 from n6.1) (by omega) (lt 7 (by omega))
  rw [hX 7 (by omega)] at e7
  obtain ⟨w8, e8, n8⟩ := o_feed (m := j0 + 8) (show W2 (s, u, U, j0 + 8, X) b w7 from n7.1) (by omega) (lt 8 (by omega))
  rw [hX 8 (by omega)] at e8
  obtain ⟨w9, e9, n9⟩ := o_feed (m := j0 + 9) (show W2 (s, u, U, j0 + 9, X) b w8 from n8.1) (by omega) (lt 9 (by omega))
  rw [hX 9 (by omega)] at e9
  replace e0 : Jw_t 63 w = some (1, w0) := e0
  replace e1 : Jw_t 98 w0 = some (1, w1) := e1
  replace e2 : Jw_t 63 w1 = some (1, w2) := e2
  replace e3 : Jw_t 99 w2 = some (1, w3) := e3
  replace e4 : Jw_t (nI (48 + tl c 3)) w3 = some (1, w4) := e4
  rw [← b3] at e4
  replace e5 : Jw_t (nI (48 + tl c 2)) w4 = some (1, w5) := e5
  rw [← b2] at e5
  replace e6 : Jw_t 63 w5 = some (1, w6) := e6
  replace e7 : Jw_t 99 w6 = some (1, w7) := e7
  replace e8 : Jw_t (nI (48 + tl c 1)) w7 = some (1, w8) := e8
  rw [← b1] at e8
  replace e9 : Jw_t (nI (48 + tl c 0)) w8 = some (1, w9) := e9
  rw [← b0] at e9
  refine ⟨w9, ?_, Nx_tr (Nx_tr (Nx_tr (Nx_tr (Nx_tr (Nx_tr (Nx_tr (Nx_tr (Nx_tr (n0) n1) n2) n3) n4) n5) n6) n7) n8) n9⟩
  have s1 : Jw_half_L26 (nI c) 1 1 w1 = some (.inl (1, 0, w5)) := by
    unfold Jw_half_L26
    simp only [show ¬ (1 : Int32) < 0 by decide, one0, e2, e3, e4, e5, bd_some, if_false]
    rfl
  have s0 : Jw_half_L26 (nI c) 1 0 w5 = some (.inl (1, -1, w9)) := by
    unfold Jw_half_L26
    simp only [show ¬ (0 : Int32) < 0 by decide, one0, e6, e7, e8, e9, bd_some, if_false]
    rfl
  have sE : Jw_half_L26 (nI c) 1 (-1) w9 = some (.inr (1, -1, w9)) := by
    unfold Jw_half_L26
    rw [if_pos (by decide)]
  have lp : loopN 1000000 (fun t : Int32 × Int32 × Wd => Jw_half_L26 (nI c) t.1 t.2.1 t.2.2) (1, 1, w1) = some (1, -1, w9) :=
    (loopN_in (f := fun t : Int32 × Int32 × Wd => Jw_half_L26 (nI c) t.1 t.2.1 t.2.2) (s := (1, 1, w1)) (s' := (1, 0, w5)) s1 999999).trans ((loopN_in (f := fun t : Int32 × Int32 × Wd => Jw_half_L26 (nI c) t.1 t.2.1 t.2.2) (s := (1, 0, w5)) (s' := (1, -1, w9)) s0 999998).trans (loopN_out (f := fun t : Int32 × Int32 × Wd => Jw_half_L26 (nI c) t.1 t.2.1 t.2.2) (s := (1, -1, w9)) (r := (1, -1, w9)) sE 999997))
  unfold Jw_half
  simp only [e0, e1, bd_some, one0, if_false]
  unfold Jw_half_J23
  rw [lp, bd_some]
  rfl
theorem o_toldC {s : Sh} {u : Nat} {U : Nat → Sh} {T : Nat → Nat} {c : Nat} {b : St2} {w : Wd} (I : W2 (s, u, U, 0, T) b w) (hl : s.1 < 6) (hc : c < 256) : ∃ w', Jw_told (nI c) (nI s.1) w = some (1, w') ∧ Nx (addS s c, pushN u, pushU s U, 0, tx c) b w w' := by
  have I0 := o_retext I (tx c)
  obtain ⟨w0, e0, n0⟩ := o_feed (m := 0) I0 (by omega) (tx_lt _ _)
  obtain ⟨w1, e1, n1⟩ := o_feed (m := 1) (show W2 (s, u, U, 1, tx c) b w0 from n0.1) (by omega) (tx_lt _ _)
  replace e0 : Jw_t 63 w = some (1, w0) := e0
  replace e1 : Jw_t 97 w0 = some (1, w1) := e1
  obtain ⟨w2, e2, n2⟩ := o_half (j0 := 2) (c := c / 16) (show W2 (s, u, U, 2, tx c) b w1 from n1.1) (fun i hi => by
    unfold tx
    rw [if_neg (by omega), if_neg (by omega), if_pos (by omega), Nat.add_sub_cancel_left]) (by omega) (by omega)
  have h15 : c &&& 15 < 16 := Nat.lt_of_le_of_lt Nat.and_le_right (by decide)
  obtain ⟨w3, e3, n3⟩ := o_half (j0 := 12) (c := c &&& 15) (show W2 (s, u, U, 12, tx c) b w2 from n2.1) (fun i hi => by
    unfold tx
    rw [if_neg (by omega), if_neg (by omega), if_neg (by omega), Nat.add_sub_cancel_left]) h15 (by omega)
  obtain ⟨f1, f2, f3⟩ := tx_tell hc s
  obtain ⟨w4, e4, n4⟩ := o_tell (show W2 (s, u, U, 22, tx c) b w3 from n3.1) hl f1 f2 (by decide)
  rw [f3] at n4
  obtain ⟨⟨w5, e5, n5⟩, -⟩ := o_fun (k := s.1) n4.1 (show s.1 < s.1 + 1 by omega)
  have e5 : Oo_function (nI s.1) 0 w4 = some (nI c, w5) := by
    rw [e5]
    show some (nI (if s.1 = s.1 then c else s.2.1 s.1), w5) = _
    rw [if_pos rfl]
  refine ⟨w5, ?_, Nx_tr (Nx_tr (Nx_tr (Nx_tr (Nx_tr n0 n1) n2) n3) n4) n5⟩
  have sh : (nI c >>> ((4 : Int32) &&& 31) : Int32) = nI (c / 16) := (nI_shr (a := c) (b := 4) (by omega) (by decide)).trans (by rw [Nat.shiftRight_eq_div_pow])
  have a15 : nI c &&& (15 : Int32) = nI (c &&& 15) := nI_and c 15
  unfold Jw_told
  simp only [sh, a15, e0, e1, e2, e3, e4, e5, bd_some, one0, if_false, if_true, eq_self]
theorem q_half {s : Sh} {u : Nat} {U : Nat → Sh} {X : Nat → Nat} {j0 c : Nat} {a : St2} {w : Wd} (I : W2 a (s, u, U, j0, X) w) (hX : ∀ i, i < 10 → X (j0 + i) = txl c i) (hc : c < 16) (hj : j0 ≤ 12) : ∃ w', Jw_half_1 (nI c) w = some (1, w') ∧ Nx a (s, u, U, j0 + 10, X) w w' := by
  have lt : ∀ i, i < 10 → X (j0 + i) < 256 := fun i hi => by rw [hX i hi]; exact txl_lt _ _
  obtain ⟨b3, b2, b1, b0⟩ := bit_at hc
  obtain ⟨w0, e0, n0⟩ := q_feed (m := j0 + 0) (show W2 a (s, u, U, j0 + 0, X) w from I) (by omega) (lt 0 (by omega))
  rw [hX 0 (by omega)] at e0
  obtain ⟨w1, e1, n1⟩ := q_feed (m := j0 + 1) (show W2 a (s, u, U, j0 + 1, X) w0 from n0.1) (by omega) (lt 1 (by omega))
  rw [hX 1 (by omega)] at e1
  obtain ⟨w2, e2, n2⟩ := q_feed (m := j0 + 2) (show W2 a (s, u, U, j0 + 2, X) w1 from n1.1) (by omega) (lt 2 (by omega))
  rw [hX 2 (by omega)] at e2
  obtain ⟨w3, e3, n3⟩ := q_feed (m := j0 + 3) (show W2 a (s, u, U, j0 + 3, X) w2 from n2.1) (by omega) (lt 3 (by omega))
  rw [hX 3 (by omega)] at e3
  obtain ⟨w4, e4, n4⟩ := q_feed (m := j0 + 4) (show W2 a (s, u, U, j0 + 4, X) w3 from n3.1) (by omega) (lt 4 (by omega))
  rw [hX 4 (by omega)] at e4
  obtain ⟨w5, e5, n5⟩ := q_feed (m := j0 + 5) (show W2 a (s, u, U, j0 + 5, X) w4 from n4.1) (by omega) (lt 5 (by omega))
  rw [hX 5 (by omega)] at e5
  obtain ⟨w6, e6, n6⟩ := q_feed (m := j0 + 6) (show W2 a (s, u, U, j0 + 6, X) w5 from n5.1) (by omega) (lt 6 (by omega))
  rw [hX 6 (by omega)] at e6
  obtain ⟨w7, e7, n7⟩ := q_feed (m := j0 + 7) (show W2 a (s, u, U, j0 + 7, X) w6 from n6.1) (by omega) (lt 7 (by omega))
  rw [hX 7 (by omega)] at e7
  obtain ⟨w8, e8, n8⟩ := q_feed (m := j0 + 8) (show W2 a (s, u, U, j0 + 8, X) w7 from n7.1) (by omega) (lt 8 (by omega))
  rw [hX 8 (by omega)] at e8
  obtain ⟨w9, e9, n9⟩ := q_feed (m := j0 + 9) (show W2 a (s, u, U, j0 + 9, X) w8 from n8.1) (by omega) (lt 9 (by omega))
  rw [hX 9 (by omega)] at e9
  replace e0 : Jw_t_1 63 w = some (1, w0) := e0
  replace e1 : Jw_t_1 98 w0 = some (1, w1) := e1
  replace e2 : Jw_t_1 63 w1 = some (1, w2) := e2
  replace e3 : Jw_t_1 99 w2 = some (1, w3) := e3
  replace e4 : Jw_t_1 (nI (48 + tl c 3)) w3 = some (1, w4) := e4
  rw [← b3] at e4
  replace e5 : Jw_t_1 (nI (48 + tl c 2)) w4 = some (1, w5) := e5
  rw [← b2] at e5
  replace e6 : Jw_t_1 63 w5 = some (1, w6) := e6
  replace e7 : Jw_t_1 99 w6 = some (1, w7) := e7
  replace e8 : Jw_t_1 (nI (48 + tl c 1)) w7 = some (1, w8) := e8
  rw [← b1] at e8
  replace e9 : Jw_t_1 (nI (48 + tl c 0)) w8 = some (1, w9) := e9
  rw [← b0] at e9
  refine ⟨w9, ?_, Nx_tr (Nx_tr (Nx_tr (Nx_tr (Nx_tr (Nx_tr (Nx_tr (Nx_tr (Nx_tr (n0) n1) n2) n3) n4) n5) n6) n7) n8) n9⟩
  have s1 : Jw_half_1_L26 (nI c) 1 1 w1 = some (.inl (1, 0, w5)) := by
    unfold Jw_half_1_L26
    simp only [show ¬ (1 : Int32) < 0 by decide, one0, e2, e3, e4, e5, bd_some, if_false]
    rfl
  have s0 : Jw_half_1_L26 (nI c) 1 0 w5 = some (.inl (1, -1, w9)) := by
    unfold Jw_half_1_L26
    simp only [show ¬ (0 : Int32) < 0 by decide, one0, e6, e7, e8, e9, bd_some, if_false]
    rfl
  have sE : Jw_half_1_L26 (nI c) 1 (-1) w9 = some (.inr (1, -1, w9)) := by
    unfold Jw_half_1_L26
    rw [if_pos (by decide)]
  have lp : loopN 1000000 (fun t : Int32 × Int32 × Wd => Jw_half_1_L26 (nI c) t.1 t.2.1 t.2.2) (1, 1, w1) = some (1, -1, w9) :=
    (loopN_in (f := fun t : Int32 × Int32 × Wd => Jw_half_1_L26 (nI c) t.1 t.2.1 t.2.2) (s := (1, 1, w1)) (s' := (1, 0, w5)) s1 999999).trans ((loopN_in (f := fun t : Int32 × Int32 × Wd => Jw_half_1_L26 (nI c) t.1 t.2.1 t.2.2) (s := (1, 0, w5)) (s' := (1, -1, w9)) s0 999998).trans (loopN_out (f := fun t : Int32 × Int32 × Wd => Jw_half_1_L26 (nI c) t.1 t.2.1 t.2.2) (s := (1, -1, w9)) (r := (1, -1, w9)) sE 999997))
  unfold Jw_half_1
  simp only [e0, e1, bd_some, one0, if_false]
  unfold Jw_half_1_J23
  rw [lp, bd_some]
  rfl
theorem q_toldC {s : Sh} {u : Nat} {U : Nat → Sh} {T : Nat → Nat} {c : Nat} {a : St2} {w : Wd} (I : W2 a (s, u, U, 0, T) w) (hl : s.1 < 6) (hc : c < 256) : ∃ w', Jw_told_1 (nI c) (nI s.1) w = some (1, w') ∧ Nx a (addS s c, pushN u, pushU s U, 0, tx c) w w' := by
  have I0 := q_retext I (tx c)
  obtain ⟨w0, e0, n0⟩ := q_feed (m := 0) I0 (by omega) (tx_lt _ _)
  obtain ⟨w1, e1, n1⟩ := q_feed (m := 1) (show W2 a (s, u, U, 1, tx c) w0 from n0.1) (by omega) (tx_lt _ _)
  replace e0 : Jw_t_1 63 w = some (1, w0) := e0
  replace e1 : Jw_t_1 97 w0 = some (1, w1) := e1
  obtain ⟨w2, e2, n2⟩ := q_half (j0 := 2) (c := c / 16) (show W2 a (s, u, U, 2, tx c) w1 from n1.1) (fun i hi => by
    unfold tx
    rw [if_neg (by omega), if_neg (by omega), if_pos (by omega), Nat.add_sub_cancel_left]) (by omega) (by omega)
  have h15 : c &&& 15 < 16 := Nat.lt_of_le_of_lt Nat.and_le_right (by decide)
  obtain ⟨w3, e3, n3⟩ := q_half (j0 := 12) (c := c &&& 15) (show W2 a (s, u, U, 12, tx c) w2 from n2.1) (fun i hi => by
    unfold tx
    rw [if_neg (by omega), if_neg (by omega), if_neg (by omega), Nat.add_sub_cancel_left]) h15 (by omega)
  obtain ⟨f1, f2, f3⟩ := tx_tell hc s
  obtain ⟨w4, e4, n4⟩ := q_tell (show W2 a (s, u, U, 22, tx c) w3 from n3.1) hl f1 f2 (by decide)
  rw [f3] at n4
  obtain ⟨w5, e5, n5⟩ := q_fun (k := s.1) n4.1 (show s.1 < s.1 + 1 by omega)
  have e5 : Oq_function (nI s.1) 0 w4 = some (nI c, w5) := by
    rw [e5]
    show some (nI (if s.1 = s.1 then c else s.2.1 s.1), w5) = _
    rw [if_pos rfl]
  refine ⟨w5, ?_, Nx_tr (Nx_tr (Nx_tr (Nx_tr (Nx_tr n0 n1) n2) n3) n4) n5⟩
  have sh : (nI c >>> ((4 : Int32) &&& 31) : Int32) = nI (c / 16) := (nI_shr (a := c) (b := 4) (by omega) (by decide)).trans (by rw [Nat.shiftRight_eq_div_pow])
  have a15 : nI c &&& (15 : Int32) = nI (c &&& 15) := nI_and c 15
  unfold Jw_told_1
  simp only [sh, a15, e0, e1, e2, e3, e4, e5, bd_some, one0, if_false, if_true, eq_self]
