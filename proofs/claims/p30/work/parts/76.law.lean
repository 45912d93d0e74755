/-! The law, from its two objects to its end. -/
theorem pushN_lt {u : Nat} (h : u < 16) : pushN u = u + 1 := if_pos h
theorem l1_st {L : Nat} {xs : Nat → Int32} (hL : L ≤ 260) {f M : Nat} (hM : M ≤ 2) (hf : f < M) {s : Sh} {U : Nat → Sh} {T : Nat → Nat} {w : Wd} (es : s.1 = f) (I : W2 (s, f, U, 0, T) (s, f, U, 0, T) w) : ∃ w' s' U' T', Jw_law_L31 L xs (nI M) (nI f) w = some (.inl (nI (f + 1), w')) ∧ s'.1 = f + 1 ∧ W2 (s', f + 1, U', 0, T') (s', f + 1, U', 0, T') w' ∧ w'.1 = w.1 := by
  obtain ⟨v, ev⟩ := cell_at xs hL (j := 1 + f) (by omega)
  obtain ⟨c, hc, ec⟩ := drawn_at v
  have hp : pushN f = f + 1 := pushN_lt (by omega)
  obtain ⟨w1, e1, n1⟩ := o_toldC I (by omega) hc
  obtain ⟨w2, e2, n2⟩ := q_toldC n1.1 (by omega) hc
  rw [es] at e1 e2
  have I2 := n2.1
  rw [hp] at I2
  refine ⟨w2, addS s c, pushU s U, tx c, ?_, by show s.1 + 1 = f + 1; rw [es], I2, n2.2.1.trans n1.2.1⟩
  have i1 : nI f + 1 = nI (f + 1) := nI_add f 1
  have i2 : (1 : Int32) + nI f = nI (1 + f) := nI_add 1 f
  unfold Jw_law_L31
  rw [if_pos (nI_lt hf (by omega)), i2, ev, bd_some, ec, bd_some, e1, bd_some]
  dsimp only
  rw [if_neg one0, e2, bd_some]
  dsimp only
  rw [if_neg one0, i1]
theorem l1_at {L : Nat} {xs : Nat → Int32} (hL : L ≤ 260) {M : Nat} (hM : M ≤ 2) {U : Nat → Sh} {T : Nat → Nat} {w : Wd} {g : Nat → Nat} (I : W2 ((0, g, 0), 0, U, 0, T) ((0, g, 0), 0, U, 0, T) w) (h0 : w.1 = []) : ∃ w' s' U' T', loopN 1000000 (fun s => Jw_law_L31 L xs (nI M) s.1 s.2) (0, w) = some (.inl (nI M, w')) ∧ s'.1 = M ∧ W2 (s', M, U', 0, T') (s', M, U', 0, T') w' ∧ w'.1 = [] := by
  obtain ⟨r, l1, w', rfl, s', U', T', l3, l4, l5⟩ := loop_cnt (fun t : Int32 × Wd => Jw_law_L31 L xs (nI M) t.1 t.2) (fun f t => t.1 = nI f ∧ ∃ s' U' T', s'.1 = f ∧ W2 (s', f, U', 0, T') (s', f, U', 0, T') t.2 ∧ t.2.1 = []) (fun r => ∃ w', r = .inl (nI M, w') ∧ ∃ s' U' T', s'.1 = M ∧ W2 (s', M, U', 0, T') (s', M, U', 0, T') w' ∧ w'.1 = []) M (fun f t hf ht => by
    obtain ⟨v, wt⟩ := t
    obtain ⟨rfl, s', U', T', h1, h2, h3⟩ := ht
    obtain ⟨w1, s1, U1, T1, e1, e2, e3, e4⟩ := l1_st (xs := xs) hL hM hf h1 h2
    exact Or.inl ⟨(nI (f + 1), w1), e1, rfl, s1, U1, T1, e2, e3, e4.trans h3⟩) (fun t ht => by
    obtain ⟨v, wt⟩ := t
    obtain ⟨rfl, s', U', T', h1, h2, h3⟩ := ht
    refine ⟨.inl (nI M, wt), ?_, wt, rfl, s', U', T', h1, h2, h3⟩
    show Jw_law_L31 L xs (nI M) (nI M) wt = _
    unfold Jw_law_L31
    exact if_neg (nI_nlt (Nat.le_refl M) (by omega))) (F := 1000000) (by omega) (a := 0) (by omega) (s := (0, w)) ⟨rfl, (0, g, 0), U, T, rfl, I, h0⟩
  exact ⟨w', s', U', T', l1, l3, l4, l5⟩
theorem opt_or {α : Type} (o : Option α) : o = none ∨ ∃ k, o = some k := by
  cases o with
  | none => exact Or.inl rfl
  | some k => exact Or.inr ⟨k, rfl⟩
def mxO (o : Option Nat) (b : Nat) : Nat := o.elim b fun k => if b < k then k else b
theorem mxO_n (b : Nat) : mxO none b = b := rfl
theorem mxO_s (k b : Nat) : mxO (some k) b = if b < k then k else b := rfl
noncomputable def bN (s : Sh) : Nat → Nat
  | 0 => 0
  | c + 1 => mxO (FC s c) (bN s c)
theorem bN_succ (s : Sh) (c : Nat) : bN s (c + 1) = mxO (FC s c) (bN s c) := rfl
theorem bN_sn {s : Sh} {c : Nat} (e : FC s c = none) : bN s (c + 1) = bN s c := by
  have h := bN_succ s c
  rw [e] at h
  exact h
theorem bN_ss {s : Sh} {c k : Nat} (e : FC s c = some k) : bN s (c + 1) = if bN s c < k then k else bN s c := by
  have h := bN_succ s c
  rw [e] at h
  exact h
theorem bN_le (s : Sh) (c : Nat) : c ≤ 256 → bN s c ≤ 9999 ∧ bN s c ≤ gr s := by
  induction c with
  | zero => exact fun _ => ⟨Nat.zero_le _, Nat.zero_le _⟩
  | succ c ih =>
    intro hc
    have ih := ih (by omega)
    rcases opt_or (FC s c) with e | ⟨k, e⟩
    · rw [bN_sn e]
      exact ih
    · have h1 := FC_le e
      have h2 : k ≤ gr s := gr_max (by omega) e
      rw [bN_ss e]
      by_cases q : bN s c < k
      · rw [if_pos q]
        exact ⟨h1, h2⟩
      · rw [if_neg q]
        exact ih
theorem bN_max (s : Sh) (n : Nat) : ∀ c k, c < n → FC s c = some k → k ≤ bN s n := by
  induction n with
  | zero => exact fun _ _ h _ => absurd h (Nat.not_lt_zero _)
  | succ n ih =>
    intro c k h e
    by_cases q : c = n
    · subst q
      rw [bN_ss e]
      by_cases r : bN s c < k
      · rw [if_pos r]
        exact Nat.le_refl k
      · rw [if_neg r]
        exact Nat.not_lt.mp r
    · have h1 := ih c k (by omega) e
      rcases opt_or (FC s n) with e2 | ⟨j, e2⟩
      · rw [bN_sn e2]
        exact h1
      · rw [bN_ss e2]
        by_cases r : bN s n < j
        · rw [if_pos r]
          exact Nat.le_trans h1 (Nat.le_of_lt r)
        · rw [if_neg r]
          exact h1
theorem bN_gr (s : Sh) : bN s 256 = gr s := by
  obtain ⟨c, hc, e⟩ := gr_is s
  have h1 := bN_max s 256 c _ hc e
  have h2 := (bN_le s 256 (Nat.le_refl 256)).2
  omega
section LOOPS
variable {s : Sh} {u m : Nat} {U : Nat → Sh} {T : Nat → Nat} {b : St2}
set_option maxRecDepth 100000 in
theorem l2_st {L : Nat} {xs : Nat → Int32} {v3 v4 : Int32} {c n : Nat} {w : Wd} (hc : c < 256) (I : W2 (s, u, U, m, T) b w) (hn : n ≤ c) (hw : w.1 = List.replicate n (.inr (false, 3))) : ∃ w' n', Jw_law_L119 L xs v3 v4 (nI (cntT (isM s) c)) (nI (bN s c)) (nI c) w = some (.inl (nI (cntT (isM s) (c + 1)), nI (bN s (c + 1)), nI (c + 1), w')) ∧ W2 (s, u, U, m, T) b w' ∧ n' ≤ c + 1 ∧ w'.1 = List.replicate n' (.inr (false, 3)) := by
  obtain ⟨w1, e1, n1⟩ := oc_0 I hc
  obtain ⟨w2, n2, e2, I2, l2, k2⟩ := made_at n1.1 hc (n1.2.1.trans hw)
  refine ⟨w2, n2, ?_, I2, by omega, l2⟩
  have i1 : nI c + 1 = nI (c + 1) := nI_add c 1
  have j1 : nI (cntT (isM s) c) + (1 : Int32) = nI (cntT (isM s) c + 1) := nI_add _ 1
  have b9 := (bN_le s c (by omega)).1
  unfold Jw_law_L119
  rw [if_pos (show nI c < (256 : Int32) from nI_lt (b := 256) hc (by decide)), e1, bd_some]
  dsimp only
  rcases opt_or (FC s c) with e | ⟨k, e⟩
  · have q1 : isM s c = false := isM_none e
    have q2 : bN s (c + 1) = bN s c := bN_sn e
    rw [coV_none e, if_pos (show (-1 : Int32) < 0 by decide), cntT_succ, q1, cond_false, q2]
    unfold Jw_law_J150
    rw [if_neg (show ¬ nI (bN s c) < (-1 : Int32) from fun w => nI_pos (n := bN s c) (by omega) (Int32.lt_trans w (by decide))), e2, bd_some]
    dsimp only
    rw [if_neg one0, i1]
  · have kl := FC_le e
    have q1 : isM s c = true := isM_some e
    rw [coV_some e, if_neg (nI_pos (by omega)), cntT_succ, q1, cond_true, j1]
    unfold Jw_law_J150
    by_cases q : bN s c < k
    · have q2 : bN s (c + 1) = k := (bN_ss e).trans (if_pos q)
      rw [if_pos (nI_lt q (by omega)), e2, bd_some, q2]
      dsimp only
      rw [if_neg one0, i1]
    · have q2 : bN s (c + 1) = bN s c := (bN_ss e).trans (if_neg q)
      rw [if_neg (nI_nlt (by omega) (by omega)), e2, bd_some, q2]
      dsimp only
      rw [if_neg one0, i1]
theorem l2_at {L : Nat} {xs : Nat → Int32} {v3 v4 : Int32} {w : Wd} (I : W2 (s, u, U, m, T) b w) (hw : w.1 = []) : ∃ w' n', loopN 1000000 (fun t : Int32 × Int32 × Int32 × Wd => Jw_law_L119 L xs v3 v4 t.1 t.2.1 t.2.2.1 t.2.2.2) (0, 0, 0, w) = some (.inl (nI (cntT (isM s) 256), nI (gr s), nI 256, w')) ∧ W2 (s, u, U, m, T) b w' ∧ n' ≤ 256 ∧ w'.1 = List.replicate n' (.inr (false, 3)) := by
  obtain ⟨r, l1, w', n', rfl, l3, l4, l5⟩ := loop_cnt (fun t : Int32 × Int32 × Int32 × Wd => Jw_law_L119 L xs v3 v4 t.1 t.2.1 t.2.2.1 t.2.2.2) (fun c t => t.1 = nI (cntT (isM s) c) ∧ t.2.1 = nI (bN s c) ∧ t.2.2.1 = nI c ∧ W2 (s, u, U, m, T) b t.2.2.2 ∧ ∃ n', n' ≤ c ∧ t.2.2.2.1 = List.replicate n' (.inr (false, 3))) (fun r => ∃ w' n', r = .inl (nI (cntT (isM s) 256), nI (bN s 256), nI 256, w') ∧ W2 (s, u, U, m, T) b w' ∧ n' ≤ 256 ∧ w'.1 = List.replicate n' (.inr (false, 3))) 256 (fun c t hc ht => by
    obtain ⟨t1, t2, t3, wt⟩ := t
    obtain ⟨rfl, rfl, rfl, h1, n', h2, h3⟩ := ht
    obtain ⟨w1, n1, e1, e2, e3, e4⟩ := l2_st (L := L) (xs := xs) (v3 := v3) (v4 := v4) hc h1 h2 h3
    exact Or.inl ⟨_, e1, rfl, rfl, rfl, e2, n1, e3, e4⟩) (fun t ht => by
    obtain ⟨t1, t2, t3, wt⟩ := t
    obtain ⟨rfl, rfl, rfl, h1, n', h2, h3⟩ := ht
    refine ⟨.inl (nI (cntT (isM s) 256), nI (bN s 256), nI 256, wt), ?_, wt, n', rfl, h1, h2, h3⟩
    show Jw_law_L119 L xs v3 v4 _ _ (nI 256) wt = _
    unfold Jw_law_L119
    exact if_neg (nI_nlt (Nat.le_refl 256) (by decide))) (F := 1000000) (by omega) (a := 0) (by omega) (s := (0, 0, 0, w)) ⟨rfl, rfl, rfl, I, 0, Nat.le_refl 0, hw⟩
  rw [bN_gr] at l1
  exact ⟨w', n', l1, l3, l4, l5⟩
theorem l3_st {L : Nat} {xs : Nat → Int32} (hL : L ≤ 260) {v5 v6 : Int32} {i : Nat} {w : Wd} (hi : i < 60) (h0 : 0 < s.1) (I : W2 (s, u, U, m, T) b w) : ∃ w', Jw_law_L227 L xs (nI s.1) (nI s.2.2) v5 v6 (nI i) w = some (.inl (nI (i + 1), w')) ∧ Nx (s, u, U, m, T) b w w' := by
  have hs : okS s := cI_s I.1
  have h6 := hs.1
  have bl := base_lt hs
  obtain ⟨v, ev⟩ := cell_at xs hL (j := 5 + i) (by omega)
  obtain ⟨f, hf, ef⟩ := low_at v h0 (by omega)
  have i1 : nI i + 1 = nI (i + 1) := nI_add i 1
  have i5 : (5 : Int32) + nI i = nI (5 + i) := nI_add 5 i
  have bt : (nI s.2.2 >>> (nI f &&& 31) : Int32) &&& (1 : Int32) = nI (tl s.2.2 f) := by
    rw [nI_shr (by omega) (by omega), lit 1, nI_and]
    rfl
  unfold Jw_law_L227
  rw [if_pos (show nI i < (60 : Int32) from nI_lt (b := 60) hi (by decide)), i5, ev, bd_some, ef, bd_some, bt]
  rcases t01 (tl_le s.2.2 f) with q | q
  · rw [q, if_neg (show ¬ nI 0 = (1 : Int32) by decide), i1]
    exact ⟨w, rfl, I, rfl, fun _ _ => rfl⟩
  · rw [q, if_pos (show nI 1 = (1 : Int32) from rfl), bd_some]
    obtain ⟨w1, e1, n1⟩ := cheap_at I (g := f) ⟨hf, q⟩ (v * (31 : Int32))
    rw [e1, bd_some]
    dsimp only
    rw [if_neg one0, i1]
    exact ⟨w1, rfl, n1⟩
theorem l3_at {L : Nat} {xs : Nat → Int32} (hL : L ≤ 260) {v5 v6 : Int32} {w : Wd} (h0 : 0 < s.1) (I : W2 (s, u, U, m, T) b w) : ∃ w', loopN 1000000 (fun t : Int32 × Wd => Jw_law_L227 L xs (nI s.1) (nI s.2.2) v5 v6 t.1 t.2) (0, w) = some (.inl (nI 60, w')) ∧ Nx (s, u, U, m, T) b w w' := by
  obtain ⟨r, l1, w', rfl, l3⟩ := loop_cnt (fun t : Int32 × Wd => Jw_law_L227 L xs (nI s.1) (nI s.2.2) v5 v6 t.1 t.2) (fun i t => t.1 = nI i ∧ Nx (s, u, U, m, T) b w t.2) (fun r => ∃ w', r = .inl (nI 60, w') ∧ Nx (s, u, U, m, T) b w w') 60 (fun i t hi ht => by
    obtain ⟨v, wt⟩ := t
    obtain ⟨rfl, nt⟩ := ht
    replace nt : Nx (s, u, U, m, T) b w wt := nt
    obtain ⟨w1, e1, n1⟩ := l3_st (xs := xs) hL (v5 := v5) (v6 := v6) hi h0 nt.1
    exact Or.inl ⟨_, e1, rfl, Nx_tr nt n1⟩) (fun t ht => by
    obtain ⟨v, wt⟩ := t
    obtain ⟨rfl, nt⟩ := ht
    refine ⟨.inl (nI 60, wt), ?_, wt, rfl, nt⟩
    show Jw_law_L227 L xs (nI s.1) (nI s.2.2) v5 v6 (nI 60) wt = _
    unfold Jw_law_L227
    exact if_neg (nI_nlt (Nat.le_refl 60) (by decide))) (F := 1000000) (by omega) (a := 0) (by omega) (s := (0, w)) ⟨rfl, I, rfl, fun _ _ => rfl⟩
  exact ⟨w', l1, l3⟩
theorem tail_at {L : Nat} {xs : Nat → Int32} {v5 : Int32} {d : Nat} {w : Wd} (h0 : 0 < s.1) (h2 : s.1 ≤ 2) (hu : u ≤ 3) (hd : isDear s d) (I : W2 (s, u, U, m, T) (s, u, U, m, T) w) : ∃ w1 w', Oo_put 0 0 0 0 w = some (nI s.1, w1) ∧ Jw_law_J313 L xs (nI s.1) (nI s.2.2) v5 (nI (gr s)) (nI d) (nI s.1) w1 = some (1, w') ∧ w'.1 = w.1 := by
  have hp1 : pushN u = u + 1 := pushN_lt (by omega)
  have hp2 : pushN (u + 1) = u + 2 := pushN_lt (by omega)
  obtain ⟨w1, va, e1, n1⟩ := o_put I h0 (by omega)
  obtain ⟨w2, vb, e2, n2⟩ := q_put n1.1 h0 (by omega)
  obtain ⟨w3, vc, e3, n3⟩ := o_turn n2.1 (show 0 < s.1 + 1 by omega)
  obtain ⟨w4, vd, e4, n4⟩ := q_turn n3.1 (show 0 < s.1 + 1 by omega)
  have t1 : (addS s va).2.1 0 = s.2.1 0 := if_neg (by omega)
  have t2 : (addS s vb).2.1 0 = s.2.1 0 := if_neg (by omega)
  rw [t1] at e3
  rw [t2] at e4
  have I4 := n4.1
  rw [hp1, hp2] at I4
  obtain ⟨w5, e5, n5⟩ := o_undo I4 (by omega)
  obtain ⟨w6, e6, n6⟩ := q_undo n5.1 (by omega)
  have I6 : W2 (s, u + 2 - 2, fun j => pushU (addS s va) (pushU s U) (2 + j), m, T) (s, u + 2 - 2, fun j => pushU (addS s vb) (pushU s U) (2 + j), m, T) w6 := n6.1
  replace e5 : Oo_undo 2 w4 = some (nI s.1, w5) := e5
  replace e6 : Oq_undo 2 w5 = some (nI s.1, w6) := e6
  obtain ⟨w7, e7, n7⟩ := (o_told I6).2.2
  obtain ⟨w8, e8, n8⟩ := (q_told n7.1).2
  obtain ⟨w9, e9, n9⟩ := oc_0 n8.1 hd.1
  rw [coV_some hd.2.1] at e9
  obtain ⟨w10, e10, n10⟩ := (o_told n9.1).2.1
  obtain ⟨w11, e11, n11⟩ := (q_told n10.1).1
  refine ⟨w1, w11, e1, ?_, ?_⟩
  · unfold Jw_law_J313 Jw_law_J333
    have c6 : nI s.1 < (6 : Int32) := nI_lt (b := 6) (by omega) (by decide)
    simp only [c6, e2, e3, e4, e5, e6, e7, e8, e9, e10, e11, bd_some, if_true, eq_self]
  · exact n11.2.1.trans (n10.2.1.trans (n9.2.1.trans (n8.2.1.trans (n7.2.1.trans (n6.2.1.trans (n5.2.1.trans (n4.2.1.trans (n3.2.1.trans (n2.2.1.trans n1.2.1)))))))))
end LOOPS
theorem shl_M {M : Nat} (h1 : M = 1 ∨ M = 2) : ((1 : Int32) <<< (nI M &&& 31) : Int32) = nI (2 ^ M) := by
  rcases h1 with rfl | rfl <;> rfl
theorem law_at {L : Nat} (xs : Nat → Int32) (hL : L ≤ 260) {U : Nat → Sh} {T : Nat → Nat} {w : Wd} {g : Nat → Nat} (I : W2 ((0, g, 0), 0, U, 0, T) ((0, g, 0), 0, U, 0, T) w) (hw : w.1 = []) : ∃ w' n', Jw_law L xs w = some (1, w') ∧ n' ≤ 256 ∧ w'.1 = List.replicate n' (.inr (false, 3)) := by
  obtain ⟨v0, f0⟩ := cell_at xs hL (j := 0) (by omega)
  obtain ⟨a, ha, f1⟩ := low_8 v0 (k := 2) (n := 2) rfl (by decide) (by decide)
  obtain ⟨M, eM⟩ : ∃ M, M = 1 + a := ⟨_, rfl⟩
  have hM : (1 : Int32) + nI a = nI M := by rw [eM]; exact nI_add 1 a
  have hM2 : M = 1 ∨ M = 2 := by omega
  obtain ⟨w1, s, U1, T1, l1, es, I1, z1⟩ := l1_at (xs := xs) hL (M := M) (by omega) I hw
  obtain ⟨v4, f4⟩ := cell_at xs hL (j := 4) (by omega)
  have p4 : 2 ^ M ≤ 4 := by rcases hM2 with rfl | rfl <;> decide
  obtain ⟨B, hB, f5⟩ := low_8 v4 (k := nI (2 ^ M)) (n := 2 ^ M) rfl (Nat.two_pow_pos M) (by omega)
  have hB' : B < 2 ^ s.1 := by rw [es]; exact hB
  obtain ⟨w2, e2, n2⟩ := o_base I1 hB'
  obtain ⟨w3, e3, n3⟩ := q_base n2.1 hB'
  have hpM : pushN M = M + 1 := pushN_lt (by omega)
  obtain ⟨sB, eB⟩ : ∃ sB : Sh, sB = (s.1, s.2.1, B) := ⟨_, rfl⟩
  have I3 := n3.1
  rw [hpM, ← eB] at I3
  rw [← eB] at e2 e3
  have sB1 : sB.1 = M := by rw [eB]; exact es
  have sB2 : sB.2.2 = B := by rw [eB]
  obtain ⟨w4, n4, l2, I4, k4, z4⟩ := l2_at (L := L) (xs := xs) (v3 := (1 : Int32) + nI a) (v4 := nI B) I3 (n3.2.1.trans (n2.2.1.trans z1))
  obtain ⟨w5, e5, n5⟩ := o_told5 I4
  obtain ⟨w6, e6, n6⟩ := o_told6 n5.1
  obtain ⟨d7, w7, e7, d7d, n7⟩ := o_told7 n6.1
  obtain ⟨w8, e8, n8⟩ := oc_0 n7.1 d7d.1
  rw [coV_some d7d.2.1] at e8
  obtain ⟨w9, l3, n9⟩ := l3_at (xs := xs) hL (v5 := nI (cntT (isM sB) 256)) (v6 := nI (gr sB)) (show 0 < sB.1 by omega) n8.1
  rw [sB1, sB2] at l3
  obtain ⟨d, w10, e10, dd, n10⟩ := o_told7 n9.1
  obtain ⟨w11, w12, e11, e12, z12⟩ := tail_at (L := L) (xs := xs) (v5 := nI (cntT (isM sB) 256)) (show 0 < sB.1 by omega) (by omega) (show M + 1 ≤ 3 by omega) dd n10.1
  rw [sB1] at e11 e12
  rw [sB2] at e12
  refine ⟨w12, n4, ?_, k4, ?_⟩
  · have f0' : Jw_cell L xs 0 = some v0 := f0
    have f4' : Jw_cell L xs 4 = some v4 := f4
    have l1' : loopN 1000000 (fun s : Int32 × Wd => Jw_law_L31 L xs ((1 : Int32) + nI a) s.1 s.2) (0, w) = some (.inl (nI M, w1)) := by rw [hM]; exact l1
    have f5' : Jw_low v4 ((1 : Int32) <<< (((1 : Int32) + nI a) &&& 31) : Int32) = some (nI B) := by rw [hM, shl_M hM2]; exact f5
    have l3' : loopN 1000000 (fun t : Int32 × Wd => Jw_law_L227 L xs ((1 : Int32) + nI a) (nI B) (nI (cntT (isM sB) 256)) (nI (gr sB)) t.1 t.2) (0, w8) = some (.inl (nI 60, w9)) := by rw [hM]; exact l3
    have c6 : (1 : Int32) + nI a < (6 : Int32) := by rw [hM]; exact nI_lt (b := 6) (by omega) (by decide)
    have e12' : Jw_law_J313 L xs ((1 : Int32) + nI a) (nI B) (nI (cntT (isM sB) 256)) (nI (gr sB)) (nI d) (nI M) w11 = some (1, w12) := by rw [hM]; exact e12
    unfold Jw_law
    refine (bd_of f0').trans ?_
    refine (bd_of f1).trans ?_
    refine (bd_of l1').trans ?_
    refine (bd_of f4').trans ?_
    refine (bd_of f5').trans ?_
    refine (bd_of e2).trans ?_
    refine (bd_of e3).trans ?_
    refine (if_pos rfl).trans ?_
    refine (bd_of l2).trans ?_
    refine (bd_of e5).trans ?_
    refine (if_pos rfl).trans ?_
    refine (bd_of e6).trans ?_
    refine (if_pos rfl).trans ?_
    refine (bd_of e7).trans ?_
    refine (bd_of e8).trans ?_
    refine (if_pos rfl).trans ?_
    refine (bd_of l3').trans ?_
    refine (bd_of e10).trans ?_
    refine (if_pos c6).trans ?_
    refine (bd_of e11).trans ?_
    exact e12'
  · exact z12.trans (n10.2.1.trans (n9.2.1.trans (n8.2.1.trans (n7.2.1.trans (n6.2.1.trans (n5.2.1.trans z4))))))
