/-! The law: what is made. -/
theorem arrOk_at (P : Lay) : arrOk (P ++ [.inr (false, 3)]) (P.length + 74) = true := by
  unfold arrOk LAY
  rw [show P.length + 74 = (0 + P.length + LYq.length) + LYc.length by rw [LYc_len, LYq_len]; omega, nth_ar, nth_ar, nth_ar]
  rfl
theorem cS_fr {h h' : Hp} {t : St2} (f : ∀ p, p < 37 → h' p = h p) (c : cS h t) : cS h' t := cI_M f c
theorem W2_fr {a b : St2} {w : Wd} {h' : Hp} (P : Lay) (f : ∀ p, p < 74 → h' p = w.2 p) (I : W2 a b w) : W2 a b (P, h') := ⟨cS_fr (fun p hp => f p (by omega)) I.1, cS_fr (fun p hp => f (p + 37) (by omega)) I.2⟩
theorem FC_b3 {s : Sh} {c : Nat} (h : base3 c) : FC s c = some 0 := FC_low (n := 0) (by omega) ((LV_0 s _).mpr h)
theorem or3 {a b c : Nat} (ha : a < 2) (hb : b < 2) (hc : c < 2) : (a <<< 2 ||| b <<< 1) ||| c = 4 * a + 2 * b + c := by
  rcases t01 ha with rfl | rfl <;> rcases t01 hb with rfl | rfl <;> rcases t01 hc with rfl | rfl <;> rfl
theorem ar_le : ∀ f, f < 256 → arN f ≤ 3 := by decide +kernel
section MADE
variable {s : Sh} {u m : Nat} {U : Nat → Sh} {T : Nat → Nat} {w : Wd} {b : St2}
theorem made_lo (I : W2 (s, u, U, m, T) b w) {c : Nat} (hc : c < 256) (e : FC s c = none ∨ FC s c = some 0) (A : Nat) : ∃ w', Jw_isMade A (nI c) w = some (1, w') ∧ Nx (s, u, U, m, T) b w w' := by
  obtain ⟨w0, e0, n0⟩ := oc_0 I hc
  obtain ⟨r1, w1, e1, n1, p1, -⟩ := oc_1 n0.1 hc
  obtain ⟨r2, w2, e2, n2, p2, -⟩ := oc_p (i := 0) n1.1 hc (by omega)
  obtain ⟨ln, r5, w3, L, e3, n3, p3, p4⟩ := oc_5 n2.1 hc
  rw [p1 e] at e1
  rw [p2 e] at e2
  replace e2 : Oo_cost (nI c) 2 w1 = some (-1, w2) := e2
  have nn := Nx_tr (Nx_tr (Nx_tr n0 n1) n2) n3
  rcases e with e | e
  · have v0 : coV s c = -1 := coV_none e
    rw [v0] at e0
    rw [p3 e] at e3
    have nb : ∀ {d : Nat}, base3 d → d < 256 → ¬ nI c = nI d := fun q hd w => by
      have := (nI_eq (by omega) (by omega)).mp w
      rw [this, FC_b3 q] at e
      cases e
    have b1 : ¬ nI c = (240 : Int32) := nb (d := 240) (Or.inr (Or.inr rfl)) (by decide)
    have b2 : ¬ nI c = (204 : Int32) := nb (d := 204) (Or.inr (Or.inl rfl)) (by decide)
    have b3 : ¬ nI c = (170 : Int32) := nb (d := 170) (Or.inl rfl) (by decide)
    refine ⟨w3, ?_, nn⟩
    unfold Jw_isMade Jw_isMade_J38 Jw_isMade_J49
    simp only [e0, e1, e2, e3, bd_some, b1, b2, b3, show (-1 : Int32) < 1 by decide, show ¬ (-1 : Int32) = 0 by decide, show ¬ (-1 : Int32) < -1 by decide, if_true, if_false, eq_self]
  · have v0 : coV s c = 0 := coV_some e
    rw [v0] at e0
    have q5 : r5 = 1 := by rw [p4 0 e, (L c hc 0 e).1 rfl]; rfl
    rw [q5] at e3
    refine ⟨w3, ?_, nn⟩
    rcases base_cost e with rfl | rfl | rfl
    · replace e0 : Oo_cost 170 0 w = some (0, w0) := e0
      replace e1 : Oo_cost 170 1 w0 = some (-1, w1) := e1
      replace e2 : Oo_cost 170 2 w1 = some (-1, w2) := e2
      replace e3 : Oo_cost 170 5 w2 = some (1, w3) := e3
      show Jw_isMade A 170 w = _
      unfold Jw_isMade Jw_isMade_J38 Jw_isMade_J49
      simp only [e0, e1, e2, e3, bd_some, show (0 : Int32) < 1 by decide, show ¬ (170 : Int32) = 240 by decide, show ¬ (170 : Int32) = 204 by decide, show ¬ (0 : Int32) < -1 by decide, one0, if_true, if_false, eq_self]
    · replace e0 : Oo_cost 204 0 w = some (0, w0) := e0
      replace e1 : Oo_cost 204 1 w0 = some (-1, w1) := e1
      replace e2 : Oo_cost 204 2 w1 = some (-1, w2) := e2
      replace e3 : Oo_cost 204 5 w2 = some (1, w3) := e3
      show Jw_isMade A 204 w = _
      unfold Jw_isMade Jw_isMade_J38 Jw_isMade_J49
      simp only [e0, e1, e2, e3, bd_some, show (0 : Int32) < 1 by decide, show ¬ (204 : Int32) = 240 by decide, show ¬ (0 : Int32) < -1 by decide, one0, if_true, if_false, eq_self]
    · replace e0 : Oo_cost 240 0 w = some (0, w0) := e0
      replace e1 : Oo_cost 240 1 w0 = some (-1, w1) := e1
      replace e2 : Oo_cost 240 2 w1 = some (-1, w2) := e2
      replace e3 : Oo_cost 240 5 w2 = some (1, w3) := e3
      show Jw_isMade A 240 w = _
      unfold Jw_isMade Jw_isMade_J38 Jw_isMade_J49
      simp only [e0, e1, e2, e3, bd_some, show (0 : Int32) < 1 by decide, show ¬ (0 : Int32) < -1 by decide, one0, if_true, if_false, eq_self]
def pz (a x y z j : Nat) : Nat := if j < a then pt x y z j else 0
noncomputable def kN (s : Sh) (d : Nat) : Nat := (FC s d).getD 0
noncomputable def cj (s : Sh) (a x y z j : Nat) : Nat := if j < a then kN s (pt x y z j) else 0
theorem kN_of {s : Sh} {d j : Nat} (e : FC s d = some j) : kN s d = j := by
  unfold kN
  rw [e]
  rfl
theorem ar0_all : ∀ f, f < 256 → arN f = 0 → pN f 0 0 0 = f := by decide +kernel
theorem way_is {s : Sh} {k c f x y z : Nat} (hf : f < 256) (hk : k ≤ 9999) (w : WayP (LV s (k - 1)) f k c x y z) : 1 + cj s (arN f) x y z 0 + cj s (arN f) x y z 1 + cj s (arN f) x y z 2 = k ∧ pN f (pz (arN f) x y z 0) (pz (arN f) x y z 1) (pz (arN f) x y z 2) = c := by
  have up : ∀ {d i : Nat}, LV s (k - 1) d = some i → kN s d = i := fun q => kN_of (LV_mono (by omega) q)
  unfold cj pz
  rcases w with ⟨a, w1, w2, rfl, rfl, rfl⟩ | ⟨a, ⟨i, w1, w2⟩, w3, w4, rfl, rfl⟩ | ⟨a, ⟨i, j, w1, w2, w3⟩, w4, w5, w6, rfl⟩ | ⟨a, ⟨i, j, l, w1, w2, w3, w4⟩, w5, w6, w7, w8⟩
  · rw [a]
    refine ⟨by simp only [Nat.not_lt_zero, if_false]; omega, ?_⟩
    simp only [Nat.not_lt_zero, if_false]
    rw [w2]
    exact ar0_all f hf a
  · rw [a]
    have u1 := up w1
    refine ⟨?_, ?_⟩
    · rw [if_pos (by omega), if_neg (by omega), if_neg (by omega)]
      show 1 + kN s x + 0 + 0 = k
      omega
    · rw [if_pos (by omega), if_neg (by omega), if_neg (by omega)]
      exact w3.symm
  · rw [a]
    have u1 := up w1
    have u2 := up w2
    refine ⟨?_, ?_⟩
    · rw [if_pos (by omega), if_pos (by omega), if_neg (by omega)]
      show 1 + kN s x + kN s y + 0 = k
      omega
    · rw [if_pos (by omega), if_pos (by omega), if_neg (by omega)]
      exact w4.symm
  · rw [a]
    have u1 := up w1
    have u2 := up w2
    have u3 := up w3
    refine ⟨?_, ?_⟩
    · rw [if_pos (by omega), if_pos (by omega), if_pos (by omega)]
      show 1 + kN s x + kN s y + kN s z = k
      omega
    · rw [if_pos (by omega), if_pos (by omega), if_pos (by omega)]
      exact w5.symm
theorem made_st {A c k g x y z i S Lm : Nat} {v2 v3 : Int32} {ln : Nat → Nat} (I : W2 (s, u, U, m, T) b w) (hA : 74 ≤ A) (hok : arrOk w.1 A = true) (hc : c < 256) (e : FC s c = some k) (pos : 0 < k) (t : isTop s k c g) (p : isPts s k c g x y z) (L : lnOK s ln) (ar3 : arN (s.2.1 g) ≤ 3) (hi : i < 3) : ∃ w', Jw_isMade_L157 A (nI c) v2 v3 (nI (arN (s.2.1 g))) (nI S) (nI Lm) (nI i) w = some (.inl (nI (S + cj s (arN (s.2.1 g)) x y z i), nI (Lm + lp ln (arN (s.2.1 g)) i (pt x y z i)), nI (i + 1), w')) ∧ W2 (s, u, U, m, T) b w' ∧ w'.1 = w.1 ∧ w'.2 A i = nI (pz (arN (s.2.1 g)) x y z i) ∧ ∀ j, j ≠ i → w'.2 A j = w.2 A j := by
  have hs : okS s := cI_s I.1
  have kl := FC_le e
  obtain ⟨r, w0, e0, n0, -, q0⟩ := oc_p (i := i) I hc hi
  rw [q0 k g x y z e pos t p] at e0
  replace e0 : Oo_cost (nI c) ((2 : Int32) + nI i) w = some (pv (arN (s.2.1 g)) i (pt x y z i), w0) := by rw [lit 2, nI_add]; exact e0
  have ok0 : arrOk w0.1 A = true := by rw [n0.2.1]; exact hok
  have ib : ibB (nI i) 3 = true := ib_nI hi (by omega)
  have cl : Int32.toNatClampNeg (nI i) = i := nI_clamp (by omega)
  have i1 : nI i + 1 = nI (i + 1) := nI_add i 1
  by_cases q : i < arN (s.2.1 g)
  · obtain ⟨d256, j, dj, jk⟩ := pt_low kl p.1 hi q
    have pvq : pv (arN (s.2.1 g)) i (pt x y z i) = nI (pt x y z i) := if_pos q
    rw [pvq] at e0
    have I1 : W2 (s, u, U, m, T) b (w0.1, hset w0.2 A i (nI (pt x y z i))) := W2_fr _ (fun p hp => hset_ne (by omega)) n0.1
    obtain ⟨w1, e1, n1⟩ := oc_0 I1 d256
    rw [coV_some dj] at e1
    obtain ⟨ln', r5, w2, L', e2, n2, -, q2⟩ := oc_5 n1.1 d256
    rw [q2 j dj, ln_uniq hs L' L j _ d256 dj] at e2
    have c1 : ¬ nI (pt x y z i) < 0 := nI_pos (by omega)
    have c2 : nI i < nI (arN (s.2.1 g)) := nI_lt q (by omega)
    have c3 : nI i < 3 := nI_lt (b := 3) hi (by decide)
    refine ⟨w2, ?_, n2.1, n2.2.1.trans (n1.2.1.trans n0.2.1), ?_, fun j' hj' => ?_⟩
    · unfold Jw_isMade_L157 Jw_isMade_J184 Jw_isMade_J196 Jw_isMade_J216 Jw_isMade_J237 ltW
      simp only [e0, bd_some, c1, c2, c3, if_true, if_false, ok0, ib, cl, Bool.and_self, cond_true, e1, e2, i1, nI_add, eq_self]
      rw [show cj s (arN (s.2.1 g)) x y z i = j from (if_pos q).trans (kN_of dj), show lp ln (arN (s.2.1 g)) i (pt x y z i) = ln (pt x y z i) from if_pos q]
    · rw [n2.2.2 A hA, n1.2.2 A hA]
      show hset w0.2 A i (nI (pt x y z i)) A i = _
      rw [hset_at]
      exact congrArg nI (if_pos q).symm
    · rw [n2.2.2 A hA, n1.2.2 A hA]
      show hset w0.2 A i (nI (pt x y z i)) A j' = _
      rw [hset_ne2 hj', n0.2.2 A hA]
  · have pvq : pv (arN (s.2.1 g)) i (pt x y z i) = -1 := if_neg q
    rw [pvq] at e0
    have I1 : W2 (s, u, U, m, T) b (w0.1, hset w0.2 A i 0) := W2_fr _ (fun p hp => hset_ne (by omega)) n0.1
    have c1 : (-1 : Int32) < 0 := by decide
    have c2 : ¬ nI i < nI (arN (s.2.1 g)) := nI_nlt (by omega) (by omega)
    have c3 : nI i < 3 := nI_lt (b := 3) hi (by decide)
    refine ⟨_, ?_, I1, n0.2.1, ?_, fun j' hj' => ?_⟩
    · unfold Jw_isMade_L157 Jw_isMade_J184 Jw_isMade_J196 Jw_isMade_J216 Jw_isMade_J237 ltW
      simp only [e0, bd_some, c1, c2, c3, if_true, if_false, ok0, ib, cl, Bool.and_self, cond_true, i1, eq_self]
      rw [show cj s (arN (s.2.1 g)) x y z i = 0 from if_neg q, show lp ln (arN (s.2.1 g)) i (pt x y z i) = 0 from if_neg q]
      all_goals rfl
    · show hset w0.2 A i 0 A i = _
      rw [hset_at, show pz (arN (s.2.1 g)) x y z i = 0 from if_neg q]
      rfl
    · show hset w0.2 A i 0 A j' = _
      rw [hset_ne2 hj', n0.2.2 A hA]
theorem wput_at {f x y z : Nat} (hf : f < 256) (hx : x < 256) (hy : y < 256) (hz : z < 256) : Jw_putOn (nI f) (nI x) (nI y) (nI z) = some (nI (pN f x y z)) := by
  unfold Jw_putOn
  obtain ⟨r, h1, h2⟩ := loop_cnt (fun s => Jw_putOn_L6 (nI f) (nI x) (nI y) (nI z) s.1 s.2) (fun i s => s = (nI (pB i f x y z), nI i)) (fun r => r = (nI (pB 8 f x y z), nI 8)) 8 (fun i s hi hs => by
    subst hs
    refine Or.inl ⟨_, ?_, rfl⟩
    show Jw_putOn_L6 (nI f) (nI x) (nI y) (nI z) (nI (pB i f x y z)) (nI i) = _
    unfold Jw_putOn_L6
    refine (if_pos (nI_lt hi (by omega))).trans ?_
    have bt : ∀ {a : Nat}, a < 256 → (nI a >>> (nI i &&& 31) : Int32) &&& (1 : Int32) = nI (tl a i) := fun ha => by
      rw [nI_shr (by omega) (by omega), lit 1, nI_and]
      rfl
    rw [bt hx, bt hy, bt hz, lit 2, lit 1, nI_shl (tl_shl (tl_le _ _) (by omega)) (by omega), nI_shl (tl_shl (tl_le _ _) (by omega)) (by omega), nI_or, nI_or, or3 (tl_le x i) (tl_le y i) (tl_le z i)]
    have lt8 := idx_lt (tl_le x i) (tl_le y i) (tl_le z i)
    have b2 : (nI f >>> (nI (4 * tl x i + 2 * tl y i + tl z i) &&& 31) : Int32) &&& nI 1 = nI (tl f (4 * tl x i + 2 * tl y i + tl z i)) := by
      rw [nI_shr (by omega) (by omega), nI_and]
      rfl
    rw [b2, nI_shl (tl_shl (tl_le _ _) (by omega)) (by omega), nI_or, ← pB_succ, nI_add]) (fun s hs => by
    subst hs
    refine ⟨_, ?_, rfl⟩
    show Jw_putOn_L6 (nI f) (nI x) (nI y) (nI z) (nI (pB 8 f x y z)) (nI 8) = _
    unfold Jw_putOn_L6
    exact if_neg (nI_nlt (Nat.le_refl 8) (by omega))) (F := 1000000) (by omega) (a := 0) (Nat.zero_le 8) (s := (0, 0)) rfl
  refine (bd_of h1).trans ?_
  rw [h2]
  rfl
theorem made_hi (I : W2 (s, u, U, m, T) b w) {c k : Nat} (hc : c < 256) (e : FC s c = some k) (pos : 0 < k) : ∃ w', Jw_isMade (w.1.length + 74) (nI c) w = some (1, w') ∧ W2 (s, u, U, m, T) b w' ∧ w'.1 = w.1 ++ [.inr (false, 3)] := by
  have hs : okS s := cI_s I.1
  have kl := FC_le e
  obtain ⟨ln, L⟩ := ln_ex hs
  obtain ⟨g, x, y, z, t, p⟩ := pts_ex hs hc e pos
  have hg : g < s.1 := t.1.1
  have hf := hs.2.1 g hg
  have ar3 := ar_le _ hf
  obtain ⟨ws, wp⟩ := way_is hf kl p.1
  have bl := base_lt hs
  have h6 := hs.1
  obtain ⟨w0, e0, n0⟩ := oc_0 I hc
  rw [coV_some e] at e0
  obtain ⟨r1, w1, e1, n1, -, p1⟩ := oc_1 n0.1 hc
  obtain ⟨g', t', rfl⟩ := p1 k e pos
  have := isTop_uniq t t'
  subst this
  obtain ⟨w2, e2, n2⟩ := (o_told n1.1).1
  obtain ⟨w3, e3, n3⟩ := (o_told n2.1).2.1
  obtain ⟨w4, e4, n4⟩ := (o_fun n3.1 hg).2
  have l4 : w4.1 = w.1 := n4.2.1.trans (n3.2.1.trans (n2.2.1.trans (n1.2.1.trans n0.2.1)))
  obtain ⟨A, eA⟩ : ∃ A, A = w.1.length + 74 := ⟨_, rfl⟩
  have hA : 74 ≤ A := by omega
  obtain ⟨w5, e5⟩ : ∃ w5 : Wd, w5 = (w4.1 ++ [.inr (false, 3)], hnew w4.2 A) := ⟨_, rfl⟩
  have I5 : W2 (s, u, U, m, T) b w5 := by rw [e5]; exact W2_fr _ (fun p hp => hnew_ne (by omega)) n4.1
  have l5 : w5.1 = w.1 ++ [.inr (false, 3)] := by rw [e5]; exact congrArg (· ++ [.inr (false, 3)]) l4
  have okA : arrOk (w.1 ++ [.inr (false, 3)]) A = true := by rw [eA]; exact arrOk_at w.1
  obtain ⟨w6, e6, I6, l6, a6, -⟩ := made_st (v2 := nI k) (v3 := nI g) (S := 1) (Lm := 1) (i := 0) I5 hA (by rw [l5]; exact okA) hc e pos t p L ar3 (by omega)
  obtain ⟨w7, e7, I7, l7, a7, f7⟩ := made_st (v2 := nI k) (v3 := nI g) (S := 1 + cj s (arN (s.2.1 g)) x y z 0) (Lm := 1 + lp ln (arN (s.2.1 g)) 0 (pt x y z 0)) (i := 1) I6 hA (by rw [l6, l5]; exact okA) hc e pos t p L ar3 (by omega)
  obtain ⟨w8, e8, I8, l8, a8, f8⟩ := made_st (v2 := nI k) (v3 := nI g) (S := 1 + cj s (arN (s.2.1 g)) x y z 0 + cj s (arN (s.2.1 g)) x y z 1) (Lm := 1 + lp ln (arN (s.2.1 g)) 0 (pt x y z 0) + lp ln (arN (s.2.1 g)) 1 (pt x y z 1)) (i := 2) I7 hA (by rw [l7, l6, l5]; exact okA) hc e pos t p L ar3 (by omega)
  have lnc : ln c = 1 + lp ln (arN (s.2.1 g)) 0 (pt x y z 0) + lp ln (arN (s.2.1 g)) 1 (pt x y z 1) + lp ln (arN (s.2.1 g)) 2 (pt x y z 2) := (L c hc k e).2 g x y z pos t p
  rw [ws, ← lnc] at e8
  have e9 : Jw_isMade_L157 A (nI c) (nI k) (nI g) (nI (arN (s.2.1 g))) (nI k) (nI (ln c)) (nI 3) w8 = some (.inr (.inl (nI k, nI (ln c), nI 3, w8))) := by
    unfold Jw_isMade_L157
    rw [if_neg (show ¬ nI 3 < (3 : Int32) by decide)]
  have lp : loopN 1000000 (fun t : Int32 × Int32 × Int32 × Wd => Jw_isMade_L157 A (nI c) (nI k) (nI g) (nI (arN (s.2.1 g))) t.1 t.2.1 t.2.2.1 t.2.2.2) (1, 1, 0, w5) = some (.inl (nI k, nI (ln c), nI 3, w8)) :=
    (loopN_in (f := fun t : Int32 × Int32 × Int32 × Wd => Jw_isMade_L157 A (nI c) (nI k) (nI g) (nI (arN (s.2.1 g))) t.1 t.2.1 t.2.2.1 t.2.2.2) (s := (1, 1, 0, w5)) e6 999999).trans ((loopN_in (f := fun t : Int32 × Int32 × Int32 × Wd => Jw_isMade_L157 A (nI c) (nI k) (nI g) (nI (arN (s.2.1 g))) t.1 t.2.1 t.2.2.1 t.2.2.2) e7 999998).trans ((loopN_in (f := fun t : Int32 × Int32 × Int32 × Wd => Jw_isMade_L157 A (nI c) (nI k) (nI g) (nI (arN (s.2.1 g))) t.1 t.2.1 t.2.2.1 t.2.2.2) e8 999997).trans (loopN_out (f := fun t : Int32 × Int32 × Int32 × Wd => Jw_isMade_L157 A (nI c) (nI k) (nI g) (nI (arN (s.2.1 g))) t.1 t.2.1 t.2.2.1 t.2.2.2) (s := (nI k, nI (ln c), nI 3, w8)) e9 999996)))
  have lw8 : w8.1 = w.1 ++ [.inr (false, 3)] := l8.trans (l7.trans (l6.trans l5))
  obtain ⟨ln', r9, w9, L', e10, n10, -, q10⟩ := oc_5 I8 hc
  rw [q10 k e, ln_uniq hs L' L k c hc e] at e10
  obtain ⟨w10, e11, n11⟩ := (o_fun n10.1 hg).1
  have l10 : w10.1 = w.1 ++ [.inr (false, 3)] := n11.2.1.trans (n10.2.1.trans lw8)
  have A10 : ∀ j, w10.2 A j = w8.2 A j := fun j => by rw [n11.2.2 A hA, n10.2.2 A hA]
  have a0 : w10.2 A 0 = nI (pz (arN (s.2.1 g)) x y z 0) := by rw [A10, f8 0 (by decide), f7 0 (by decide), a6]
  have a1 : w10.2 A 1 = nI (pz (arN (s.2.1 g)) x y z 1) := by rw [A10, f8 1 (by decide), a7]
  have a2 : w10.2 A 2 = nI (pz (arN (s.2.1 g)) x y z 2) := by rw [A10, a8]
  have pz256 : ∀ i, i < 3 → pz (arN (s.2.1 g)) x y z i < 256 := fun i hi => by
    unfold pz
    by_cases q : i < arN (s.2.1 g)
    · rw [if_pos q]; exact (pt_low kl p.1 hi q).1
    · rw [if_neg q]; decide
  have pu := wput_at hf (pz256 0 (by omega)) (pz256 1 (by omega)) (pz256 2 (by omega))
  rw [wp] at pu
  obtain ⟨g2, w11, t2, e12, n12⟩ := o_spell n11.1 hc e pos
  have := isTop_uniq t t2
  subst this
  obtain ⟨w12, e13, n13⟩ := o_spelN n12.1 hc e pos L
  have ok10 : arrOk w10.1 A = true := by rw [l10]; exact okA
  refine ⟨w12, ?_, n13.1, n13.2.1.trans (n12.2.1.trans l10)⟩
  have c1 : ¬ nI k < 1 := nI_nlt (b := 1) (by omega) (by omega)
  have c2 : ¬ nI g < 0 := nI_pos (by omega)
  have c3 : nI g < nI s.1 := nI_lt hg (by omega)
  have c4 : (nI s.2.2 >>> (nI g &&& 31) : Int32) &&& (1 : Int32) = 1 := by
    rw [nI_shr (by omega) (by omega), lit 1, nI_and]
    exact congrArg nI t.1.2
  have beq : Nat.beq A (w4.1.length + 74) = true := by rw [l4, eA]; exact Nat.beq_refl _
  have z0 : Int32.toNatClampNeg (0 : Int32) = 0 := by decide
  have z1 : Int32.toNatClampNeg (1 : Int32) = 1 := by decide
  have z2 : Int32.toNatClampNeg (2 : Int32) = 2 := by decide
  have i0 : ibB 0 3 = true := by decide
  have i1 : ibB 1 3 = true := by decide
  have i2 : ibB 2 3 = true := by decide
  rw [← eA]
  unfold Jw_isMade ltW
  simp only [e0, e1, e2, e3, e4, bd_some, c1, c2, c3, c4, one0, if_true, if_false, beq, cond_true, ← e5, lp, sm_l, eq_self, e10, e11, ok10, i0, i1, i2, Bool.and_self, z0, z1, z2, a0, a1, a2, pu, e12, e13]
theorem made_at (I : W2 (s, u, U, m, T) b w) {n c : Nat} (hc : c < 256) (hw : w.1 = List.replicate n (.inr (false, 3))) : ∃ w' n', Jw_isMade (w.1.length + 74) (nI c) w = some (1, w') ∧ W2 (s, u, U, m, T) b w' ∧ w'.1 = List.replicate n' (.inr (false, 3)) ∧ n' ≤ n + 1 := by
  have lo : (FC s c = none ∨ FC s c = some 0) → ∃ w' n', Jw_isMade (w.1.length + 74) (nI c) w = some (1, w') ∧ W2 (s, u, U, m, T) b w' ∧ w'.1 = List.replicate n' (.inr (false, 3)) ∧ n' ≤ n + 1 := fun q => by
    obtain ⟨w', e, n1⟩ := made_lo I hc q (w.1.length + 74)
    exact ⟨w', n, e, n1.1, n1.2.1.trans hw, by omega⟩
  cases e : FC s c with
  | none => exact lo (Or.inl e)
  | some k =>
    rcases Nat.eq_zero_or_pos k with z | z
    · subst z
      exact lo (Or.inr e)
    · obtain ⟨w', e1, I1, l1⟩ := made_hi I hc e z
      refine ⟨w', n + 1, e1, I1, ?_, Nat.le_refl _⟩
      rw [l1, hw, List.replicate_succ']
end MADE
