/-! Deeds: what is common to them; put, turn. -/
theorem pushC {h : Hp} {s : Sh} {m : Nat} {T : Nat → Nat} {F : Int32} {n : Nat} {K : Nat → Nat} {V : Nat → Int32} {sd : Int32} {u : Nat} {U : Nat → Sh} {G : Nat → Bool} {I : Nat → Sh} {E : Nat → Nat} (ok : okSt (s, (m, T), F, (n, K, V), sd, (u, U), (G, I, E))) (c : clI h (s, (m, T), F, (n, K, V), sd, (u, U), (G, I, E))) : ∃ h1, Jpa_push h = some h1 ∧ clI h1 (s, (m, T), F, (n, K, V), sd, (pushN u, pushU s U), (G, I, E)) ∧ ∀ p, (p < 31 ∨ 34 < p) → h1 p = h p := by
  obtain ⟨c1, c2, c3, c4, c5, c6, c7, c8, c9⟩ := c
  obtain ⟨o1, o2, o3, o4, o5, o6⟩ := ok
  obtain ⟨h1, a1, a2, a3⟩ := push_at c1 o1.1 c6 o5 c7 o6
  have w := FJpa_push _ _ a1
  have f : ∀ p, (p < 31 ∨ 34 < p) → h1 p = h p := fun p hp => w p (by
    intro z
    rw [show SJpa_push = [31, 32, 33, 34] from rfl] at z
    simp only [List.mem_cons, List.not_mem_nil, or_false] at z
    omega)
  refine ⟨h1, a1, ⟨shC_fr (f 29 (by decide)) (f 30 (by decide)) c1, txC_fr (f 1 (by decide)) (f 2 (by decide)) c2, ?_, bkC_fr (f 26 (by decide)) (f 27 (by decide)) (f 28 (by decide)) c4, ?_, a2, a3, CP_fr (f 4 (by decide)) (f 5 (by decide)) (f 6 (by decide)) (f 7 (by decide)) (f 8 (by decide)) c8, CW_fr2 (fun p q1 q2 => f p (by omega)) c9⟩, f⟩
  · rw [f 0 (by decide)]; exact c3
  · rw [f 0 (by decide)]; exact c5
theorem shelfC {h h' : Hp} {s s' : Sh} {m : Nat} {T : Nat → Nat} {F : Int32} {n : Nat} {K : Nat → Nat} {V : Nat → Int32} {sd : Int32} {u : Nat} {U : Nat → Sh} {G : Nat → Bool} {I : Nat → Sh} {E : Nat → Nat} (f : ∀ p, p ≠ 29 → p ≠ 30 → p < 37 → h' p = h p) (w : shC h' s') (c : clI h (s, (m, T), F, (n, K, V), sd, (u, U), (G, I, E))) : clI h' (s', (m, T), F, (n, K, V), sd, (u, U), (G, I, E)) := by
  obtain ⟨c1, c2, c3, c4, c5, c6, c7, c8, c9⟩ := c
  have e : ∀ {p}, p ≠ 29 → p ≠ 30 → p < 37 → h' p = h p := fun a b d => f _ a b d
  refine ⟨w, txC_fr (e (by decide) (by decide) (by decide)) (e (by decide) (by decide) (by decide)) c2, ?_, bkC_fr (e (by decide) (by decide) (by decide)) (e (by decide) (by decide) (by decide)) (e (by decide) (by decide) (by decide)) c4, ?_, undC_fr (e (by decide) (by decide) (by decide)) (e (by decide) (by decide) (by decide)) (e (by decide) (by decide) (by decide)) (e (by decide) (by decide) (by decide)) c6, imC_fr (e (by decide) (by decide) (by decide)) (e (by decide) (by decide) (by decide)) (e (by decide) (by decide) (by decide)) (e (by decide) (by decide) (by decide)) (e (by decide) (by decide) (by decide)) c7, CP_fr (e (by decide) (by decide) (by decide)) (e (by decide) (by decide) (by decide)) (e (by decide) (by decide) (by decide)) (e (by decide) (by decide) (by decide)) (e (by decide) (by decide) (by decide)) c8, CW_fr2 (fun p q1 q2 => f p (by omega) (by omega) (by omega)) c9⟩
  · rw [f 0 (by decide) (by decide) (by decide)]; exact c3
  · rw [f 0 (by decide) (by decide) (by decide)]; exact c5
theorem addC {h : Hp} {s : Sh} {m : Nat} {T : Nat → Nat} {F : Int32} {n : Nat} {K : Nat → Nat} {V : Nat → Int32} {sd : Int32} {u : Nat} {U : Nat → Sh} {G : Nat → Bool} {I : Nat → Sh} {E : Nat → Nat} (c : clI h (s, (m, T), F, (n, K, V), sd, (u, U), (G, I, E))) (hn : s.1 < 6) (v : Nat) : ∃ h1, Jsh_add (nI v) h = some (nI s.1, h1) ∧ clI h1 (addS s v, (m, T), F, (n, K, V), sd, (u, U), (G, I, E)) ∧ ∀ p, p ≠ 29 → p ≠ 30 → h1 p = h p := by
  have f : ∀ p, p ≠ 29 → p ≠ 30 → (hset (hset h 30 s.1 (nI v)) 29 1 (nI (s.1 + 1))) p = h p := fun p a b => by rw [hset_ne a, hset_ne b]
  exact ⟨_, add_at c.1 hn v, shelfC (fun p a b _ => f p a b) (add_sh c.1 v) c, f⟩
theorem rememberM {h : Hp} {s : Sh} {m : Nat} {T : Nat → Nat} {F : Int32} {n : Nat} {K : Nat → Nat} {V : Nat → Int32} {sd : Int32} {u : Nat} {U : Nat → Sh} {G : Nat → Bool} {I : Nat → Sh} {E : Nat → Nat} (ok : okSt (s, (m, T), F, (n, K, V), sd, (u, U), (G, I, E))) (d : mdI h (s, (m, T), F, (n, K, V), sd, (u, U), (G, I, E))) : ∃ h1, Jm_remember h = some h1 ∧ mdI h1 (s, (m, T), F, (n, K, V), sd, (pushN u, pushU s U), (G, I, E)) ∧ h1 37 23 = nI 0 ∧ ∀ p, p ≠ 37 → p ≠ 38 → h1 p = h p := by
  obtain ⟨d1, d2, d3, d4, d5, d6, d7, d8⟩ := d
  obtain ⟨o1, o2, o3, o4, o5, o6⟩ := ok
  obtain ⟨h1, a1, a2, a3, a4, a5, a6⟩ := remember_at d1.1 o1.1 d6 o5 d7 o6
  have w := FJm_remember _ _ a1
  have f : ∀ p, p ≠ 37 → p ≠ 38 → h1 p = h p := fun p x y => w p (by
    intro z
    rw [show SJm_remember = [37, 38] from rfl] at z
    simp only [List.mem_cons, List.not_mem_nil, or_false] at z
    omega)
  exact ⟨h1, a1, ⟨⟨a2, Or.inl a5⟩, txM_fr (a6 6 (by decide) (by decide)) (f 40 (by decide) (by decide)) d2, (a6 7 (by decide) (by decide)).trans d3, bkM_fr (a6 10 (by decide) (by decide)) (f 41 (by decide) (by decide)) (f 42 (by decide) (by decide)) d4, (a6 3 (by decide) (by decide)).trans d5, a3, a4, MC_fr (a6 12 (by decide) (by decide)) (f 43 (by decide) (by decide)) (a6 14 (by decide) (by decide)) (f 44 (by decide) (by decide)) (a6 16 (by decide) (by decide)) (f 45 (by decide) (by decide)) d8⟩, a5, f⟩
theorem rowM_hi {h h' : Hp} {b : Nat} {s : Sh} (hs : s.1 ≤ 6) (hb : 8 ≤ b) (g : ∀ j, 8 ≤ j → h' 38 j = h 38 j) (hr : rowM h b s) : rowM h' b s := rowM_eq hs (fun i _ => g _ (by omega)) hr
theorem shelfM {h h' : Hp} {s s' : Sh} {m : Nat} {T : Nat → Nat} {F : Int32} {n : Nat} {K : Nat → Nat} {V : Nat → Int32} {sd : Int32} {u : Nat} {U : Nat → Sh} {G : Nat → Bool} {I : Nat → Sh} {E : Nat → Nat} (o5 : okU u U) (o6 : okE G I E) (f : ∀ p, p ≠ 38 → 36 < p → h' p = h p) (g : ∀ j, 8 ≤ j → h' 38 j = h 38 j) (z : h 37 23 = nI 0) (w : rowM h' 0 s') (d : mdI h (s, (m, T), F, (n, K, V), sd, (u, U), (G, I, E))) : mdI h' (s', (m, T), F, (n, K, V), sd, (u, U), (G, I, E)) := by
  obtain ⟨d1, d2, d3, d4, d5, d6, d7, d8⟩ := d
  have e37 : h' 37 = h 37 := f 37 (by decide) (by decide)
  refine ⟨⟨w, Or.inl (by rw [e37]; exact z)⟩, txM_fr (by rw [e37]) (f 40 (by decide) (by decide)) d2, by rw [e37]; exact d3, bkM_fr (by rw [e37]) (f 41 (by decide) (by decide)) (f 42 (by decide) (by decide)) d4, by rw [e37]; exact d5, ?_, ?_, MC_fr (by rw [e37]) (f 43 (by decide) (by decide)) (by rw [e37]) (f 44 (by decide) (by decide)) (by rw [e37]) (f 45 (by decide) (by decide)) d8⟩
  · refine ⟨by rw [e37]; exact d6.1, d6.2.1, fun j hj => rowM_hi (o5 j hj).1 (by omega) g (d6.2.2 j hj)⟩
  · refine ⟨by rw [e37]; exact d7.1, fun i hi q => ⟨rowM_hi (o6 i hi q).1.1 (by omega) g (d7.2 i hi q).1, by rw [f 39 (by decide) (by decide)]; exact (d7.2 i hi q).2⟩⟩
theorem addM {h : Hp} {s : Sh} {m : Nat} {T : Nat → Nat} {F : Int32} {n : Nat} {K : Nat → Nat} {V : Nat → Int32} {sd : Int32} {u : Nat} {U : Nat → Sh} {G : Nat → Bool} {I : Nat → Sh} {E : Nat → Nat} (ok : okSt (s, (m, T), F, (n, K, V), sd, (u, U), (G, I, E))) (d : mdI h (s, (m, T), F, (n, K, V), sd, (u, U), (G, I, E))) (hn : s.1 < 6) (v : Nat) : ∃ h1, Jm_add (nI v) h = some (nI s.1, h1) ∧ mdI h1 (addS s v, (m, T), F, (n, K, V), sd, (pushN u, pushU s U), (G, I, E)) ∧ ∀ p, p ≠ 37 → p ≠ 38 → h1 p = h p := by
  obtain ⟨h1, a1, a2, a3, a4⟩ := rememberM ok d
  have row : rowM h1 0 s := a2.1.1
  obtain ⟨h2, e2⟩ : ∃ y, y = hset h1 38 0 (nI (s.1 + 1)) := ⟨_, rfl⟩
  obtain ⟨h3, e3⟩ : ∃ y, y = hset h2 38 (s.1 + 1) (nI v) := ⟨_, rfl⟩
  have z2 : h2 38 0 = nI (s.1 + 1) := by rw [e2, hset_at]
  have z3 : h3 38 0 = nI (s.1 + 1) := by rw [e3, hset_ne2 (by omega), z2]
  have f3 : ∀ p, p ≠ 38 → h3 p = h1 p := fun p hp => by rw [e3, hset_ne hp, e2, hset_ne hp]
  have g3 : ∀ j, j ≠ 0 → j ≠ s.1 + 1 → h3 38 j = h1 38 j := fun j p q => by rw [e3, hset_ne2 q, e2, hset_ne2 p]
  refine ⟨h3, ?_, shelfM (okU_push ok.1 ok.2.2.2.2.1) ok.2.2.2.2.2 (fun p hp _ => f3 p hp) (fun j hj => g3 j (by omega) (by omega)) a3 ⟨z3, ?_, fun i hi => ?_⟩ a2, fun p p1 p2 => (f3 p p2).trans (a4 p p1 p2)⟩
  · unfold Jm_add
    rw [a1, bd_some, row.1, lt_of', show nI s.1 + (1 : Int32) = nI (s.1 + 1) from nI_add _ 1, ← e2, z2, ib_nI (by omega) (by omega), cond_true, lt_of', nI_clamp (by omega), ← e3, z3, show nI (s.1 + 1) - (1 : Int32) = nI (s.1 + 1 - 1) from nI_sub (b := 1) (by omega), Nat.add_sub_cancel]
  · rw [g3 _ (by omega) (by omega)]; exact row.2.1
  · show h3 38 (0 + 1 + i) = nI (if i = s.1 then v else s.2.1 i)
    by_cases q : i = s.1
    · rw [if_pos q, e3, q, show 0 + 1 + s.1 = s.1 + 1 by omega, hset_at]
    · rw [if_neg q, g3 _ (by omega) (by omega)]
      exact row.2.2 i (by have : i < s.1 + 1 := hi; omega)
theorem fn_or {h h' : Hp} {s : Sh} (hS : shC h s) (hm : rowM h' 0 s) (hn : s.1 ≤ 6) (v : Int32) : (∃ k, k < s.1 ∧ v = nI k ∧ Jsh_holds v h = some 1 ∧ Jm_isFunction v h' = some 1) ∨ (Jsh_holds v h = some 0 ∧ Jm_isFunction v h' = some 0) := by
  rcases f_or hn v with ⟨k, hk, rfl⟩ | hv
  · exact Or.inl ⟨k, hk, rfl, holds_yes hS hn hk, isFn_yes hm hn hk⟩
  · exact Or.inr ⟨holds_no hS hn hv, isFn_no hm hn hv⟩
theorem put_inv {h : Hp} (v x y z : Int32) (H : Inv h) : ∃ r h1 h2, Jyn_put v x y z h = some (r, h1) ∧ Jm_put v x y z h1 = some (r, h2) ∧ Inv h2 := by
  obtain ⟨⟨s, ⟨m, T⟩, F, ⟨n, K, V⟩, sd, ⟨u, U⟩, ⟨G, I, E⟩⟩, ok, c, d⟩ := id H
  have hS := c.1
  have hm : rowM h 0 s := d.1.1
  have hn := ok.1.1
  rcases fn_or hS hm hn v with ⟨k1, l1, rfl, y1, w1⟩ | ⟨y1, w1⟩
  · rcases fn_or hS hm hn x with ⟨k2, l2, rfl, y2, w2⟩ | ⟨y2, w2⟩
    · rcases fn_or hS hm hn y with ⟨k3, l3, rfl, y3, w3⟩ | ⟨y3, w3⟩
      · rcases fn_or hS hm hn z with ⟨k4, l4, rfl, y4, w4⟩ | ⟨y4, w4⟩
        · by_cases q : s.1 = 6
          · refine ⟨-1000000004, h, h, ?_, ?_, H⟩
            · unfold Jyn_put
              rw [y1, bd_some, if_neg one0, y2, bd_some, if_neg one0, y3, bd_some, if_neg one0, y4, bd_some, if_neg one0, isFull_at hS hn, bd_some, if_neg (by omega : ¬ s.1 < 6), if_neg n1_0]
            · unfold Jm_put
              rw [w1, bd_some, if_neg one0, w2, bd_some, if_neg one0, w3, bd_some, if_neg one0, w4, bd_some, if_neg one0, hm.1, q, if_pos (show nI 6 = (6 : Int32) from rfl)]
          · have hl : s.1 < 6 := by omega
            obtain ⟨h1, a1, a2, a3⟩ := pushC ok c
            have ok1 : okSt (s, (m, T), F, (n, K, V), sd, (pushN u, pushU s U), (G, I, E)) := ⟨ok.1, ok.2.1, ok.2.2.1, ok.2.2.2.1, okU_push ok.1 ok.2.2.2.2.1, ok.2.2.2.2.2⟩
            have r1 := ok.1.2.1 k1 l1
            have r2 := ok.1.2.1 k2 l2
            have r3 := ok.1.2.1 k3 l3
            have r4 := ok.1.2.1 k4 l4
            obtain ⟨co, eco⟩ : ∃ w, w = pN (s.2.1 k1) (s.2.1 k2) (s.2.1 k3) (s.2.1 k4) := ⟨_, rfl⟩
            have hco : co < 256 := by rw [eco]; exact pN_lt _ _ _ _
            obtain ⟨h2, b1, b2, b3⟩ := addC a2 hl co
            have d2 := mdI_C (h := h) (h' := h2) (fun p hp => (b3 p (by omega) (by omega)).trans (a3 p (by omega))) d
            obtain ⟨h3, e1, e2, e3⟩ := addM ok d2 hl co
            have hm2 : rowM h2 0 s := d2.1.1
            obtain ⟨t1, t1'⟩ := fnM hm2 hn l1
            obtain ⟨t2, t2'⟩ := fnM hm2 hn l2
            obtain ⟨t3, t3'⟩ := fnM hm2 hn l3
            obtain ⟨t4, t4'⟩ := fnM hm2 hn l4
            refine ⟨nI s.1, h2, h3, ?_, ?_, (addS s co, (m, T), F, (n, K, V), sd, (pushN u, pushU s U), (G, I, E)), ⟨add_ok ok.1 hl hco, ok1.2⟩, clI_M (fun p hp => e3 p (by omega) (by omega)) b2, e2⟩
            · unfold Jyn_put
              rw [y1, bd_some, if_neg one0, y2, bd_some, if_neg one0, y3, bd_some, if_neg one0, y4, bd_some, if_neg one0, isFull_at hS hn, bd_some, if_pos hl, if_pos n0_0, a1, bd_some, codeAt_in a2.1 hn l1, bd_some, codeAt_in a2.1 hn l2, bd_some, codeAt_in a2.1 hn l3, bd_some, codeAt_in a2.1 hn l4, bd_some, Jco_putOn_at (by omega) (by omega) (by omega) (by omega), bd_some, ← eco, b1, bd_some]
            · unfold Jm_put
              rw [isFn_yes hm2 hn l1, bd_some, if_neg one0, isFn_yes hm2 hn l2, bd_some, if_neg one0, isFn_yes hm2 hn l3, bd_some, if_neg one0, isFn_yes hm2 hn l4, bd_some, if_neg one0, hm2.1, if_neg (show ¬ nI s.1 = (6 : Int32) from fun w => q ((nI_eq (b := 6) (by omega) (by decide)).mp w)), t1, cond_true, t2, cond_true, t3, cond_true, t4, cond_true, t1', t2', t3', t4', Jm_putOn_at (by omega) (by omega) (by omega) (by omega), bd_some, ← eco, e1, bd_some]
        · refine ⟨-1000000001, h, h, ?_, ?_, H⟩
          · unfold Jyn_put
            rw [y1, bd_some, if_neg one0, y2, bd_some, if_neg one0, y3, bd_some, if_neg one0, y4, bd_some, if_pos rfl]
          · unfold Jm_put
            rw [w1, bd_some, if_neg one0, w2, bd_some, if_neg one0, w3, bd_some, if_neg one0, w4, bd_some, if_pos rfl]
      · refine ⟨-1000000001, h, h, ?_, ?_, H⟩
        · unfold Jyn_put
          rw [y1, bd_some, if_neg one0, y2, bd_some, if_neg one0, y3, bd_some, if_pos rfl]
        · unfold Jm_put
          rw [w1, bd_some, if_neg one0, w2, bd_some, if_neg one0, w3, bd_some, if_pos rfl]
    · refine ⟨-1000000001, h, h, ?_, ?_, H⟩
      · unfold Jyn_put
        rw [y1, bd_some, if_neg one0, y2, bd_some, if_pos rfl]
      · unfold Jm_put
        rw [w1, bd_some, if_neg one0, w2, bd_some, if_pos rfl]
  · refine ⟨-1000000001, h, h, ?_, ?_, H⟩
    · unfold Jyn_put
      rw [y1, bd_some, if_pos rfl]
    · unfold Jm_put
      rw [w1, bd_some, if_pos rfl]
def chgS (s : Sh) (k v : Nat) : Sh := (s.1, fun i => if i = k then v else s.2.1 i, s.2.2)
theorem chg_ok {s : Sh} (hs : okS s) {k v : Nat} (hv : v < 256) : okS (chgS s k v) := by
  refine ⟨hs.1, fun i hi => ?_, hs.2.2⟩
  show (if i = k then v else s.2.1 i) < 256
  by_cases q : i = k
  · rw [if_pos q]; exact hv
  · rw [if_neg q]; exact hs.2.1 i hi
theorem turn_inv {h : Hp} (v : Int32) (H : Inv h) : ∃ r h1 h2, Jyn_turn v h = some (r, h1) ∧ Jm_turn v h1 = some (r, h2) ∧ Inv h2 := by
  obtain ⟨⟨s, ⟨m, T⟩, F, ⟨n, K, V⟩, sd, ⟨u, U⟩, ⟨G, I, E⟩⟩, ok, c, d⟩ := id H
  have hS := c.1
  have hm : rowM h 0 s := d.1.1
  have hn := ok.1.1
  rcases fn_or hS hm hn v with ⟨k, hk, rfl, y1, w1⟩ | ⟨y1, w1⟩
  · obtain ⟨h1, a1, a2, a3⟩ := pushC ok c
    have ok1 : okSt (s, (m, T), F, (n, K, V), sd, (pushN u, pushU s U), (G, I, E)) := ⟨ok.1, ok.2.1, ok.2.2.1, ok.2.2.2.1, okU_push ok.1 ok.2.2.2.2.1, ok.2.2.2.2.2⟩
    have hc := ok.1.2.1 k hk
    obtain ⟨u1, u2, u3, u4, u5, u6, u7, u8⟩ := pu_at hc
    obtain ⟨co, eco⟩ : ∃ w, w = tnN (s.2.1 k) := ⟨_, rfl⟩
    have hco : co < 256 := by rw [eco]; exact (ta_at hc).2.2.2.1
    obtain ⟨h2, e2⟩ : ∃ y, y = hset h1 30 k (nI co) := ⟨_, rfl⟩
    have f2 : ∀ p, p ≠ 30 → h2 p = h1 p := fun p hp => by rw [e2, hset_ne hp]
    have s2 : shC h2 (chgS s k co) := by
      refine ⟨by rw [f2 29 (by decide)]; exact a2.1.1, by rw [f2 29 (by decide)]; exact a2.1.2.1, fun i hi => ?_⟩
      show h2 30 i = nI (if i = k then co else s.2.1 i)
      by_cases q : i = k
      · rw [if_pos q, e2, q, hset_at]
      · rw [if_neg q, e2, hset_ne2 q]; exact a2.1.2.2 i hi
    have c2 := shelfC (fun p p1 p2 _ => f2 p p2) s2 a2
    have d2 := mdI_C (h := h) (h' := h2) (fun p hp => (f2 p (by omega)).trans (a3 p (by omega))) d
    obtain ⟨h3, b1, b2, b3, b4⟩ := rememberM ok d2
    have row : rowM h3 0 s := b2.1.1
    obtain ⟨t1, t2⟩ := fnM row hn hk
    have i1 : (1 : Int32) + nI k = nI (1 + k) := nI_add 1 k
    rw [i1, nI_clamp (by omega)] at t2
    rw [i1] at t1
    obtain ⟨h4, e4⟩ : ∃ y, y = hset h3 38 (1 + k) (nI co) := ⟨_, rfl⟩
    have f4 : ∀ p, p ≠ 38 → h4 p = h3 p := fun p hp => by rw [e4, hset_ne hp]
    have g4 : ∀ j, j ≠ 1 + k → h4 38 j = h3 38 j := fun j p => by rw [e4, hset_ne2 p]
    refine ⟨nI co, h2, h4, ?_, ?_, (chgS s k co, (m, T), F, (n, K, V), sd, (pushN u, pushU s U), (G, I, E)), ⟨chg_ok ok.1 hco, ok1.2⟩, clI_M (fun p hp => (f4 p (by omega)).trans (b4 p (by omega) (by omega))) c2, shelfM ok1.2.2.2.2.1 ok1.2.2.2.2.2 (fun p hp _ => f4 p hp) (fun j hj => g4 j (by omega)) b3 ⟨?_, ?_, fun i hi => ?_⟩ b2⟩
    · unfold Jyn_turn
      rw [y1, bd_some, if_neg one0, a1, bd_some, codeAt_in a2.1 hn hk, bd_some, u5, bd_some, ← eco]
      unfold Jsh_change
      rw [holds_yes a2.1 hn hk, bd_some, if_neg one0, ib_nI (by omega) (by omega), cond_true, lt_of', nI_clamp (by omega), ← e2, bd_some]
    · unfold Jm_turn
      rw [isFn_yes d2.1.1 hn hk, bd_some, if_neg one0, b1, bd_some, i1, t1, cond_true, nI_clamp (by omega), t2, u6, bd_some, cond_true, lt_of', cond_true, ← eco, ← e4, e4, hset_at]
    · rw [g4 0 (by omega)]; exact row.1
    · rw [g4 _ (by omega)]; exact row.2.1
    · show h4 38 (0 + 1 + i) = nI (if i = k then co else s.2.1 i)
      by_cases q : i = k
      · rw [if_pos q, e4, q, show 0 + 1 + k = 1 + k by omega, hset_at]
      · rw [if_neg q, g4 _ (by omega)]
        exact row.2.2 i hi
  · refine ⟨-1000000001, h, h, ?_, ?_, H⟩
    · unfold Jyn_turn
      rw [y1, bd_some, if_pos rfl]
    · unfold Jm_turn
      rw [w1, bd_some, if_pos rfl]
