/-! Formulas: both go from the last letter back. -/
def stT (s : Sh) (T : Nat → Nat) (m : Nat) : Nat → Nat → Nat
  | 0 => fun _ => 0
  | t + 1 => fun j => if j = opN T (m - t) - wN (T (m - (t + 1))) then vaN s (T (m - (t + 1))) (stT s T m t (opN T (m - t) - 1)) (stT s T m t (opN T (m - t) - 2)) (stT s T m t (opN T (m - t) - 3)) else stT s T m t j
theorem stT_lt (s : Sh) (T : Nat → Nat) (m : Nat) : ∀ t j, stT s T m t j < 256
  | 0, _ => show 0 < 256 by decide
  | t + 1, j => by
    show (if j = opN T (m - t) - wN (T (m - (t + 1))) then vaN s (T (m - (t + 1))) (stT s T m t (opN T (m - t) - 1)) (stT s T m t (opN T (m - t) - 2)) (stT s T m t (opN T (m - t) - 3)) else stT s T m t j) < 256
    split
    · exact va_lt _ _ _ _ _
    · exact stT_lt s T m t j
theorem fa_ok {T : Nat → Nat} {z k : Nat} (hT : T k < 256) (h : faN T z k = 0) : 0 < opN T k ∧ wN (T k) ≤ 3 ∧ (isF (T k) = true → T k - 65 < z) := by
  unfold faN at h
  by_cases h1 : opN T k = 0
  · rw [if_pos h1] at h; cases h
  · rw [if_neg h1] at h
    by_cases h2 : wN (T k) = 9
    · rw [if_pos h2] at h; cases h
    · rw [if_neg h2] at h
      refine ⟨by omega, (we_at hT).2.2.2.2.1.resolve_right h2, fun f => ?_⟩
      by_cases h3 : z ≤ T k - 65
      · rw [if_pos ⟨f, h3⟩] at h; cases h
      · omega
theorem op_b {T : Nat → Nat} {m : Nat} (h0 : opN T m = 0) : ∀ t, t ≤ m → opN T (m - t) ≤ t
  | 0, _ => by rw [Nat.sub_zero, h0]; exact Nat.le_refl 0
  | t + 1, ht => by
    have ih := op_b h0 t (by omega)
    have e : opN T (m - t) = opN T (m - (t + 1)) + wN (T (m - (t + 1))) - 1 := by
      rw [show m - t = m - (t + 1) + 1 by omega]
      rfl
    omega
theorem valueC_at {h : Hp} {s : Sh} {m : Nat} {T : Nat → Nat} (hS : shC h s) (hs : okS s) (ht : txC h m T) (hm : m ≤ 60) (hT : ∀ i, i < m → T i < 256) (hf : ∀ j, j < m → faN T s.1 j = 0) (h0 : opN T m = 0) (pos : 0 < m) : ∃ h', Jfm_value h = some (nI (stT s T m m 0), h') ∧ ∀ q k, ¬ (q = 1 ∧ k = 3) → q ≠ 3 → h' q k = h q k := by
  obtain ⟨h1, e1⟩ : ∃ y, y = hset h 1 3 0 := ⟨_, rfl⟩
  have f1 : ∀ q k, ¬ (q = 1 ∧ k = 3) → h1 q k = h q k := fun q k w => by rw [e1, hset_if, if_neg w]
  have m1 : h1 1 2 = nI m := (f1 1 2 (by decide)).trans ht.1
  have mx : (if (60 : Int32) < nI m then 60 else nI m) = nI m := if_neg (show ¬ (60 : Int32) < nI m from nI_nlt (a := 60) hm (by decide))
  obtain ⟨r, l1, l2, l3⟩ := loop_cnt (fun x => Jfm_value_L17 x.1 x.2) (fun t x => x.1 = nI (m - t) - 1 ∧ SKC x.2 (opN T (m - t)) (stT s T m t) ∧ ∀ q k, ¬ (q = 1 ∧ k = 3) → q ≠ 3 → x.2 q k = h q k) (fun r => SKC r.2 (opN T 0) (stT s T m m) ∧ ∀ q k, ¬ (q = 1 ∧ k = 3) → q ≠ 3 → r.2 q k = h q k) m (fun t x hi hx => by
    obtain ⟨a, x⟩ := x
    obtain ⟨e, g1, g2⟩ := hx
    replace e : a = nI (m - t) - 1 := e
    replace g1 : SKC x (opN T (m - t)) (stT s T m t) := g1
    replace g2 : ∀ q k, ¬ (q = 1 ∧ k = 3) → q ≠ 3 → x q k = h q k := g2
    obtain ⟨i, ei⟩ : ∃ i, i = m - (t + 1) := ⟨_, rfl⟩
    have ea : a = nI i := by
      rw [e, show nI (m - t) - (1 : Int32) = nI (m - t - 1) from nI_sub (b := 1) (by omega), ei, Nat.sub_sub]
    subst ea
    have him : i < m := by omega
    have hl := hT i him
    obtain ⟨k1, k2, k3⟩ := fa_ok hl (hf i him)
    obtain ⟨w1, w2, w3, w4, w5, w6⟩ := we_at hl
    rw [if_neg (by omega)] at w1
    have ope : opN T (m - t) = opN T i + wN (T i) - 1 := by
      rw [show m - t = i + 1 by omega]
      rfl
    have ob := op_b h0 t (by omega)
    have ob2 := op_b h0 (t + 1) (by omega)
    rw [← ei] at ob2
    have le : x 2 i = nI (T i) := (g2 2 i (by omega) (by decide)).trans (ht.2 i him)
    have hx : shC x s := ⟨(g2 29 1 (by omega) (by decide)).trans hS.1, (g2 29 2 (by omega) (by decide)).trans hS.2.1, fun j hj => (g2 30 j (by omega) (by decide)).trans (hS.2.2 j hj)⟩
    have hco : coN s (T i) < 256 := by
      unfold coN
      split
      · rename_i f
        exact hs.2.1 _ (k3 f)
      · exact cf_lt _
    obtain ⟨h', c1, c2, c3⟩ := chainC (v2 := nI i) (l := nI (T i)) (w := wN (T i)) (co := coN s (T i)) g1 (by omega) k2 (by omega) (by omega) hco (stT_lt s T m t)
    have run : Jfm_value_L17 (nI i) x = some (.inl (nI i + (-1), h')) := by
      unfold Jfm_value_L17
      rw [if_neg (nI_pos (by omega)), ib_nI (by omega) (by omega), cond_true, nI_clamp (by omega), le, w1, bd_some, w3, bd_some]
      cases ef : isF (T i) with
      | false =>
        have ec : coN s (T i) = cfN (T i) := by unfold coN; rw [ef, if_neg (by decide)]
        rw [b01_f, if_pos n0_0, cf_at hl, bd_some]
        rw [ec] at c1
        exact c1
      | true =>
        obtain ⟨y1, y2⟩ := isF_t ef
        have ec : coN s (T i) = s.2.1 (T i - 65) := by unfold coN; rw [if_pos ef]
        rw [b01_t, if_neg n1_0, show nI (T i) - (65 : Int32) = nI (T i - 65) from nI_sub (b := 65) y1, codeAt_in hx hs.1 (k3 ef), bd_some]
        rw [ec] at c1
        exact c1
    refine Or.inl ⟨(nI i + (-1), h'), run, ?_, ?_, fun q k w z => (c3 q k w z).trans (g2 q k w z)⟩
    · show nI i + (-1 : Int32) = nI (m - (t + 1)) - 1
      rw [← ei, Int32.sub_eq_add_neg]
    · show SKC h' (opN T (m - (t + 1))) (stT s T m (t + 1))
      rw [← ei, show opN T i = opN T (m - t) - wN (T i) + 1 by omega]
      refine SKC_st (fun j hj => ?_) c2
      show (if j = opN T (m - t) - wN (T i) then (if wN (T i) = 0 then coN s (T i) else pN (coN s (T i)) (stT s T m t (opN T (m - t) - 1)) (if 1 < wN (T i) then stT s T m t (opN T (m - t) - 2) else 0) (if 2 < wN (T i) then stT s T m t (opN T (m - t) - 3) else 0)) else stT s T m t j) = (if j = opN T (m - t) - wN (T (m - (t + 1))) then vaN s (T (m - (t + 1))) (stT s T m t (opN T (m - t) - 1)) (stT s T m t (opN T (m - t) - 2)) (stT s T m t (opN T (m - t) - 3)) else stT s T m t j)
      rw [← ei]
      by_cases y : j = opN T (m - t) - wN (T i)
      · rw [if_pos y, if_pos y]
        unfold vaN
        by_cases z : wN (T i) = 0
        · rw [if_pos z, if_pos z]
          unfold coN
          rw [if_neg (fun f => by have := w6 f; omega)]
        · rw [if_neg z, if_neg z]
      · rw [if_neg y, if_neg y]) (fun x hx => by
    obtain ⟨a, x⟩ := x
    obtain ⟨e, g1, g2⟩ := hx
    replace e : a = nI (m - m) - 1 := e
    replace g1 : SKC x (opN T (m - m)) (stT s T m m) := g1
    rw [Nat.sub_self] at e g1
    refine ⟨(a, x), ?_, g1, g2⟩
    show Jfm_value_L17 a x = _
    unfold Jfm_value_L17
    rw [if_pos (show a < 0 by rw [e]; decide)]) (F := 1000000) (by omega) (a := 0) (Nat.zero_le m) (s := (nI m - 1, h1)) ⟨by rw [Nat.sub_zero], ⟨by
      show h1 1 3 = nI (opN T (m - 0))
      rw [e1, hset_at, Nat.sub_zero, h0]; rfl, fun j hj => by
      rw [Nat.sub_zero, h0] at hj
      exact absurd hj (Nat.not_lt_zero j)⟩, fun q k w z => f1 q k w⟩
  obtain ⟨h', p1, p2, p3⟩ := popC (d := 0) l2 (by decide)
  refine ⟨h', ?_, fun q k w z => (p3 q k w).trans (l3 q k w z)⟩
  unfold Jfm_value
  rw [lt_of', ← e1, m1, mx, l1, bd_some, p1, bd_some]
theorem worthM_at {h : Hp} {s : Sh} {m : Nat} {T : Nat → Nat} (hS : rowM h 0 s) (hs : okS s) (ht : txM h m T) (hm : m ≤ 60) (hT : ∀ i, i < m → T i < 256) (hf : ∀ j, j < m → faN T s.1 j = 0) (h0 : opN T m = 0) (pos : 0 < m) : ∃ h', Jm_worth h = some (nI (stT s T m m 0), h') ∧ ∀ q, q ≠ 52 → h' q = h q := by
  obtain ⟨r, l1, l2, l3⟩ := loop_cnt (fun x => Jm_worth_L9 x.1 x.2.1 x.2.2) (fun t x => x.1 = nI (opN T (m - t)) ∧ x.2.1 = nI (m - t) - 1 ∧ (∀ j, j < opN T (m - t) → x.2.2 52 j = nI (stT s T m t j)) ∧ ∀ q, q ≠ 52 → x.2.2 q = h q) (fun r => r.2.2 52 0 = nI (stT s T m m 0) ∧ ∀ q, q ≠ 52 → r.2.2 q = h q) m (fun t x hi hx => by
    obtain ⟨a0, a, x⟩ := x
    obtain ⟨e0, e, g1, g2⟩ := hx
    replace e0 : a0 = nI (opN T (m - t)) := e0
    subst e0
    replace e : a = nI (m - t) - 1 := e
    replace g1 : ∀ j, j < opN T (m - t) → x 52 j = nI (stT s T m t j) := g1
    replace g2 : ∀ q, q ≠ 52 → x q = h q := g2
    obtain ⟨i, ei⟩ : ∃ i, i = m - (t + 1) := ⟨_, rfl⟩
    have ea : a = nI i := by
      rw [e, show nI (m - t) - (1 : Int32) = nI (m - t - 1) from nI_sub (b := 1) (by omega), ei, Nat.sub_sub]
    subst ea
    have him : i < m := by omega
    have hl := hT i him
    obtain ⟨k1, k2, k3⟩ := fa_ok hl (hf i him)
    have ope : opN T (m - t) = opN T i + wN (T i) - 1 := by
      rw [show m - t = i + 1 by omega]
      rfl
    have ob := op_b h0 t (by omega)
    have le : x 40 i = nI (T i) := by rw [g2 40 (by decide)]; exact ht.2 i him
    have run := chainM (st := stT s T m t) hl le (by omega) (rowM_fr (g2 38 (by decide)) hS) hs k3 g1 (by omega) k2 (by omega) (stT_lt s T m t)
    refine Or.inl ⟨_, run, ?_, ?_, fun j hj => ?_, fun q hq => ?_⟩
    · show nI (opN T (m - t) - wN (T i) + 1) = nI (opN T (m - (t + 1)))
      rw [← ei, show opN T i = opN T (m - t) - wN (T i) + 1 by omega]
    · show nI i + (-1 : Int32) = nI (m - (t + 1)) - 1
      rw [← ei, Int32.sub_eq_add_neg]
    · show (hset x 52 _ _) 52 j = nI (if j = opN T (m - t) - wN (T (m - (t + 1))) then vaN s (T (m - (t + 1))) (stT s T m t (opN T (m - t) - 1)) (stT s T m t (opN T (m - t) - 2)) (stT s T m t (opN T (m - t) - 3)) else stT s T m t j)
      rw [← ei] at hj ⊢
      by_cases y : j = opN T (m - t) - wN (T i)
      · rw [if_pos y, y, hset_at]
      · rw [if_neg y, hset_ne2 y]
        exact g1 j (by omega)
    · show (hset x 52 _ _) q = _
      rw [hset_ne hq]
      exact g2 q hq) (fun x hx => by
    obtain ⟨a0, a, x⟩ := x
    obtain ⟨e0, e, g1, g2⟩ := hx
    replace e : a = nI (m - m) - 1 := e
    replace g1 : ∀ j, j < opN T (m - m) → x 52 j = nI (stT s T m m j) := g1
    rw [Nat.sub_self] at e g1
    refine ⟨(a0, a, x), ?_, g1 0 (show 0 < 1 by decide), g2⟩
    show Jm_worth_L9 a0 a x = _
    unfold Jm_worth_L9
    rw [if_pos (show a < 0 by rw [e]; decide)]) (F := 1000000) (by omega) (a := 0) (Nat.zero_le m) (s := (0, nI m - 1, h)) ⟨by
      show (0 : Int32) = nI (opN T (m - 0))
      rw [Nat.sub_zero, h0]; rfl, by rw [Nat.sub_zero], fun j hj => by
      rw [Nat.sub_zero, h0] at hj
      exact absurd hj (Nat.not_lt_zero j), fun q _ => rfl⟩
  refine ⟨r.2.2, ?_, l3⟩
  unfold Jm_worth
  rw [ht.1, l1, bd_some, l2]
/-! tell -/
theorem textC {h h' : Hp} {s : Sh} {m : Nat} {T : Nat → Nat} {F F' : Int32} {n : Nat} {K : Nat → Nat} {V : Nat → Int32} {sd : Int32} {u : Nat} {U : Nat → Sh} {G : Nat → Bool} {I : Nat → Sh} {E : Nat → Nat} (f : ∀ p, 3 < p → p < 37 → h' p = h p) (f8 : h' 0 8 = h 0 8) (f9 : h' 0 9 = F') (f2 : h' 1 2 = nI 0) (c : clI h (s, (m, T), F, (n, K, V), sd, (u, U), (G, I, E))) : clI h' (s, (0, T), F', (n, K, V), sd, (u, U), (G, I, E)) := by
  obtain ⟨c1, c2, c3, c4, c5, c6, c7, c8, c9⟩ := c
  obtain ⟨b1, b2, b3, b4, b5⟩ := cl_fr (h' := h') (fun p w => f p (by omega) (by omega)) c1 c6 c7 c8 c9
  exact ⟨b1, ⟨f2, fun i hi => absurd hi (Nat.not_lt_zero i)⟩, f9, bkC_fr (f 26 (by decide) (by decide)) (f 27 (by decide) (by decide)) (f 28 (by decide) (by decide)) c4, f8.trans c5, b2, b3, b4, b5⟩
theorem textM {h h' : Hp} {s : Sh} {m : Nat} {T : Nat → Nat} {F F' : Int32} {n : Nat} {K : Nat → Nat} {V : Nat → Int32} {sd : Int32} {u : Nat} {U : Nat → Sh} {G : Nat → Bool} {I : Nat → Sh} {E : Nat → Nat} (f : ∀ p, p ≠ 37 → p ≠ 52 → 36 < p → h' p = h p) (g : ∀ k, k ≠ 6 → k ≠ 7 → h' 37 k = h 37 k) (f6 : h' 37 6 = nI 0) (f7 : h' 37 7 = F') (d : mdI h (s, (m, T), F, (n, K, V), sd, (u, U), (G, I, E))) : mdI h' (s, (0, T), F', (n, K, V), sd, (u, U), (G, I, E)) := by
  obtain ⟨d1, d2, d3, d4, d5, d6, d7, d8⟩ := d
  obtain ⟨b6, b7, b8, b9⟩ := md_fr (h' := h') (fun p w => f p (by omega) (by omega) (by omega)) (fun k w1 w2 w3 w4 => g k w2 w3) d1 d6 d7 d8
  exact ⟨b6, ⟨f6, fun i hi => absurd hi (Nat.not_lt_zero i)⟩, f7, bkM_fr (g 10 (by decide) (by decide)) (f 41 (by decide) (by decide) (by decide)) (f 42 (by decide) (by decide) (by decide)) d4, (g 3 (by decide) (by decide)).trans d5, b7, b8, b9⟩
theorem tell_inv {h : Hp} (H : Inv h) : ∃ r h1 h2, Jyn_tell h = some (r, h1) ∧ Jm_tell h1 = some (r, h2) ∧ Inv h2 := by
  obtain ⟨⟨s, ⟨m, T⟩, F, ⟨n, K, V⟩, sd, ⟨u, U⟩, ⟨G, I, E⟩⟩, ok, c, d⟩ := id H
  obtain ⟨o1, ⟨o2, o2'⟩, o3, o4, o5, o6⟩ := id ok
  have hS := c.1
  have hm : rowM h 0 s := d.1.1
  have hn := o1.1
  have ht : txC h m T := c.2.1
  have htm : txM h m T := d.2.1
  by_cases q : s.1 = 6
  · refine ⟨-1000000004, h, h, ?_, ?_, H⟩
    · unfold Jyn_tell
      rw [isFull_at hS hn, bd_some, if_neg (by omega : ¬ s.1 < 6), if_neg n1_0]
    · unfold Jm_tell
      rw [hm.1, q, if_pos (show nI 6 = (6 : Int32) from rfl)]
  have hl : s.1 < 6 := by omega
  have n6 : ¬ nI s.1 = (6 : Int32) := fun w => q ((nI_eq (b := 6) (by omega) (by decide)).mp w)
  obtain ⟨r, p, g1, a1, a2, a3, a4, a5, a6⟩ := faultC_at ht o2 o2' hn
  have C0 : Jyn_tell h = (if nI r = 0 then bd (Jfm_value g1) fun c4 => Jyn_tell_J47 (nI r) c4.1 c4.2 else Jyn_tell_J47 (nI r) 0 g1) := by
    unfold Jyn_tell
    rw [isFull_at hS hn, if_pos hl, bd_some, if_pos n0_0, size_at hS, bd_some, a1, bd_some]
  by_cases r0 : r = 0
  · subst r0
    have hf : (∀ j, j < m → faN T s.1 j = 0) ∧ opN T m = 0 := by
      rcases a2 with ⟨k, b1, b2, b3, b4, b5⟩ | ⟨b1, b2, b3⟩
      · exact absurd rfl b3
      · refine ⟨b1, ?_⟩
        by_cases z : 0 < opN T m
        · rw [if_pos z] at b3; cases b3
        · omega
    obtain ⟨hf, h0⟩ := hf
    have pos : 0 < m := by
      rcases Nat.eq_zero_or_pos m with z | z
      · rw [z] at h0; cases h0
      · exact z
    have fr1 : ∀ p, p ≠ 1 → g1 p = h p := fun p hp => funext fun k => a6 p k (by omega)
    have hS1 : shC g1 s := shC_fr (fr1 29 (by decide)) (fr1 30 (by decide)) hS
    have ht1 : txC g1 m T := ⟨(a6 1 2 (by decide)).trans ht.1, fun i hi => (a6 2 i (by omega)).trans (ht.2 i hi)⟩
    obtain ⟨g2, v1, v2⟩ := valueC_at hS1 o1 ht1 o2 o2' hf h0 pos
    obtain ⟨g3, e3⟩ : ∃ y, y = hset g2 0 9 (-1) := ⟨_, rfl⟩
    obtain ⟨g4, e4⟩ : ∃ y, y = hset g3 1 2 0 := ⟨_, rfl⟩
    have fr4 : ∀ p, p ≠ 0 → p ≠ 1 → p ≠ 3 → g4 p = h p := fun p x y z => by
      rw [e4, hset_ne y, e3, hset_ne x, ← fr1 p y]
      exact funext fun k => v2 p k (by omega) z
    have c4 : clI g4 (s, (0, T), -1, (n, K, V), sd, (u, U), (G, I, E)) := by
      refine textC (fun p x y => fr4 p (by omega) (by omega) (by omega)) ?_ ?_ ?_ c
      · rw [e4, hset_ne (by decide), e3, hset_ne2 (by decide), v2 0 8 (by decide) (by decide), a6 0 8 (by decide)]
      · rw [e4, hset_ne (by decide), e3, hset_at]
      · rw [e4, hset_at]; rfl
    have ok0 : okSt (s, (0, T), -1, (n, K, V), sd, (u, U), (G, I, E)) := ⟨o1, ⟨by omega, fun i hi => absurd hi (Nat.not_lt_zero i)⟩, o3, o4, o5, o6⟩
    obtain ⟨g5, x1, x2, x3⟩ := pushC ok0 c4
    obtain ⟨g6, y1, y2, y3⟩ := addC x2 hl (stT s T m m 0)
    have fr6 : ∀ p, 36 < p → g6 p = h p := fun p hp => ((y3 p (by omega) (by omega)).trans (x3 p (by omega))).trans (fr4 p (by omega) (by omega) (by omega))
    have d6 := mdI_C fr6 d
    have ht6 : txM g6 m T := d6.2.1
    obtain ⟨r', p', k1, k2⟩ := faultM_at ht6 o2 o2' hn d6.1.1.1
    obtain ⟨er, ep⟩ := FR_uniq a2 k2
    subst er
    subst ep
    rw [if_pos rfl] at k1
    obtain ⟨j1, i1⟩ : ∃ y, y = hset g6 37 7 (-1) := ⟨_, rfl⟩
    rw [← i1] at k1
    have fj1 : ∀ p, p ≠ 37 → j1 p = g6 p := fun p hp => by rw [i1, hset_ne hp]
    have fj1' : ∀ k, k ≠ 7 → j1 37 k = g6 37 k := fun k hk => by rw [i1, hset_ne2 hk]
    obtain ⟨j2, w1, w2⟩ := worthM_at (rowM_fr (fj1 38 (by decide)) d6.1.1) o1 (txM_fr (fj1' 6 (by decide)) (fj1 40 (by decide)) ht6) o2 o2' hf h0 pos
    obtain ⟨j3, i3⟩ : ∃ y, y = hset j2 37 6 0 := ⟨_, rfl⟩
    have d3 : mdI j3 (s, (0, T), -1, (n, K, V), sd, (u, U), (G, I, E)) := by
      refine textM (fun p x y _ => by rw [i3, hset_ne x, w2 p y, fj1 p x]) (fun k x y => by rw [i3, hset_ne2 x, w2 37 (by decide), fj1' k y]) ?_ ?_ d6
      · rw [i3, hset_at]; rfl
      · rw [i3, hset_ne2 (by decide), w2 37 (by decide), i1, hset_at]
    obtain ⟨j4, t1, t2, t3⟩ := addM ok0 d3 hl (stT s T m m 0)
    refine ⟨nI s.1, g6, j4, ?_, ?_, (addS s (stT s T m m 0), (0, T), -1, (n, K, V), sd, (pushN u, pushU s U), (G, I, E)), ⟨add_ok o1 hl (stT_lt s T m m 0), ok0.2.1, o3, o4, okU_push o1 o5, o6⟩, clI_M (fun p hp => ?_) y2, t2⟩
    · rw [C0, if_pos n0_0, v1, bd_some]
      unfold Jyn_tell_J47
      rw [if_pos n0_0]
      unfold Jyn_tell_J64 Jfm_clear
      dsimp only
      rw [lt_of', ← e3, lt_of', ← e4, bd_some, if_pos n0_0, x1, bd_some, y1, bd_some]
    · unfold Jm_tell
      rw [d6.1.1.1, if_neg n6, k1, bd_some]
      dsimp only
      rw [if_pos n0_0, w1, bd_some]
      unfold Jm_tell_J31
      dsimp only
      rw [lt_of', ← i3, if_neg (show ¬ (0 : Int32) < nI 0 by decide), t1, bd_some]
    · rw [t3 p (by omega) (by omega), i3, hset_ne (by omega), w2 p (by omega), fj1 p (by omega)]
  · have rn : ¬ nI r = 0 := fun w => r0 ((nI_eq (b := 0) (by omega) (by decide)).mp w)
    obtain ⟨g3, e3⟩ : ∃ y, y = hset g1 0 9 (nI p) := ⟨_, rfl⟩
    obtain ⟨g4, e4⟩ : ∃ y, y = hset g3 1 2 0 := ⟨_, rfl⟩
    have fr4 : ∀ p, p ≠ 0 → p ≠ 1 → g4 p = h p := fun p x y => by
      rw [e4, hset_ne y, e3, hset_ne x]
      exact funext fun k => a6 p k (by omega)
    have c4 : clI g4 (s, (0, T), nI p, (n, K, V), sd, (u, U), (G, I, E)) := by
      refine textC (fun p x y => fr4 p (by omega) (by omega)) ?_ ?_ ?_ c
      · rw [e4, hset_ne (by decide), e3, hset_ne2 (by decide), a6 0 8 (by decide)]
      · rw [e4, hset_ne (by decide), e3, hset_at]
      · rw [e4, hset_at]; rfl
    have ok0 : okSt (s, (0, T), nI p, (n, K, V), sd, (u, U), (G, I, E)) := ⟨o1, ⟨by omega, fun i hi => absurd hi (Nat.not_lt_zero i)⟩, o3, o4, o5, o6⟩
    have d6 := mdI_C (h := h) (h' := g4) (fun p hp => fr4 p (by omega) (by omega)) d
    have ht6 : txM g4 m T := d6.2.1
    obtain ⟨r', p', k1, k2⟩ := faultM_at ht6 o2 o2' hn d6.1.1.1
    obtain ⟨er, ep⟩ := FR_uniq a2 k2
    subst er
    subst ep
    rw [if_neg r0] at k1
    obtain ⟨j1, i1⟩ : ∃ y, y = hset g4 37 7 (nI p) := ⟨_, rfl⟩
    rw [← i1] at k1
    obtain ⟨j3, i3⟩ : ∃ y, y = hset j1 37 6 0 := ⟨_, rfl⟩
    have d3 : mdI j3 (s, (0, T), nI p, (n, K, V), sd, (u, U), (G, I, E)) := by
      refine textM (fun p x y _ => by rw [i3, hset_ne x, i1, hset_ne x]) (fun k x y => by rw [i3, hset_ne2 x, i1, hset_ne2 y]) ?_ ?_ d6
      · rw [i3, hset_at]; rfl
      · rw [i3, hset_ne2 (by decide), i1, hset_at]
    refine ⟨(-10 : Int32) - nI r, g4, j3, ?_, ?_, (s, (0, T), nI p, (n, K, V), sd, (u, U), (G, I, E)), ok0, clI_M (fun p hp => ?_) c4, d3⟩
    · rw [C0, if_neg rn]
      unfold Jyn_tell_J47 Jfm_reached
      rw [if_neg rn, bd_some, a5, lt_of', ← e3]
      unfold Jfm_clear
      rw [lt_of', ← e4, bd_some, if_neg rn]
    · unfold Jm_tell
      rw [d6.1.1.1, if_neg n6, k1, bd_some]
      dsimp only
      rw [if_neg rn]
      unfold Jm_tell_J31
      rw [lt_of', ← i3, if_pos (show (0 : Int32) < nI r from nI_lt (a := 0) (by omega) (by omega))]
    · rw [i3, hset_ne (by omega), i1, hset_ne (by omega)]
