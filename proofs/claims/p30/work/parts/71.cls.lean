/-! The class's calls: answers and state. -/
def cI (h : Hp) (s : Sh) (u : Nat) (U : Nat → Sh) (m : Nat) (T : Nat → Nat) : Prop := ∃ (F : Int32) (n : Nat) (K : Nat → Nat) (V : Nat → Int32) (sd : Int32) (G : Nat → Bool) (I : Nat → Sh) (E : Nat → Nat), okSt (s, (m, T), F, (n, K, V), sd, (u, U), (G, I, E)) ∧ clI h (s, (m, T), F, (n, K, V), sd, (u, U), (G, I, E))
theorem cI_M {h h' : Hp} {s : Sh} {u : Nat} {U : Nat → Sh} {m : Nat} {T : Nat → Nat} (f : ∀ p, p < 37 → h' p = h p) (H : cI h s u U m T) : cI h' s u U m T := by
  obtain ⟨F, n, K, V, sd, G, I, E, ok, c⟩ := H
  exact ⟨F, n, K, V, sd, G, I, E, ok, clI_M f c⟩
theorem cI_s {h : Hp} {s : Sh} {u : Nat} {U : Nat → Sh} {m : Nat} {T : Nat → Nat} (H : cI h s u U m T) : okS s := by
  obtain ⟨F, n, K, V, sd, G, I, E, ok, c⟩ := H
  exact ok.1
theorem cI_init (h : Hp) : ∃ h', Jyn_init h = some h' ∧ cI h' (0, fun _ => 0, 0) 0 (fun _ => (0, fun _ => 0, 0)) 0 (fun _ => 0) := by
  obtain ⟨h2, e2, cp, a1, a2, a3, a4, a5, a6, a7, a8, a9, a10⟩ := yn_init h
  refine ⟨h2, e2, -1, 0, fun _ => 0, fun _ => 0, 0, fun _ => false, fun _ => (0, fun _ => 0, 0), fun _ => 0, ?_, ?_⟩
  · exact ⟨⟨by decide, fun i hi => absurd hi (Nat.not_lt_zero i), by decide⟩, ⟨by decide, fun i hi => absurd hi (Nat.not_lt_zero i)⟩, ⟨by decide, fun i hi => absurd hi (Nat.not_lt_zero i)⟩, by decide, fun j hj => absurd hj (Nat.not_lt_zero j), fun i _ q => by cases q⟩
  · exact ⟨⟨a3, a4, fun i hi => absurd hi (Nat.not_lt_zero i)⟩, ⟨a2, fun i hi => absurd hi (Nat.not_lt_zero i)⟩, a10, ⟨a5, fun i hi => absurd hi (Nat.not_lt_zero i)⟩, a9, ⟨a6, by decide, 0, by decide, a7, fun j hj => absurd hj (Nat.not_lt_zero j)⟩, fun i _ => ⟨a8 i, fun q => by cases q⟩, cp, Or.inl a1⟩
theorem cI_feed {h : Hp} {s : Sh} {u : Nat} {U : Nat → Sh} {m : Nat} {T : Nat → Nat} (H : cI h s u U m T) (hm : m < 60) {k : Nat} (hk : k < 256) : ∃ h', Jyn_feed (nI k) h = some (nI (m + 1), h') ∧ cI h' s u U (m + 1) (fun i => if i = m then k else T i) := by
  obtain ⟨F, n, K, V, sd, G, I, E, ok, c⟩ := H
  obtain ⟨c1, c2, c3, c4, c5, c6, c7, c8, c9⟩ := id c
  obtain ⟨o1, ⟨o2, o2'⟩, o3, o4, o5, o6⟩ := id ok
  have a1 := feed_C c2 hm hk
  obtain ⟨h1, e1⟩ : ∃ x, x = hset (hset h 2 m (nI k)) 1 2 (nI (m + 1)) := ⟨_, rfl⟩
  rw [← e1] at a1
  have f1 : ∀ p, p ≠ 1 → p ≠ 2 → h1 p = h p := fun p w1 w2 => by rw [e1, hset_ne w1, hset_ne w2]
  obtain ⟨b1, b2, b3, b4, b5⟩ := cl_fr (h' := h1) (fun p w => f1 p (by omega) (by omega)) c1 c6 c7 c8 c9
  refine ⟨h1, a1, F, n, K, V, sd, G, I, E, ⟨o1, ⟨by omega, fun i hi => ?_⟩, o3, o4, o5, o6⟩, ⟨b1, ⟨?_, fun i hi => ?_⟩, ?_, bkC_fr (f1 26 (by decide) (by decide)) (f1 27 (by decide) (by decide)) (f1 28 (by decide) (by decide)) c4, ?_, b2, b3, b4, b5⟩⟩
  · show (if i = m then k else T i) < 256
    by_cases w : i = m
    · rw [if_pos w]; exact hk
    · rw [if_neg w]; exact o2' i (by omega)
  · rw [e1, hset_at]
  · show h1 2 i = nI (if i = m then k else T i)
    rw [e1, hset_ne (by decide)]
    by_cases w : i = m
    · rw [if_pos w, w, hset_at]
    · rw [if_neg w, hset_ne2 w]; exact c2.2 i (by omega)
  · rw [f1 0 (by decide) (by decide)]; exact c3
  · rw [f1 0 (by decide) (by decide)]; exact c5
theorem cI_tell {h : Hp} {s : Sh} {u : Nat} {U : Nat → Sh} {m : Nat} {T : Nat → Nat} (H : cI h s u U m T) (hl : s.1 < 6) (hf : ∀ j, j < m → faN T s.1 j = 0) (h0 : opN T m = 0) (pos : 0 < m) : ∃ h', Jyn_tell h = some (nI s.1, h') ∧ cI h' (addS s (stT s T m m 0)) (pushN u) (pushU s U) 0 T := by
  obtain ⟨F, n, K, V, sd, G, I, E, ok, c⟩ := H
  obtain ⟨o1, ⟨o2, o2'⟩, o3, o4, o5, o6⟩ := id ok
  have hS := c.1
  have hn := o1.1
  have ht : txC h m T := c.2.1
  obtain ⟨r, p, g1, a1, a2, a3, a4, a5, a6⟩ := faultC_at ht o2 o2' hn
  have r0 : r = 0 := (FR_uniq a2 (Or.inr ⟨hf, rfl, by rw [h0]; rfl⟩)).1
  subst r0
  have C0 : Jyn_tell h = (if nI 0 = 0 then bd (Jfm_value g1) fun c4 => Jyn_tell_J47 (nI 0) c4.1 c4.2 else Jyn_tell_J47 (nI 0) 0 g1) := by
    unfold Jyn_tell
    rw [isFull_at hS hn, if_pos hl, bd_some, if_pos n0_0, size_at hS, bd_some, a1, bd_some]
  have fr1 : ∀ p, p ≠ 1 → g1 p = h p := fun p hp => funext fun k => a6 p k (by omega)
  have hS1 : shC g1 s := shC_fr (fr1 29 (by decide)) (fr1 30 (by decide)) hS
  have ht1 : txC g1 m T := ⟨(a6 1 2 (by decide)).trans ht.1, fun i hi => (a6 2 i (by omega)).trans (ht.2 i hi)⟩
  obtain ⟨g2, v1, v2⟩ := valueC_at hS1 o1 ht1 o2 o2' hf h0 pos
  obtain ⟨g3, e3⟩ : ∃ y, y = hset g2 0 9 (-1) := ⟨_, rfl⟩
  obtain ⟨g4, e4⟩ : ∃ y, y = hset g3 1 2 0 := ⟨_, rfl⟩
  have fr4 : ∀ p, p ≠ 0 → p ≠ 1 → p ≠ 3 → g4 p = h p := fun p x y z => by
    rw [e4, hset_ne y, e3, hset_ne x, ← fr1 p y]
    exact funext fun k => v2 p k (by omega) z
  have c4 : clI g4 (s, (0, T), -1, (n, K, V), sd, (u, U), (G, I, E)) := by
    refine textC (fun p x y => fr4 p (by omega) (by omega) (by omega)) ?_ ?_ ?_ c
    · rw [e4, hset_ne (by decide), e3, hset_ne2 (by decide), v2 0 8 (by decide) (by decide), a6 0 8 (by decide)]
    · rw [e4, hset_ne (by decide), e3, hset_at]
    · rw [e4, hset_at]; rfl
  have ok0 : okSt (s, (0, T), -1, (n, K, V), sd, (u, U), (G, I, E)) := ⟨o1, ⟨by omega, fun i hi => absurd hi (Nat.not_lt_zero i)⟩, o3, o4, o5, o6⟩
  obtain ⟨g5, x1, x2, x3⟩ := pushC ok0 c4
  obtain ⟨g6, y1, y2, y3⟩ := addC x2 hl (stT s T m m 0)
  refine ⟨g6, ?_, -1, n, K, V, sd, G, I, E, ⟨add_ok o1 hl (stT_lt s T m m 0), ok0.2.1, o3, o4, okU_push o1 o5, o6⟩, y2⟩
  rw [C0, if_pos n0_0, v1, bd_some]
  unfold Jyn_tell_J47
  rw [if_pos n0_0]
  unfold Jyn_tell_J64 Jfm_clear
  dsimp only
  rw [lt_of', ← e3, lt_of', ← e4, bd_some, if_pos n0_0, x1, bd_some, y1, bd_some]
theorem cI_fun {h : Hp} {s : Sh} {u : Nat} {U : Nat → Sh} {m : Nat} {T : Nat → Nat} (H : cI h s u U m T) {k : Nat} (hk : k < s.1) : Jyn_function (nI k) 0 h = some (nI (s.2.1 k), h) ∧ Jyn_function (nI k) 2 h = some (nI (arN (s.2.1 k)), h) := by
  obtain ⟨F, n, K, V, sd, G, I, E, ok, c⟩ := H
  have hS := c.1
  have hn := ok.1.1
  have hc := ok.1.2.1 k hk
  obtain ⟨u1, u2, u3, u4, u5, u6, u7, u8⟩ := pu_at hc
  have ca : Jsh_codeAt (nI k) h = some (nI (s.2.1 k)) := codeAt_in hS hn hk
  constructor
  · unfold Jyn_function
    rw [holds_yes hS hn hk, bd_some, if_neg one0, ca, bd_some, if_pos rfl]
  · unfold Jyn_function
    rw [holds_yes hS hn hk, bd_some, if_neg one0, ca, bd_some, if_neg (by decide), if_neg (by decide), if_pos rfl, u3, bd_some]
theorem cI_told {h : Hp} {s : Sh} {u : Nat} {U : Nat → Sh} {m : Nat} {T : Nat → Nat} (H : cI h s u U m T) : Jyn_told 0 h = some (nI s.1, h) ∧ Jyn_told 2 h = some (nI s.2.2, h) ∧ Jyn_told 12 h = some (nI u, h) := by
  obtain ⟨F, n, K, V, sd, G, I, E, ok, c⟩ := H
  have hS := c.1
  have hu := c.2.2.2.2.2.1.1
  refine ⟨?_, ?_, ?_⟩
  · unfold Jyn_told
    rw [if_pos rfl, size_at hS, bd_some]
  · unfold Jyn_told Jsh_chosenSet
    rw [if_neg (by decide), if_neg (by decide), if_pos rfl, hS.2.1, bd_some]
  · unfold Jyn_told Jpa_size
    rw [if_neg (by decide), if_neg (by decide), if_neg (by decide), if_neg (by decide), if_neg (by decide), if_neg (by decide), if_neg (by decide), if_neg (by decide), if_neg (by decide), if_neg (by decide), if_neg (by decide), if_neg (by decide), if_pos rfl, hu, bd_some]
theorem bs_in {n B : Nat} (hn : n ≤ 6) (hB : B < 2 ^ n) : (nI B >>> (nI n &&& 31) : Int32) = 0 := by
  rcases bs_or hn (nI B) with ⟨B', hB', e, y, -⟩ | ⟨y, -⟩
  · exact y
  · exfalso
    refine y ?_
    have h64 : 2 ^ n ≤ 2 ^ 6 := Nat.pow_le_pow_right (by decide) hn
    rw [nI_shr (by omega) (by omega), Nat.shiftRight_eq_div_pow, Nat.div_eq_of_lt hB]
    rfl
theorem cI_base {h : Hp} {s : Sh} {u : Nat} {U : Nat → Sh} {m : Nat} {T : Nat → Nat} (H : cI h s u U m T) {B : Nat} (hB : B < 2 ^ s.1) : ∃ h', Jyn_base (nI B) h = some (nI (cmS (s.1, s.2.1, B)), h') ∧ cI h' (s.1, s.2.1, B) (pushN u) (pushU s U) m T := by
  obtain ⟨F, n, K, V, sd, G, I, E, ok, c⟩ := H
  have hS := c.1
  have hn := ok.1.1
  obtain ⟨h1, a1, a2, a3⟩ := pushC ok c
  have hs' : okS (s.1, s.2.1, B) := ⟨ok.1.1, ok.1.2.1, hB⟩
  obtain ⟨h2, e2⟩ : ∃ y, y = hset h1 29 2 (nI B) := ⟨_, rfl⟩
  have f2 : ∀ p, p ≠ 29 → h2 p = h1 p := fun p hp => by rw [e2, hset_ne hp]
  have s2 : shC h2 (s.1, s.2.1, B) := ⟨by rw [e2, hset_ne2 (by decide)]; exact a2.1.1, by rw [e2, hset_at], fun i hi => by rw [f2 30 (by decide)]; exact a2.1.2.2 i hi⟩
  have c2 := shelfC (fun p p1 p2 _ => f2 p p1) s2 a2
  refine ⟨h2, ?_, F, n, K, V, sd, G, I, E, ⟨hs', ok.2.1, ok.2.2.1, ok.2.2.2.1, okU_push ok.1 ok.2.2.2.2.1, ok.2.2.2.2.2⟩, c2⟩
  unfold Jyn_base Jsh_choose
  rw [size_at hS, bd_some, if_pos (bs_in hn hB), a1, bd_some, lt_of', ← e2, bd_some, commonC_at s2 hs' c2.2.2.2.2.2.2.2.1, bd_some]
theorem cI_put {h : Hp} {s : Sh} {u : Nat} {U : Nat → Sh} {m : Nat} {T : Nat → Nat} (H : cI h s u U m T) (h0 : 0 < s.1) (hl : s.1 < 6) : ∃ h' v, Jyn_put 0 0 0 0 h = some (nI s.1, h') ∧ v < 256 ∧ cI h' (addS s v) (pushN u) (pushU s U) m T := by
  obtain ⟨F, n, K, V, sd, G, I, E, ok, c⟩ := H
  have hS := c.1
  have hn := ok.1.1
  obtain ⟨h1, a1, a2, a3⟩ := pushC ok c
  have hc := ok.1.2.1 0 h0
  obtain ⟨h2, b1, b2, b3⟩ := addC a2 hl (pN (s.2.1 0) (s.2.1 0) (s.2.1 0) (s.2.1 0))
  have y1 : Jsh_holds 0 h = some 1 := holds_yes (k := 0) hS hn h0
  have z1 : Jsh_codeAt 0 h1 = some (nI (s.2.1 0)) := codeAt_in (k := 0) a2.1 hn h0
  refine ⟨h2, _, ?_, pN_lt _ _ _ _, F, n, K, V, sd, G, I, E, ⟨add_ok ok.1 hl (pN_lt _ _ _ _), ok.2.1, ok.2.2.1, ok.2.2.2.1, okU_push ok.1 ok.2.2.2.2.1, ok.2.2.2.2.2⟩, b2⟩
  unfold Jyn_put
  simp only [y1, bd_some, if_neg one0]
  rw [isFull_at hS hn, bd_some, if_pos hl, if_pos n0_0, a1, bd_some, z1, bd_some, bd_some, bd_some, bd_some, Jco_putOn_at (by omega) (by omega) (by omega) (by omega), bd_some, b1, bd_some]
theorem cI_turn {h : Hp} {s : Sh} {u : Nat} {U : Nat → Sh} {m : Nat} {T : Nat → Nat} (H : cI h s u U m T) (h0 : 0 < s.1) : ∃ h' v, Jyn_turn 0 h = some (nI (tnN (s.2.1 0)), h') ∧ v < 256 ∧ cI h' (chgS s 0 v) (pushN u) (pushU s U) m T := by
  obtain ⟨F, n, K, V, sd, G, I, E, ok, c⟩ := H
  have hS := c.1
  have hn := ok.1.1
  obtain ⟨h1, a1, a2, a3⟩ := pushC ok c
  have hc := ok.1.2.1 0 h0
  obtain ⟨u1, u2, u3, u4, u5, u6, u7, u8⟩ := pu_at hc
  obtain ⟨co, eco⟩ : ∃ w, w = tnN (s.2.1 0) := ⟨_, rfl⟩
  have hco : co < 256 := by rw [eco]; exact (ta_at hc).2.2.2.1
  obtain ⟨h2, e2⟩ : ∃ y, y = hset h1 30 0 (nI co) := ⟨_, rfl⟩
  have f2 : ∀ p, p ≠ 30 → h2 p = h1 p := fun p hp => by rw [e2, hset_ne hp]
  have s2 : shC h2 (chgS s 0 co) := by
    refine ⟨by rw [f2 29 (by decide)]; exact a2.1.1, by rw [f2 29 (by decide)]; exact a2.1.2.1, fun i hi => ?_⟩
    show h2 30 i = nI (if i = 0 then co else s.2.1 i)
    by_cases q : i = 0
    · rw [if_pos q, e2, q, hset_at]
    · rw [if_neg q, e2, hset_ne2 q]; exact a2.1.2.2 i hi
  have c2 := shelfC (fun p p1 p2 _ => f2 p p2) s2 a2
  have y1 : Jsh_holds 0 h = some 1 := holds_yes (k := 0) hS hn h0
  have y2 : Jsh_holds 0 h1 = some 1 := holds_yes (k := 0) a2.1 hn h0
  have z1 : Jsh_codeAt 0 h1 = some (nI (s.2.1 0)) := codeAt_in (k := 0) a2.1 hn h0
  have hch : Jsh_change 0 (nI co) h1 = some h2 := by
    unfold Jsh_change
    rw [y2, bd_some, if_neg one0, e2]
    rfl
  refine ⟨h2, co, ?_, hco, F, n, K, V, sd, G, I, E, ⟨chg_ok ok.1 hco, ok.2.1, ok.2.2.1, ok.2.2.2.1, okU_push ok.1 ok.2.2.2.2.1, ok.2.2.2.2.2⟩, c2⟩
  unfold Jyn_turn
  rw [y1, bd_some, if_neg one0, a1, bd_some, z1, bd_some, u5, bd_some, ← eco, hch, bd_some]
theorem cI_undo2 {h : Hp} {s : Sh} {u : Nat} {U : Nat → Sh} {m : Nat} {T : Nat → Nat} (H : cI h s u U m T) (hu : 2 ≤ u) : ∃ h', Jyn_undo 2 h = some (nI (U 1).1, h') ∧ cI h' (U 1) (u - 2) (fun j => U (2 + j)) m T := by
  obtain ⟨F, n, K, V, sd, G, I, E, ok, c⟩ := H
  obtain ⟨k1, k2, k3, k4, k5, ⟨u1, u2, nx, x1, x2, x3⟩, k7, k8, k9⟩ := c
  obtain ⟨o1, o2, o3, o4, o5, o6⟩ := ok
  have c1 : ¬ (2 : Int32) < (1 : Int32) := by decide
  have c2 : ¬ (16 : Int32) < (2 : Int32) := by decide
  obtain ⟨s', es⟩ : ∃ s', s' = U 1 := ⟨_, rfl⟩
  have os' : okS s' := by rw [es]; exact o5 _ (by omega)
  obtain ⟨h1, e1⟩ : ∃ y, y = hset h 31 3 (nI (u - 2)) := ⟨_, rfl⟩
  obtain ⟨h2, e2⟩ : ∃ y, y = hset h1 31 4 (nI ((nx + 16 - 2) % 16)) := ⟨_, rfl⟩
  have f2 : ∀ p, p ≠ 31 → h2 p = h p := fun p hp => by rw [e2, hset_ne hp, e1, hset_ne hp]
  have sl : ∀ j, j < u → slotC h2 ((nx + 15 - j) % 16) (U j) := fun j hj => slotC_fr (f2 32 (by decide)) (f2 33 (by decide)) (f2 34 (by decide)) (x3 j hj)
  have sl0 : slotC h2 ((nx + 16 - 2) % 16) s' := by
    have := sl 1 (by omega)
    rw [show (nx + 15 - 1) % 16 = (nx + 16 - 2) % 16 by congr 1, ← es] at this
    exact this
  obtain ⟨h3, a1, a2⟩ := load_at (k := (nx + 16 - 2) % 16) (by omega) os'.1 sl0
  have fr := FJpa_load _ _ _ a1
  have f3 : ∀ p, p ≠ 29 → p ≠ 30 → h3 p = h2 p := fun p x y => fr p (by
    intro z
    rw [show SJpa_load = [29, 30] from rfl] at z
    simp only [List.mem_cons, List.not_mem_nil, or_false] at z
    omega)
  have f : ∀ p, p ≠ 29 → p ≠ 30 → p ≠ 31 → h3 p = h p := fun p x y z => (f3 p x y).trans (f2 p z)
  have r1 : h1 31 4 = nI nx := by rw [e1, hset_ne2 (by decide)]; exact x2
  have ar : ((nI nx + (16 : Int32)) - (2 : Int32)) - ((nI nx + (16 : Int32)) - (2 : Int32)) / (16 : Int32) * 16 = nI ((nx + 16 - 2) % 16) := by
    rw [show nI nx + (16 : Int32) = nI (nx + 16) from nI_add nx 16, show nI (nx + 16) - (2 : Int32) = nI (nx + 16 - 2) from nI_sub (b := 2) (by omega)]
    exact pk_rem (d := 16) (by omega) (by decide) (by decide)
  have r4 : h2 31 4 = nI ((nx + 16 - 2) % 16) := by rw [e2, hset_at]
  have cl : clI h3 (s', (m, T), F, (n, K, V), sd, (u - 2, fun j => U (2 + j)), (G, I, E)) := by
    refine ⟨a2, txC_fr (f 1 (by decide) (by decide) (by decide)) (f 2 (by decide) (by decide) (by decide)) k2, ?_, bkC_fr (f 26 (by decide) (by decide) (by decide)) (f 27 (by decide) (by decide) (by decide)) (f 28 (by decide) (by decide) (by decide)) k4, ?_, ⟨?_, by omega, (nx + 16 - 2) % 16, by omega, ?_, fun j hj => ?_⟩, imC_fr (f 32 (by decide) (by decide) (by decide)) (f 33 (by decide) (by decide) (by decide)) (f 34 (by decide) (by decide) (by decide)) (f 35 (by decide) (by decide) (by decide)) (f 36 (by decide) (by decide) (by decide)) k7, CP_fr (f 4 (by decide) (by decide) (by decide)) (f 5 (by decide) (by decide) (by decide)) (f 6 (by decide) (by decide) (by decide)) (f 7 (by decide) (by decide) (by decide)) (f 8 (by decide) (by decide) (by decide)) k8, CW_fr2 (fun p q1 q2 => f p (by omega) (by omega) (by omega)) k9⟩
    · rw [f 0 (by decide) (by decide) (by decide)]; exact k3
    · rw [f 0 (by decide) (by decide) (by decide)]; exact k5
    · rw [f3 31 (by decide) (by decide), e2, hset_ne2 (by decide), e1, hset_at]
    · rw [f3 31 (by decide) (by decide)]; exact r4
    · have := sl (2 + j) (by omega)
      rw [show (nx + 15 - (2 + j)) % 16 = ((nx + 16 - 2) % 16 + 15 - j) % 16 by omega] at this
      exact slotC_fr (f3 32 (by decide) (by decide)) (f3 33 (by decide) (by decide)) (f3 34 (by decide) (by decide)) this
  rw [← es]
  refine ⟨h3, ?_, F, n, K, V, sd, G, I, E, ⟨os', o2, o3, o4, fun j hj => o5 _ (by omega), o6⟩, cl⟩
  unfold Jyn_undo
  rw [if_neg c1, if_neg c2]
  unfold Jpa_goBackBy
  rw [if_neg c1, u1, if_neg (show ¬ nI u < (2 : Int32) from nI_nlt (b := 2) hu (by omega)), show nI u - (2 : Int32) = nI (u - 2) from nI_sub (b := 2) hu, lt_of', ← e1, r1, ar, lt_of', ← e2, r4, a1, bd_some, bd_some]
  dsimp only
  rw [if_neg one0, size_at a2, bd_some]
/-! what is reckoned -/
theorem cI_reck {h : Hp} {s : Sh} {u : Nat} {U : Nat → Sh} {m : Nat} {T : Nat → Nat} (H : cI h s u U m T) : ∃ h' ln, Jyn_reckoned h = some h' ∧ CF h' s ∧ lnOK s ln ∧ WF h' s ln ∧ cI h' s u U m T := by
  obtain ⟨F, n, K, V, sd, G, I, E, ok, c⟩ := H
  obtain ⟨h', ln, a1, a2, a3, a4, a5, a6⟩ := reckX c.1 ok.1 c.2.2.2.2.2.2.2.1 c.2.2.2.2.2.2.2.2
  exact ⟨h', ln, a1, a2, a3, a4, F, n, K, V, sd, G, I, E, ok, clI_fr (fun p v => funext fun k => a6 p k (by omega)) a5 c⟩
theorem cI_W {h h' : Hp} {s : Sh} {u : Nat} {U : Nat → Sh} {m : Nat} {T : Nat → Nat} (H : cI h s u U m T) (w : CW h') (r : RCX h h') : cI h' s u U m T := by
  obtain ⟨F, n, K, V, sd, G, I, E, ok, c⟩ := H
  exact ⟨F, n, K, V, sd, G, I, E, ok, clI_fr (fun p v => funext fun k => r p k (by omega)) w c⟩
theorem isCode_c {c : Nat} (hc : c < 256) : Jyn_isCode (nI c) = some 1 := by
  rcases code_or (nI c) with ⟨k, hk, e, i1, i2⟩ | ⟨i1, i2⟩
  · exact i1
  · exact (isCode_at hc).trans rfl
noncomputable def coV (s : Sh) (c : Nat) : Int32 := (FC s c).elim (-1) nI
theorem coV_some {s : Sh} {c k : Nat} (e : FC s c = some k) : coV s c = nI k := by
  unfold coV
  rw [e]
  rfl
theorem coV_none {s : Sh} {c : Nat} (e : FC s c = none) : coV s c = -1 := by
  unfold coV
  rw [e]
  rfl
theorem cost_0 {h : Hp} {s : Sh} {u : Nat} {U : Nat → Sh} {m : Nat} {T : Nat → Nat} (H : cI h s u U m T) {c : Nat} (hc : c < 256) : ∃ h', Jyn_cost (nI c) 0 h = some (coV s c, h') ∧ cI h' s u U m T := by
  obtain ⟨h1, ln, a1, a2, a3, a4, a5⟩ := cI_reck H
  refine ⟨h1, ?_, a5⟩
  unfold Jyn_cost
  have v : h1 11 c = coV s c := by
    cases e : FC s c with
    | none => rw [((a2.1 c hc).2 e).1, coV_none e]
    | some k => rw [((a2.1 c hc).1 k e).1, coV_some e]
  rw [isCode_c hc, bd_some, if_neg one0, a1, bd_some, if_pos rfl, costOf_at hc, bd_some, v]
theorem top_eq {h : Hp} {c : Nat} (hc : c < 256) : Jcs_topOf (nI c) h = some (h 12 c) := by
  unfold Jcs_topOf
  rw [isCode_c hc, bd_some, if_neg one0, ib_nI hc (by omega), cond_true, nI_clamp (by omega)]
theorem cost_1 {h : Hp} {s : Sh} {u : Nat} {U : Nat → Sh} {m : Nat} {T : Nat → Nat} (H : cI h s u U m T) {c : Nat} (hc : c < 256) : ∃ r h', Jyn_cost (nI c) 1 h = some (r, h') ∧ cI h' s u U m T ∧ ((FC s c = none ∨ FC s c = some 0) → r = -1) ∧ ∀ k, FC s c = some k → 0 < k → ∃ g, isTop s k c g ∧ r = nI g := by
  obtain ⟨h1, ln, a1, a2, a3, a4, a5⟩ := cI_reck H
  refine ⟨h1 12 c, h1, ?_, a5, fun q => ?_, fun k e z => (((a2.1 c hc).1 k e).2.2) z⟩
  · unfold Jyn_cost
    rw [isCode_c hc, bd_some, if_neg one0, a1, bd_some, if_neg (by decide), if_pos rfl, top_eq hc, bd_some]
  · rcases q with q | q
    · exact ((a2.1 c hc).2 q).2
    · exact (((a2.1 c hc).1 0 q).2.1) rfl
theorem part_c {h : Hp} {s : Sh} {ln : Nat → Nat} {c i : Nat} (hs : okS s) (H : CF h s) (W : WF h s ln) (hc : c < 256) (hi : i < 3) : ∃ r h', Jwy_partOf (nI c) (nI i) h = some (r, h') ∧ CF h' s ∧ WF h' s ln ∧ (∀ p j, (p < 20 ∨ 25 < p) → h' p j = h p j) ∧ ((FC s c = none ∨ FC s c = some 0) → r = -1) ∧ ∀ k g x y z, FC s c = some k → 0 < k → isTop s k c g → isPts s k c g x y z → r = pv (arN (s.2.1 g)) i (pt x y z i) := by
  unfold Jwy_partOf
  have none' : (FC s c = none ∨ FC s c = some 0) → Jwy_knownPart (nI c) (nI i) h = some (-1) := fun w => by
    rw [knownPart_at hc hi]
    rcases W.1 c hc with u | ⟨-, k, g, x, y, z, a, b, -⟩
    · rw [if_pos (show h 23 c = 0 from u)]
    · rcases w with w | w
      · rw [w] at a; cases a
      · rw [w] at a; cases a; omega
  cases e : FC s c with
  | none =>
    refine ⟨-1, h, ?_, H, W, fun _ _ _ => rfl, fun _ => rfl, fun k g x y z q => by cases q⟩
    rw [lookFor_no H.1 hc (Or.inl e), bd_some, none' (Or.inl e), bd_some]
  | some k =>
    rcases Nat.eq_zero_or_pos k with z | z
    · subst z
      refine ⟨-1, h, ?_, H, W, fun _ _ _ => rfl, fun _ => rfl, fun k g x y w q q2 => ?_⟩
      · rw [lookFor_no H.1 hc (Or.inr e), bd_some, none' (Or.inr e), bd_some]
      · cases q
        omega
    · obtain ⟨h', a1, a2, a3, a4, -, a5⟩ := lookFor_at hs H W hc e z
      refine ⟨h' 22 (3 * c + i), h', ?_, CF_FW (fun p j hp => a5 p j (by omega) (by omega) (by omega) (by omega)) H, a4, fun p j w => a5 p j (by omega) (by omega) (by omega) (by omega), fun q => ?_, fun k1 g x y w q1 q2 t p => ?_⟩
      · rw [a1, bd_some, knownPart_at hc hi, if_neg (show ¬ h' 23 c = 0 by rw [a2]; decide), bd_some]
      · rcases q with q | q
        · cases q
        · cases q
          omega
      · cases q1
        obtain ⟨k', g', x', y', w', u1, u2, u3, u4, f1, f2, f3⟩ := a3
        rw [e] at u1
        cases u1
        have := isTop_uniq t u3
        subst this
        obtain ⟨rfl, rfl, rfl⟩ := isPts_uniq p u4
        rcases (show i = 0 ∨ i = 1 ∨ i = 2 by omega) with rfl | rfl | rfl
        · exact f1
        · exact f2
        · exact f3
theorem cost_p {h : Hp} {s : Sh} {u : Nat} {U : Nat → Sh} {m : Nat} {T : Nat → Nat} (H : cI h s u U m T) {c i : Nat} (hc : c < 256) (hi : i < 3) : ∃ r h', Jyn_cost (nI c) (nI (2 + i)) h = some (r, h') ∧ cI h' s u U m T ∧ ((FC s c = none ∨ FC s c = some 0) → r = -1) ∧ ∀ k g x y z, FC s c = some k → 0 < k → isTop s k c g → isPts s k c g x y z → r = pv (arN (s.2.1 g)) i (pt x y z i) := by
  obtain ⟨h1, ln, a1, a2, a3, a4, a5⟩ := cI_reck H
  have hs := cI_s H
  obtain ⟨r, h2, p1, p2, p3, p4, p5, p6⟩ := part_c hs a2 a4 hc hi
  have cc : cI h2 s u U m T := cI_W a5 (Or.inr ⟨s, ln, hs, p2, a3, p3⟩) (fun p j w => p4 p j (by omega))
  refine ⟨r, h2, ?_, cc, p5, p6⟩
  unfold Jyn_cost
  rw [isCode_c hc, bd_some, if_neg one0, a1, bd_some]
  rcases (show i = 0 ∨ i = 1 ∨ i = 2 by omega) with rfl | rfl | rfl
  · rw [if_neg (by decide), if_neg (by decide), if_pos (by decide)]
    exact (bd_of p1).trans rfl
  · rw [if_neg (by decide), if_neg (by decide), if_neg (by decide), if_pos (by decide)]
    exact (bd_of p1).trans rfl
  · rw [if_neg (by decide), if_neg (by decide), if_neg (by decide), if_neg (by decide), if_pos (by decide)]
    exact (bd_of p1).trans rfl
theorem cost_5 {h : Hp} {s : Sh} {u : Nat} {U : Nat → Sh} {m : Nat} {T : Nat → Nat} (H : cI h s u U m T) {c : Nat} (hc : c < 256) : ∃ ln r h', lnOK s ln ∧ Jyn_cost (nI c) 5 h = some (r, h') ∧ cI h' s u U m T ∧ (FC s c = none → r = -1) ∧ ∀ k, FC s c = some k → r = nI (ln c) := by
  obtain ⟨h1, ln, a1, a2, a3, a4, a5⟩ := cI_reck H
  have hs := cI_s H
  have cls5 : Jyn_cost (nI c) 5 h = bd (Jwy_lengthOf (nI c) h1) fun c8 => some (c8.1, c8.2) := by
    unfold Jyn_cost
    rw [isCode_c hc, bd_some, if_neg one0, a1, bd_some, if_neg (by decide), if_neg (by decide), if_neg (by decide), if_neg (by decide), if_neg (by decide), if_pos (by decide)]
  cases e : FC s c with
  | none => exact ⟨ln, -1, h1, a3, by rw [cls5, len_no a2 hc e, bd_some], a5, fun _ => rfl, fun k q => by cases q⟩
  | some k =>
    obtain ⟨h2, c1, c2, c3, c4⟩ := lengthOf_at hs a2 a3 a4 hc e
    exact ⟨ln, nI (ln c), h2, a3, by rw [cls5, c1, bd_some], cI_W a5 (Or.inr ⟨s, ln, hs, CF_FW (fun p j hp => c3 p j (by omega)) a2, a3, c2⟩) (fun p j w => c3 p j (by omega)), (fun q => by cases q), fun k' q => rfl⟩
theorem first_c {h : Hp} {s : Sh} {e k : Nat} (hs : okS s) (H : CF h s) (he : e < 256) (ek : FC s e = some k) (pos : 0 < k) : ∃ g, isTop s k e g ∧ Jwy_firstLetterOf (nI e) h = some ((65 : Int32) + nI g) := by
  obtain ⟨c1, c2, c3⟩ := (H.1 e he).1 k ek
  obtain ⟨g', t', e12⟩ := c3 pos
  have nb : ∀ {b : Nat}, base3 b → b < 256 → ¬ nI e = nI b := fun q hb w => by
    have := (nI_eq (by omega) (by omega)).mp w
    rw [this, FC_low (n := 0) (by omega) ((LV_0 s _).mpr q)] at ek
    cases ek
    omega
  have g6 : g' < 2 ^ 31 := by
    have := t'.1.1
    have := hs.1
    omega
  refine ⟨g', t', ?_⟩
  have tp : Jcs_topOf (nI e) h = some (nI g') := by rw [top_eq he, e12]
  unfold Jwy_firstLetterOf
  rw [if_neg (show ¬ nI e = (170 : Int32) from nb (b := 170) (Or.inl rfl) (by decide)), if_neg (show ¬ nI e = (204 : Int32) from nb (b := 204) (Or.inr (Or.inl rfl)) (by decide)), if_neg (show ¬ nI e = (240 : Int32) from nb (b := 240) (Or.inr (Or.inr rfl)) (by decide)), tp, bd_some, if_neg (nI_ne1 g6), bd_some]
theorem spell_at {h : Hp} {s : Sh} {u : Nat} {U : Nat → Sh} {m : Nat} {T : Nat → Nat} (H : cI h s u U m T) {c k : Nat} (hc : c < 256) (e : FC s c = some k) (pos : 0 < k) : (∃ g h', isTop s k c g ∧ Jyn_spell (nI c) 0 h = some ((65 : Int32) + nI g, h') ∧ cI h' s u U m T) ∧ ∀ ln, lnOK s ln → ∃ h', Jyn_spell (nI c) (nI (ln c)) h = some (-1, h') ∧ cI h' s u U m T := by
  obtain ⟨h1, ln, a1, a2, a3, a4, a5⟩ := cI_reck H
  have hs := cI_s H
  obtain ⟨h2, c1, c2, c3, c4⟩ := lengthOf_at hs a2 a3 a4 hc e
  have CF1 : CF h2 s := CF_FW (fun p j hp => c3 p j (by omega)) a2
  have cc : cI h2 s u U m T := cI_W a5 (Or.inr ⟨s, ln, hs, CF1, a3, c2⟩) (fun p j w => c3 p j (by omega))
  obtain ⟨l1, l2⟩ := ln_le hs a3 k c hc e
  have kl := FC_le e
  have cls : ∀ v2, ¬ v2 < 0 → Jyn_spell (nI c) v2 h = if v2 < nI (ln c) then bd (Jwy_letterOf (nI c) v2 h2) fun c4 => some (c4, h2) else some ((-1), h2) := fun v2 n2 => by
    unfold Jyn_spell
    rw [isCode_c hc, bd_some, if_neg one0, if_neg n2, a1, bd_some, c1, bd_some]
  constructor
  · obtain ⟨g, t, f⟩ := first_c hs CF1 hc e pos
    refine ⟨g, h2, t, ?_, cc⟩
    have nz : h2 25 c ≠ nI 0 := by
      rw [c4]
      exact fun w => by
        have := (nI_eq (a := ln c) (b := 0) (by omega) (by omega)).mp w
        omega
    obtain ⟨f1, x, y, f2⟩ := descC (u1 := nI c) (u2 := 0) hs a3 c2 0 1000000 c 0 0 c hc nz (by omega) (by omega) ⟨rfl, rfl⟩
    rw [cls 0 (by decide), if_pos (show (0 : Int32) < nI (ln c) from nI_lt (a := 0) (by omega) (by omega))]
    unfold Jwy_letterOf
    rw [show loopN 1000000 (fun s => Jwy_letterOf_L8 (nI c) 0 h2 s.1 s.2.1 s.2.2) (nI c, 0, 0) = some (nI c, x, y) from f2, bd_some, f, bd_some, bd_some]
  · intro ln' L'
    have q := ln_uniq hs L' a3 k c hc e
    refine ⟨h2, ?_, cc⟩
    rw [q, cls _ (nI_pos (by omega)), if_neg (nI_nlt (Nat.le_refl _) (by omega))]
theorem told_5 {h : Hp} {s : Sh} {u : Nat} {U : Nat → Sh} {m : Nat} {T : Nat → Nat} (H : cI h s u U m T) : ∃ h', Jyn_told 5 h = some (nI (cntT (isM s) 256), h') ∧ cI h' s u U m T := by
  obtain ⟨h1, ln, a1, a2, a3, a4, a5⟩ := cI_reck H
  refine ⟨h1, ?_, a5⟩
  unfold Jyn_told
  rw [if_neg (by decide), if_neg (by decide), if_neg (by decide), if_neg (by decide), if_neg (by decide), if_pos rfl, a1, bd_some, madeC_at a2, bd_some]
theorem told_6 {h : Hp} {s : Sh} {u : Nat} {U : Nat → Sh} {m : Nat} {T : Nat → Nat} (H : cI h s u U m T) : ∃ h', Jyn_told 6 h = some (nI (gr s), h') ∧ cI h' s u U m T := by
  obtain ⟨h1, ln, a1, a2, a3, a4, a5⟩ := cI_reck H
  refine ⟨h1, ?_, a5⟩
  unfold Jyn_told
  rw [if_neg (by decide), if_neg (by decide), if_neg (by decide), if_neg (by decide), if_neg (by decide), if_neg (by decide), if_pos rfl, a1, bd_some, (dearC_at a2).1, bd_some]
theorem told_7 {h : Hp} {s : Sh} {u : Nat} {U : Nat → Sh} {m : Nat} {T : Nat → Nat} (H : cI h s u U m T) : ∃ c h', Jyn_told 7 h = some (nI c, h') ∧ isDear s c ∧ cI h' s u U m T := by
  obtain ⟨h1, ln, a1, a2, a3, a4, a5⟩ := cI_reck H
  obtain ⟨h2, ln', b1, b2, b3, b4, b5⟩ := cI_reck a5
  obtain ⟨g1, c, g2, g3⟩ := dearC_at b2
  refine ⟨c, h2, ?_, g3, b5⟩
  unfold Jyn_told
  rw [if_neg (by decide), if_neg (by decide), if_neg (by decide), if_neg (by decide), if_neg (by decide), if_neg (by decide), if_neg (by decide), if_pos rfl, a1, bd_some, b1, bd_some, g1, bd_some, g2, bd_some]
theorem cI_cong {h : Hp} {s : Sh} {u : Nat} {U : Nat → Sh} {m : Nat} {T T' : Nat → Nat} (e : ∀ i, i < m → T i = T' i) (H : cI h s u U m T) : cI h s u U m T' := by
  obtain ⟨F, n, K, V, sd, G, I, E, ⟨o1, ⟨o2, o2'⟩, o3⟩, ⟨c1, ⟨c2, c2'⟩, c3⟩⟩ := H
  exact ⟨F, n, K, V, sd, G, I, E, ⟨o1, ⟨o2, fun i hi => by rw [← e i hi]; exact o2' i hi⟩, o3⟩, ⟨c1, ⟨c2, fun i hi => by rw [← e i hi]; exact c2' i hi⟩, c3⟩⟩
