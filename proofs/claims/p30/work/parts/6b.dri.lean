/-! Deeds: by draws. -/
def nxS (S : Nat) : Nat := (S * 1103515245 + 12345) % 2147483648
def dcS (S : Nat) : Nat := S / 65536 % 256
theorem nxS_lt (S : Nat) : nxS S < 2 ^ 31 := Nat.mod_lt _ (by decide)
theorem dcS_lt (S : Nat) : dcS S < 256 := Nat.mod_lt _ (by decide)
theorem lN_and (a b : Nat) : lN a &&& lN b = lN (a &&& b) := Int64.toBitVec_inj.mp (by
  show BitVec.ofNat 64 a &&& BitVec.ofNat 64 b = BitVec.ofNat 64 (a &&& b)
  rw [BitVec.ofNat_and])
theorem lN_div {a b : Nat} (ha : a < 2 ^ 63) (h0 : 0 < b) (hb : b < 2 ^ 63) : lN a / lN b = lN (a / b) := by
  have e1 : (lN a).toInt = (a : Int) := lg_ofNat_toInt (by omega)
  have e2 : (lN b).toInt = (b : Int) := lg_ofNat_toInt (by omega)
  have l : a / b ≤ a := Nat.div_le_self _ _
  have e3 : (lN (a / b)).toInt = ((a / b : Nat) : Int) := lg_ofNat_toInt (by omega)
  apply Int64.toInt_inj.mp
  rw [lg_ldiv_nonneg (by omega) (by omega), e1, e2, e3]
  rfl
theorem seedC_n {S : Nat} (hS : S < 2 ^ 31) : Int64.toInt32 ((((Int32.toInt64 (nI S)) * 1103515245) + 12345) &&& 2147483647) = nI (nxS S) := by
  rw [nI_l hS, lN_n 1103515245, lN_mul, lN_n 12345, lN_add, lN_n 2147483647, lN_and, lN_i, show 2147483647 = 2 ^ 31 - 1 from rfl, Nat.and_two_pow_sub_one_eq_mod]
  rfl
theorem seedM_n {S : Nat} (hS : S < 2 ^ 31) : Int64.toInt32 ((((Int32.toInt64 (nI S)) * 1103515245) + 12345) - (((Int32.toInt64 (nI S)) * 1103515245) + 12345) / 2147483648 * 2147483648) = nI (nxS S) := by
  rw [nI_l hS, lN_n 1103515245, lN_mul, lN_n 12345, lN_add, lN_n 2147483648, lN_div (by omega) (by decide) (by decide), lN_mul, lN_sub (Nat.div_mul_le_self _ _), lN_i, show ∀ X : Nat, X - X / 2147483648 * 2147483648 = X % 2147483648 from fun X => by omega]
  unfold nxS
  rfl
theorem draw_n {S : Nat} (hS : S < 2 ^ 31) : (nI S / (65536 : Int32)) - (nI S / (65536 : Int32)) / (256 : Int32) * 256 = nI (dcS S) := by
  have e1 : nI S / (65536 : Int32) = nI (S / 65536) := pk_div (d := 65536) hS (by decide) (by decide)
  rw [e1]
  exact pk_rem (d := 256) (by omega) (by decide) (by decide)
theorem drawC {h : Hp} {S : Nat} (hS : S < 2 ^ 31) (e : h 0 8 = nI S) : Jyn_draw 256 h = some (nI (dcS (nxS S)), hset h 0 8 (nI (nxS S))) := by
  unfold Jyn_draw
  rw [e, seedC_n hS, lt_of', if_neg (show ¬ (256 : Int32) < 1 by decide), show (!(decide ((256 : Int32) = 0))) = true by decide, cond_true, hset_at, draw_n (nxS_lt S)]
theorem drawM {h : Hp} {S : Nat} (hS : S < 2 ^ 31) (e : h 37 3 = nI S) : Jm_draw 256 h = some (nI (dcS (nxS S)), hset h 37 3 (nI (nxS S))) := by
  unfold Jm_draw
  rw [e, seedM_n hS, lt_of', show (!(decide ((256 : Int32) = 0))) = true by decide, cond_true, hset_at, draw_n (nxS_lt S)]
theorem seedC {h : Hp} {s : Sh} {m : Nat} {T : Nat → Nat} {F : Int32} {n : Nat} {K : Nat → Nat} {V : Nat → Int32} {sd : Int32} {u : Nat} {U : Nat → Sh} {G : Nat → Bool} {I : Nat → Sh} {E : Nat → Nat} (v : Int32) (c : clI h (s, (m, T), F, (n, K, V), sd, (u, U), (G, I, E))) : clI (hset h 0 8 v) (s, (m, T), F, (n, K, V), v, (u, U), (G, I, E)) := by
  obtain ⟨c1, c2, c3, c4, c5, c6, c7, c8, c9⟩ := c
  have f : ∀ p, p ≠ 0 → (hset h 0 8 v) p = h p := fun p hp => hset_ne hp
  obtain ⟨b1, b2, b3, b4, b5⟩ := cl_fr (fun p w => f p (by omega)) c1 c6 c7 c8 c9
  exact ⟨b1, txC_fr (f 1 (by decide)) (f 2 (by decide)) c2, by rw [hset_ne2 (by decide)]; exact c3, bkC_fr (f 26 (by decide)) (f 27 (by decide)) (f 28 (by decide)) c4, hset_at, b2, b3, b4, b5⟩
theorem seedM {h : Hp} {s : Sh} {m : Nat} {T : Nat → Nat} {F : Int32} {n : Nat} {K : Nat → Nat} {V : Nat → Int32} {sd : Int32} {u : Nat} {U : Nat → Sh} {G : Nat → Bool} {I : Nat → Sh} {E : Nat → Nat} (v : Int32) (d : mdI h (s, (m, T), F, (n, K, V), sd, (u, U), (G, I, E))) : mdI (hset h 37 3 v) (s, (m, T), F, (n, K, V), v, (u, U), (G, I, E)) := by
  obtain ⟨d1, d2, d3, d4, d5, d6, d7, d8⟩ := d
  have f : ∀ p, p ≠ 37 → (hset h 37 3 v) p = h p := fun p hp => hset_ne hp
  have g : ∀ k, k ≠ 3 → (hset h 37 3 v) 37 k = h 37 k := fun k hk => hset_ne2 hk
  obtain ⟨b6, b7, b8, b9⟩ := md_fr (fun p w => f p (by omega)) (fun k w1 w2 w3 w4 => g k w1) d1 d6 d7 d8
  exact ⟨b6, txM_fr (g 6 (by decide)) (f 40 (by decide)) d2, (g 7 (by decide)).trans d3, bkM_fr (g 10 (by decide)) (f 41 (by decide)) (f 42 (by decide)) d4, hset_at, b7, b8, b9⟩
abbrev Dr : Type := Sh × Nat × Nat × (Nat → Sh)
def drS (t : Dr) : Dr := if t.1.1 < 6 then (addS t.1 (dcS (nxS t.2.1)), nxS t.2.1, pushN t.2.2.1, pushU t.1 t.2.2.2) else t
def drI : Nat → Dr → Dr
  | 0, t => t
  | i + 1, t => drS (drI i t)
def okD (t : Dr) : Prop := okS t.1 ∧ t.2.1 < 2 ^ 31 ∧ okU t.2.2.1 t.2.2.2
theorem okD_S {t : Dr} (h : okD t) : okD (drS t) := by
  unfold drS
  by_cases q : t.1.1 < 6
  · rw [if_pos q]
    exact ⟨add_ok h.1 q (dcS_lt _), nxS_lt _, okU_push h.1 h.2.2⟩
  · rw [if_neg q]; exact h
theorem okD_I {t : Dr} (h : okD t) : ∀ i, okD (drI i t)
  | 0 => h
  | i + 1 => okD_S (okD_I h i)
theorem drI_full {t : Dr} {i : Nat} (q : ¬ (drI i t).1.1 < 6) : ∀ j, drI (i + j) t = drI i t
  | 0 => rfl
  | j + 1 => by
    show drS (drI (i + j) t) = _
    rw [drI_full q j]
    unfold drS
    rw [if_neg q]
section DRI
variable {m : Nat} {T : Nat → Nat} {F : Int32} {n : Nat} {K : Nat → Nat} {V : Nat → Int32} {G : Nat → Bool} {I : Nat → Sh} {E : Nat → Nat}
theorem driftC {h : Hp} {t : Dr} {N : Nat} (o2 : m ≤ 60 ∧ ∀ i, i < m → T i < 256) (o3 : okB n K) (o6 : okE G I E) (hN : N ≤ 6) (ot : okD t) (c : clI h (t.1, (m, T), F, (n, K, V), nI t.2.1, (t.2.2.1, t.2.2.2), (G, I, E))) : ∃ x : Int32 × Hp, loopN 1000000 (fun s => Jyn_drift_L16 (nI N) s.1 s.2) (0, h) = some x ∧ clI x.2 ((drI N t).1, (m, T), F, (n, K, V), nI (drI N t).2.1, ((drI N t).2.2.1, (drI N t).2.2.2), (G, I, E)) ∧ ∀ p, 36 < p → x.2 p = h p := by
  refine loop_cnt (fun s => Jyn_drift_L16 (nI N) s.1 s.2) (fun i x => x.1 = nI i ∧ clI x.2 ((drI i t).1, (m, T), F, (n, K, V), nI (drI i t).2.1, ((drI i t).2.2.1, (drI i t).2.2.2), (G, I, E)) ∧ ∀ p, 36 < p → x.2 p = h p) (fun x => clI x.2 ((drI N t).1, (m, T), F, (n, K, V), nI (drI N t).2.1, ((drI N t).2.2.1, (drI N t).2.2.2), (G, I, E)) ∧ ∀ p, 36 < p → x.2 p = h p) N (fun i x hi hx => ?_) (fun x hx => ?_) (F := 1000000) (by omega) (a := 0) (Nat.zero_le N) (s := (0, h)) ⟨rfl, c, fun p _ => rfl⟩
  · obtain ⟨a, x⟩ := x
    obtain ⟨e, g1, g2⟩ := hx
    replace e : a = nI i := e
    subst e
    have oi := okD_I ot i
    obtain ⟨w, ew⟩ : ∃ w, w = drI i t := ⟨_, rfl⟩
    replace g1 : clI x (w.1, (m, T), F, (n, K, V), nI w.2.1, (w.2.2.1, w.2.2.2), (G, I, E)) := by rw [ew]; exact g1
    replace g2 : ∀ p, 36 < p → x p = h p := g2
    rw [← ew] at oi
    have nx : drI (i + 1) t = drS w := by rw [ew]; rfl
    by_cases q : w.1.1 < 6
    · have ok : okSt (w.1, (m, T), F, (n, K, V), nI w.2.1, (w.2.2.1, w.2.2.2), (G, I, E)) := ⟨oi.1, o2, o3, nI_pos oi.2.1, oi.2.2, o6⟩
      obtain ⟨h1, a1, a2, a3⟩ := pushC ok g1
      have b1 := drawC oi.2.1 (show h1 0 8 = nI w.2.1 from a2.2.2.2.2.1)
      have b2 := seedC (nI (nxS w.2.1)) a2
      obtain ⟨h3, d1, d2, d3⟩ := addC b2 q (dcS (nxS w.2.1))
      refine Or.inl ⟨(nI (i + 1), h3), ?_, rfl, ?_, fun p hp => ?_⟩
      · show Jyn_drift_L16 (nI N) (nI i) x = _
        unfold Jyn_drift_L16
        rw [if_pos (nI_lt hi (by omega)), isFull_at g1.1 oi.1.1, if_pos q, bd_some, if_pos n0_0, a1, bd_some, b1, bd_some]
        dsimp only
        rw [d1, bd_some, show nI i + (1 : Int32) = nI (i + 1) from nI_add i 1]
      · rw [nx]
        unfold drS
        rw [if_pos q]
        exact d2
      · show h3 p = h p
        rw [d3 p (by omega) (by omega), hset_ne (by omega), a3 p (by omega), g2 p hp]
    · refine Or.inr ⟨(nI i, x), ?_, ?_, g2⟩
      · show Jyn_drift_L16 (nI N) (nI i) x = _
        unfold Jyn_drift_L16
        rw [if_pos (nI_lt hi (by omega)), isFull_at g1.1 oi.1.1, if_neg q, bd_some, if_neg n1_0]
      · have := drI_full (t := t) (i := i) (by rw [← ew]; exact q) (N - i)
        rw [show i + (N - i) = N by omega] at this
        rw [this, ← ew]
        exact g1
  · obtain ⟨a, x⟩ := x
    obtain ⟨e, g1, g2⟩ := hx
    replace e : a = nI N := e
    subst e
    refine ⟨(nI N, x), ?_, g1, g2⟩
    show Jyn_drift_L16 (nI N) (nI N) x = _
    unfold Jyn_drift_L16
    rw [if_neg (nI_nlt (Nat.le_refl N) (by omega))]
theorem driftM {h : Hp} {t : Dr} {N : Nat} (o2 : m ≤ 60 ∧ ∀ i, i < m → T i < 256) (o3 : okB n K) (o6 : okE G I E) (hN : N ≤ 6) (ot : okD t) (c : mdI h (t.1, (m, T), F, (n, K, V), nI t.2.1, (t.2.2.1, t.2.2.2), (G, I, E))) : ∃ x : Int32 × Hp, loopN 1000000 (fun s => Jm_drift_L17 (nI N) s.1 s.2) (0, h) = some x ∧ mdI x.2 ((drI N t).1, (m, T), F, (n, K, V), nI (drI N t).2.1, ((drI N t).2.2.1, (drI N t).2.2.2), (G, I, E)) ∧ ∀ p, p < 37 → x.2 p = h p := by
  refine loop_cnt (fun s => Jm_drift_L17 (nI N) s.1 s.2) (fun i x => x.1 = nI i ∧ mdI x.2 ((drI i t).1, (m, T), F, (n, K, V), nI (drI i t).2.1, ((drI i t).2.2.1, (drI i t).2.2.2), (G, I, E)) ∧ ∀ p, p < 37 → x.2 p = h p) (fun x => mdI x.2 ((drI N t).1, (m, T), F, (n, K, V), nI (drI N t).2.1, ((drI N t).2.2.1, (drI N t).2.2.2), (G, I, E)) ∧ ∀ p, p < 37 → x.2 p = h p) N (fun i x hi hx => ?_) (fun x hx => ?_) (F := 1000000) (by omega) (a := 0) (Nat.zero_le N) (s := (0, h)) ⟨rfl, c, fun p _ => rfl⟩
  · obtain ⟨a, x⟩ := x
    obtain ⟨e, g1, g2⟩ := hx
    replace e : a = nI i := e
    subst e
    have oi := okD_I ot i
    obtain ⟨w, ew⟩ : ∃ w, w = drI i t := ⟨_, rfl⟩
    replace g1 : mdI x (w.1, (m, T), F, (n, K, V), nI w.2.1, (w.2.2.1, w.2.2.2), (G, I, E)) := by rw [ew]; exact g1
    replace g2 : ∀ p, p < 37 → x p = h p := g2
    rw [← ew] at oi
    have nx : drI (i + 1) t = drS w := by rw [ew]; rfl
    have h6 := oi.1.1
    by_cases q : w.1.1 < 6
    · have b1 := drawM oi.2.1 (show x 37 3 = nI w.2.1 from g1.2.2.2.2.1)
      have b2 := seedM (nI (nxS w.2.1)) g1
      have ok : okSt (w.1, (m, T), F, (n, K, V), nI (nxS w.2.1), (w.2.2.1, w.2.2.2), (G, I, E)) := ⟨oi.1, o2, o3, nI_pos (nxS_lt _), oi.2.2, o6⟩
      obtain ⟨h3, d1, d2, d3⟩ := addM ok b2 q (dcS (nxS w.2.1))
      refine Or.inl ⟨(nI (i + 1), h3), ?_, rfl, ?_, fun p hp => ?_⟩
      · show Jm_drift_L17 (nI N) (nI i) x = _
        unfold Jm_drift_L17
        rw [if_pos (nI_lt hi (by omega)), g1.1.1.1, if_pos (show nI w.1.1 < (6 : Int32) from nI_lt (b := 6) q (by decide)), b1, bd_some]
        dsimp only
        rw [d1, bd_some, show nI i + (1 : Int32) = nI (i + 1) from nI_add i 1]
      · rw [nx]
        unfold drS
        rw [if_pos q]
        exact d2
      · show h3 p = h p
        rw [d3 p (by omega) (by omega), hset_ne (by omega), g2 p hp]
    · refine Or.inl ⟨(nI (i + 1), x), ?_, rfl, ?_, g2⟩
      · show Jm_drift_L17 (nI N) (nI i) x = _
        unfold Jm_drift_L17
        rw [if_pos (nI_lt hi (by omega)), g1.1.1.1, if_neg (show ¬ nI w.1.1 < (6 : Int32) from nI_nlt (b := 6) (by omega) (by omega)), show nI i + (1 : Int32) = nI (i + 1) from nI_add i 1]
      · rw [nx]
        unfold drS
        rw [if_neg q]
        exact g1
  · obtain ⟨a, x⟩ := x
    obtain ⟨e, g1, g2⟩ := hx
    replace e : a = nI N := e
    subst e
    refine ⟨(nI N, x), ?_, g1, g2⟩
    show Jm_drift_L17 (nI N) (nI N) x = _
    unfold Jm_drift_L17
    rw [if_neg (nI_nlt (Nat.le_refl N) (by omega))]
end DRI
theorem drift_inv {h : Hp} (v : Int32) (H : Inv h) : ∃ r h1 h2, Jyn_drift v h = some (r, h1) ∧ Jm_drift v h1 = some (r, h2) ∧ Inv h2 := by
  obtain ⟨⟨s, ⟨m, T⟩, F, ⟨n, K, V⟩, sd, ⟨u, U⟩, ⟨G, I, E⟩⟩, ok, c, d⟩ := id H
  by_cases q : v < 0
  · have l1 : v < 1 := by
      rw [Int32.lt_iff_toInt_lt] at q ⊢
      have z : (0 : Int32).toInt = 0 := rfl
      have o : (1 : Int32).toInt = 1 := rfl
      omega
    refine ⟨-1000000002, h, h, ?_, ?_, H⟩
    · unfold Jyn_drift
      rw [if_pos l1]
    · unfold Jm_drift
      rw [show Jm_in (Int32.toInt64 v) 1 6 = some 0 from in_neg (a := 1) q (by decide) _, bd_some, if_pos rfl]
  obtain ⟨N, hN, rfl⟩ := nI_of q
  by_cases n0 : N = 0
  · subst n0
    refine ⟨-1000000002, h, h, ?_, ?_, H⟩
    · unfold Jyn_drift
      rw [if_pos (show nI 0 < (1 : Int32) from nI_lt (b := 1) (by decide) (by decide))]
    · unfold Jm_drift
      rw [show Jm_in (Int32.toInt64 (nI 0)) 1 6 = some 0 from in_low (a := 1) (by decide) (by decide) _, bd_some, if_pos rfl]
  have c1 : ¬ nI N < (1 : Int32) := nI_nlt (b := 1) (by omega) hN
  by_cases n6 : 6 < N
  · refine ⟨-1000000002, h, h, ?_, ?_, H⟩
    · unfold Jyn_drift
      rw [if_neg c1, if_pos (show (6 : Int32) < nI N from nI_lt (a := 6) n6 hN)]
    · unfold Jm_drift
      rw [show Jm_in (Int32.toInt64 (nI N)) 1 6 = some 0 from in_high (b := 6) 1 n6 hN (by decide), bd_some, if_pos rfl]
  obtain ⟨S, hS, rfl⟩ := nI_of ok.2.2.2.1
  have ot : okD (s, S, u, U) := ⟨ok.1, hS, ok.2.2.2.2.1⟩
  have hN6 : N ≤ 6 := by omega
  obtain ⟨o1, o2, o3, o4, o5, o6⟩ := ok
  obtain ⟨x, a1, a2, a3⟩ := driftC (t := (s, S, u, U)) (N := N) o2 o3 o6 hN6 ot c
  have d1 := mdI_C a3 d
  obtain ⟨y, b1, b2, b3⟩ := driftM (t := (s, S, u, U)) (N := N) o2 o3 o6 hN6 ot d1
  have oe := okD_I ot N
  obtain ⟨w, ew⟩ : ∃ w, w = drI N (s, S, u, U) := ⟨_, rfl⟩
  rw [← ew] at a2 b2 oe
  refine ⟨nI w.1.1, x.2, y.2, ?_, ?_, (w.1, (m, T), F, (n, K, V), nI w.2.1, (w.2.2.1, w.2.2.2), (G, I, E)), ⟨oe.1, o2, o3, nI_pos oe.2.1, oe.2.2, o6⟩, clI_M b3 a2, b2⟩
  · unfold Jyn_drift
    rw [if_neg c1, if_neg (show ¬ (6 : Int32) < nI N from nI_nlt (a := 6) (by omega) (by decide)), a1, bd_some, size_at a2.1, bd_some]
  · unfold Jm_drift
    rw [show Jm_in (Int32.toInt64 (nI N)) 1 6 = some 1 from in_yes (a := 1) (b := 6) (by omega) (by omega) (by decide), bd_some, if_neg one0, b1, bd_some, b2.1.1.1]
