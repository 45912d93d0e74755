/-! The class's costs, level by level. -/
noncomputable def FC (s : Sh) (c : Nat) : Option Nat := LV s 9999 c
theorem FC_is (s : Sh) {n : Nat} (h : n = 9999) : FC s = LV s n := by
  subst h
  exact funext fun c => rfl
theorem cnt_pos {f : Nat → Bool} {n : Nat} : cntT f n ≠ 0 ↔ ∃ c, c < n ∧ f c = true := by
  constructor
  · intro h
    obtain ⟨c, h1, h2, -⟩ := cnt_surj (f := f) (n := n) (k := 0) (by omega)
    exact ⟨c, h1, h2⟩
  · intro ⟨c, h1, h2⟩
    have := cnt_lt h1 h2
    omega
theorem cb_LV {s : Sh} {n m : Nat} (h : m ≤ n + 1) (c : Nat) : cb (LV s (n + 1)) m c = cb (LV s n) m c := by
  rw [Bool.eq_iff_iff, cb_iff, cb_iff]
  constructor
  · intro ⟨k, h1, h2⟩; exact ⟨k, (LV_iff (Nat.le_succ n) (by omega)).mp h1, h2⟩
  · intro ⟨k, h1, h2⟩; exact ⟨k, LV_keep h1, h2⟩
theorem CR_row {h : Hp} {s : Sh} {C : Nat → Option Nat} {n : Nat} (hle : ∀ c k, C c = some k → k ≤ n) (H : CR h s C) : ∀ c, c < 256 → (∀ k, C c = some k → h 11 c = nI k ∧ k ≤ n) ∧ (C c = none → h 11 c = -1) :=
  fun c hc => ⟨fun k e => ⟨((H c hc).1 k e).1, hle c k e⟩, fun e => ((H c hc).2 e).1⟩
def RI (h : Hp) (s : Sh) (S n : Nat) : Prop := CR h s (LV s (n - 1)) ∧ (∃ bc st, BC h n (LV s (n - 1)) bc st ∧ SC n (LV s (n - 1)) st) ∧ MS h S ∧ h 10 13 = nI (drN s (n - 1)) ∧ h 10 12 = nI (n - 1) ∧ RB h s
theorem RB_fr {h h' : Hp} {s : Sh} (a : h' 10 8 = h 10 8) (b : ∀ k, h' 17 k = h 17 k) (H : RB h s) : RB h' s := ⟨a.trans H.1, fun f hf => (b f).trans (H.2 f hf)⟩
theorem level_at {h : Hp} {s : Sh} {S n : Nat} {u : Int32} (hS : shC h s) (hs : okS s) (h4 : S < 4096) (hc : ∀ g, chs s g → inT S (s.2.1 g) = true) (hn : 1 ≤ n) (hn2 : n ≤ 9999) (H : RI h s S n) : ∃ h', (lt (hset h 10 12 (nI n)) fun h4 => bd (loopN 1000000 (fun s => Jcs_reckon_L55 u (nI n) s.1 s.2) (0, h4)) fun (t9 : Int32 × Hp) => bd (Jcs_settle t9.2) fun c10 => (some (.inl (nI (n + 1), c10)) : Option ((Int32 × Hp) ⊕ (Int32 × Hp)))) = some (.inl (nI (n + 1), h')) ∧ RI h' s S (n + 1) ∧ RK h h' := by
  obtain ⟨i1, ⟨bc, st, i2, i2'⟩, i3, i4, i5, i6⟩ := H
  have e0 : ∀ p k, ¬ (p = 10 ∧ k = 12) → hset h 10 12 (nI n) p k = h p k := fun p k w => by rw [hset_if, if_neg w]
  obtain ⟨r, l1, c1, c2, c3, c4, c5, c6⟩ := loop_cnt (fun t => Jcs_reckon_L55 u (nI n) t.1 t.2) (fun F t => t.1 = nI F ∧ CR t.2 s (LVp s n F) ∧ BC t.2 n (LV s (n - 1)) bc st ∧ MS t.2 S ∧ (t.2 10 12 = nI n ∧ t.2 10 13 = nI (drN s (n - 1))) ∧ RB t.2 s ∧ RK h t.2) (fun t => CR t.2 s (LVp s n 6) ∧ BC t.2 n (LV s (n - 1)) bc st ∧ MS t.2 S ∧ (t.2 10 12 = nI n ∧ t.2 10 13 = nI (drN s (n - 1))) ∧ RB t.2 s ∧ RK h t.2) 6 (fun F t hF ht => by
      obtain ⟨F', hh⟩ := t
      obtain ⟨e1, c1, c2, c3, ⟨c4, c4'⟩, c5, c6⟩ := ht
      replace e1 : F' = nI F := e1
      subst e1
      replace c1 : CR hh s (LVp s n F) := c1
      replace c2 : BC hh n (LV s (n - 1)) bc st := c2
      replace c3 : MS hh S := c3
      replace c4 : hh 10 12 = nI n := c4
      replace c4' : hh 10 13 = nI (drN s (n - 1)) := c4'
      replace c5 : RB hh s := c5
      replace c6 : RK h hh := c6
      have hS' := shC_RK c6 hS
      have a1 := isChosen_at hS' hs hF
      by_cases b : chsB s F = true
      · have bF := chsB_iff.mp b
        rw [if_pos b] at a1
        have a2 := codeAt_in hS' hs.1 bF.1
        have hf := hs.2.1 F bF.1
        obtain ⟨h2, k1, k2, k3⟩ := tryTop_at (t := F) (show n < 2 ^ 31 by omega) hf c2 c4 c3 (fun c w => S1_inT h4 hf (fun x i hx e => inT_LV hs h4 hc _ hx e) (hc F bF) w)
        have r0 : ∀ p k, p ≠ 11 → p ≠ 12 → p ≠ 19 → p ≠ 16 → p ≠ 18 → p ≠ 10 → h2 p k = hh p k := fun p k w1 w2 w3 w4 w5 w6 => k3 p k w1 w2 w3 w4 w5 (fun w => w6 w.1)
        have r10 : ∀ k, k ≠ 11 → k ≠ 14 → h2 10 k = hh 10 k := fun k w1 w2 => k3 10 k (by decide) (by decide) (by decide) (by decide) (by decide) (fun w => by rcases w.2 with q | q; exact w1 q; exact w2 q)
        have M2 : MS h2 S := MS_mono (r10 10 (by decide) (by decide)) (fun k => r0 15 k (by decide) (by decide) (by decide) (by decide) (by decide) (by decide)) (fun c hc e => Mk_un k2 hc e) c3
        obtain ⟨h3, j1, j2, j3⟩ := dropMade_at M2
        refine Or.inl ⟨(nI (F + 1), h3), ?_, rfl, ?_, ?_, j2, ⟨?_, ?_⟩, ?_, ?_⟩
        · simp (disch := omega) only [Jcs_reckon_L55, a1, a2, k1, j1, bd_some, lt_of', sm_l, sm_r, lit, lN_n, hset_if, nI_ltP, nI_eqI, nI_add, nI_sub, nI_clamp, ib_nI, cond_true, if_pos, if_neg, and_self, and_true, true_and, false_and, and_false, ↓reduceIte, eq_self, nI_m1]
          all_goals simp
        · exact CR_fr (fun k => j3 11 k (by decide) (by simp)) (fun k => j3 12 k (by decide) (by simp)) (CR_step hn (by omega) hs bF c1 k2)
        · exact BC_fr (fun k => (j3 13 k (by decide) (by simp)).trans (r0 13 k (by decide) (by decide) (by decide) (by decide) (by decide) (by decide))) (fun k => (j3 14 k (by decide) (by simp)).trans (r0 14 k (by decide) (by decide) (by decide) (by decide) (by decide) (by decide))) ((j3 10 9 (by decide) (by decide)).trans (r10 9 (by decide) (by decide))) c2
        · exact ((j3 10 12 (by decide) (by decide)).trans (r10 12 (by decide) (by decide))).trans c4
        · exact ((j3 10 13 (by decide) (by decide)).trans (r10 13 (by decide) (by decide))).trans c4'
        · exact RB_fr ((j3 10 8 (by decide) (by decide)).trans (r10 8 (by decide) (by decide))) (fun k => (j3 17 k (by decide) (by simp)).trans (r0 17 k (by decide) (by decide) (by decide) (by decide) (by decide) (by decide))) c5
        · intro p k w
          exact ((j3 p k (by omega) (by omega)).trans (r0 p k (by omega) (by omega) (by omega) (by omega) (by omega) (by omega))).trans (c6 p k w)
      · rw [if_neg b] at a1
        refine Or.inl ⟨(nI (F + 1), hh), ?_, rfl, CR_skip (fun w => b (chsB_iff.mpr w)) c1, c2, c3, ⟨c4, c4'⟩, c5, c6⟩
        simp (disch := omega) only [Jcs_reckon_L55, a1, bd_some, lt_of', sm_l, sm_r, lit, lN_n, hset_if, nI_ltP, nI_eqI, nI_add, nI_sub, nI_clamp, ib_nI, cond_true, if_pos, if_neg, and_self, and_true, true_and, false_and, and_false, ↓reduceIte, eq_self, nI_m1]
        all_goals simp) (fun t ht => by
      obtain ⟨F', hh⟩ := t
      obtain ⟨e1, c1⟩ := ht
      replace e1 : F' = nI 6 := e1
      subst e1
      exact ⟨(nI 6, hh), by simp (disch := omega) only [Jcs_reckon_L55, bd_some, lt_of', sm_l, sm_r, lit, lN_n, hset_if, nI_ltP, nI_eqI, nI_add, nI_sub, nI_clamp, ib_nI, cond_true, if_pos, if_neg, and_self, and_true, true_and, false_and, and_false, ↓reduceIte, eq_self, nI_m1], c1⟩) (F := 1000000) (by omega) (a := 0) (by omega) (s := (0, hset h 10 12 (nI n))) ⟨rfl, by
        rw [LVp_0]
        exact CR_fr (fun k => e0 11 k (by simp)) (fun k => e0 12 k (by simp)) i1, BC_fr (fun k => e0 13 k (by simp)) (fun k => e0 14 k (by simp)) (e0 10 9 (by simp)) i2, MS_mono (e0 10 10 (by simp)) (fun k => e0 15 k (by simp)) (fun c _ w => by rw [← e0 11 c (by simp)]; exact w) i3, ⟨by
        show hset h 10 12 (nI n) 10 12 = _
        rw [hset_if, if_pos (by decide)], (e0 10 13 (by simp)).trans i4⟩, RB_fr (e0 10 8 (by simp)) (fun k => e0 17 k (by simp)) i6, fun p k w => e0 p k (by omega)⟩
  obtain ⟨m, rfl⟩ : ∃ m, n = m + 1 := ⟨n - 1, by omega⟩
  have hm : m + 1 - 1 = m := rfl
  rw [LVp_6 hs.1] at c1
  simp only [hm] at c2 c4 i2'
  obtain ⟨c4, c4'⟩ := c4
  have lst : r.2 10 9 = nI (st (m + 1)) := c2.2.2.2.2.2.2.2.2.2
  have s14 : r.2 14 (m + 1) = nI (st (m + 1)) := c2.2.2.2.2.1 (m + 1) (Nat.le_refl _)
  obtain ⟨h5, bc', st', k1, k2, k3, k4, k5⟩ := settle_at (C0 := LV s m) (C := LV s (m + 1)) (bc := bc) (st := st) (show m + 1 < 10000 by omega) c4 (BC_fr (fun k => by rw [hset_if, if_neg (by simp)]) (fun k => by
      rw [hset_if]
      by_cases z : k = m + 1
      · rw [if_pos ⟨rfl, z⟩, z, lst, s14]
      · rw [if_neg (fun w => z w.2)]) (by rw [hset_if, if_neg (by simp)]) c2) (fun k hk => by
      rw [i2' k hk]
      exact cnt_eq fun c _ => (cb_LV hk c).symm) (fun k hk c hc => (LV_iff (Nat.le_succ m) (by omega)).symm) (CR_row (fun c k e => (LV_at e).1) c1) (fun z => absurd z (by omega))
  refine ⟨h5, ?_, ⟨CR_fr (fun k => k5 11 k (by decide) (by decide) (by simp)) (fun k => k5 12 k (by decide) (by decide) (by simp)) c1, ⟨bc', st', k2, k3⟩, ?_, ?_, (k5 10 12 (by decide) (by decide) (by decide)).trans c4, ?_⟩, ?_⟩
  · rw [lt_of', l1, bd_some, k1, bd_some]
  · exact MS_mono (k5 10 10 (by decide) (by decide) (by decide)) (fun k => k5 15 k (by decide) (by decide) (by simp)) (fun c _ w => by rw [← k5 11 c (by decide) (by decide) (by simp)]; exact w) c3
  · rw [k4, c4']
    show _ = nI (drN s (m + 1))
    simp only [drN]
    by_cases q : ∃ c, c < 256 ∧ LV s (m + 1) c = some (m + 1)
    · rw [if_pos q, if_neg]
      obtain ⟨c, q1, q2⟩ := q
      exact cnt_pos.mpr ⟨c, q1, ce_iff.mpr q2⟩
    · rw [if_neg q, if_pos]
      refine Classical.byContradiction fun w => ?_
      obtain ⟨c, q1, q2⟩ := cnt_pos.mp w
      exact q ⟨c, q1, ce_iff.mp q2⟩
  · exact RB_fr (k5 10 8 (by decide) (by decide) (by decide)) (fun k => k5 17 k (by decide) (by decide) (by simp)) c5
  · intro p k w
    exact (k5 p k (by omega) (by omega) (by omega)).trans (c6 p k w)
theorem LV_big {s : Sh} (hs : okS s) : ∀ (n : Nat) {c : Nat}, 256 ≤ c → LV s n c = none
  | 0, c, h => (LV_0n s c).mpr (fun w => by rcases w with w | w | w <;> omega)
  | n + 1, c, h => by
    refine LV_not (LV_big hs n h) ?_
    intro ⟨f, hf, x, y, z, w⟩
    have h1 := hs.2.1 f hf.1
    rcases w with ⟨-, -, e, -⟩ | ⟨-, -, e, -⟩ | ⟨-, -, e, -⟩ | ⟨-, -, e, -⟩
    · omega
    · have := pN_lt (s.2.1 f) x 0 0; omega
    · have := pN_lt (s.2.1 f) x y 0; omega
    · have := pN_lt (s.2.1 f) x y z; omega
/-- where all of the place is made, nothing comes any more -/
theorem LV_full {s : Sh} {S n : Nat} (hs : okS s) (h4 : S < 4096) (hc : ∀ g, chs s g → inT S (s.2.1 g) = true) (full : ∀ c, c < 256 → inT S c = true → LV s n c ≠ none) : ∀ m, n ≤ m → ∀ c, LV s m c = LV s n c := by
  intro m hm c
  cases q : LV s n c with
  | some k => exact LV_mono hm q
  | none =>
    cases q2 : LV s m c with
    | none => rfl
    | some k =>
      by_cases z : c < 256
      · exact absurd q (full c z (inT_LV hs h4 hc m z q2))
      · rw [LV_big hs m (by omega)] at q2; cases q2
theorem FC_fin {s : Sh} {n : Nat} (hn : n ≤ 9999) (h : ∀ m, n ≤ m → ∀ c, LV s m c = LV s n c) : FC s = LV s n := funext fun c => h 9999 hn c
noncomputable def gr (s : Sh) : Nat := drN s 9999
theorem gr_of {s : Sh} {n : Nat} (h : FC s = LV s n) : gr s = drN s n := by
  obtain ⟨c, c1, c2⟩ := drN_is s n
  obtain ⟨d, d1, d2⟩ := drN_is s 9999
  have e1 := drN_max (s := s) (n := 9999) c1 (by show FC s c = _; rw [h]; exact c2)
  have e2 := drN_max (s := s) (n := n) d1 (by rw [← h]; exact d2)
  unfold gr
  omega
/-- the class's costs hold for this shelf -/
def CF (h : Hp) (s : Sh) : Prop := CR h s (FC s) ∧ RB h s ∧ h 10 13 = nI (gr s) ∧ ∃ n bc st, 1 ≤ n ∧ BC h n (FC s) bc st ∧ SC n (FC s) st ∧ h 10 12 = nI (n - 1) ∧ ∀ c k, FC s c = some k → k < n
theorem CF_of {h : Hp} {s : Sh} {S n : Nat} (hn : 1 ≤ n) (e : FC s = LV s (n - 1)) (H : RI h s S n) : CF h s := by
  obtain ⟨i1, ⟨bc, st, i2, i2'⟩, i3, i4, i5, i6⟩ := H
  unfold CF
  rw [gr_of e, e]
  exact ⟨i1, i6, i4, n, bc, st, hn, i2, i2', i5, fun c k w => by have := (LV_at w).1; omega⟩
theorem CF_fr {h h' : Hp} {s : Sh} (e8 : h' 10 8 = h 10 8) (e9 : h' 10 9 = h 10 9) (e12 : h' 10 12 = h 10 12) (e13 : h' 10 13 = h 10 13) (f11 : ∀ k, h' 11 k = h 11 k) (f12 : ∀ k, h' 12 k = h 12 k) (f13 : ∀ k, h' 13 k = h 13 k) (f14 : ∀ k, h' 14 k = h 14 k) (f17 : ∀ k, h' 17 k = h 17 k) (H : CF h s) : CF h' s := by
  obtain ⟨a, b, c, n, bc, st, d1, d2, d3, d4, d5⟩ := H
  exact ⟨CR_fr f11 f12 a, RB_fr e8 f17 b, e13.trans c, n, bc, st, d1, BC_fr f13 f14 e9 d2, d3, e12.trans d4, d5⟩
theorem reckon_at {h : Hp} {s : Sh} {S : Nat} (hS : shC h s) (hs : okS s) (hP : CP h) (h4 : S < 4096) (hc : ∀ g, chs s g → inT S (s.2.1 g) = true) : ∃ h', Jcs_reckon (nI S) h = some h' ∧ CF h' s ∧ RK h h' := by
  obtain ⟨h1, a1, a2, a3, a4, a5, a6, a7⟩ := start_at hS hs
  obtain ⟨h2, b1, b2, b3⟩ := miss_at (CP_RK a7 hP) h4
  have e0 : ∀ c k, LV s 0 c = some k → k ≤ 0 := fun c k e => (LV_at e).1
  have C2 : CR h2 s (LV s 0) := CR_fr (fun k => b3 11 k (by decide) (by simp)) (fun k => b3 12 k (by decide) (by simp)) a3
  have e9 : h2 10 9 = nI 0 := (b3 10 9 (by decide) (by decide)).trans a4
  obtain ⟨h3, bc, st, k1, k2, k3, k4, k5⟩ := settle_at (L := 0) (C0 := LV s 0) (C := LV s 0) (bc := fun _ => 0) (st := fun _ => 0) (by omega) ((b3 10 12 (by decide) (by decide)).trans a5) ⟨by omega, Nat.zero_le 256, fun m hm => absurd hm (by omega), fun i hi => absurd hi (Nat.not_lt_zero i), fun m hm => by
      rw [show m = 0 by omega, hset_if, if_pos ⟨rfl, rfl⟩, e9], fun m hm => absurd hm (by omega), fun m hm => absurd hm (by omega), fun q => absurd q (by omega), rfl, by rw [hset_if, if_neg (by decide)]; exact e9⟩ (fun m hm => by
      refine (cnt_z fun c _ => ?_).symm
      cases q : cb (LV s 0) m c with
      | false => rfl
      | true => obtain ⟨k, -, q2⟩ := cb_iff.mp q; omega) (fun m hm => absurd hm (by omega)) (CR_row e0 C2) (fun _ c _ => LV_0 s c)
  have R : RI h3 s S 1 := by
    refine ⟨CR_fr (fun k => k5 11 k (by decide) (by decide) (by simp)) (fun k => k5 12 k (by decide) (by decide) (by simp)) C2, ⟨bc, st, k2, k3⟩, MS_mono (k5 10 10 (by decide) (by decide) (by decide)) (fun k => k5 15 k (by decide) (by decide) (by simp)) (fun c _ w => by rw [← k5 11 c (by decide) (by decide) (by simp)]; exact w) b2, ?_, (k5 10 12 (by decide) (by decide) (by decide)).trans ((b3 10 12 (by decide) (by decide)).trans a5), RB_fr ((k5 10 8 (by decide) (by decide) (by decide)).trans (b3 10 8 (by decide) (by decide))) (fun k => (k5 17 k (by decide) (by decide) (by simp)).trans (b3 17 k (by decide) (by simp))) a2⟩
    rw [k4]
    show _ = nI 0
    rw [(b3 10 13 (by decide) (by decide)).trans a6]
    by_cases q : cntT (ce (LV s 0) 0) 256 = 0
    · rw [if_pos q]
    · rw [if_neg q]
  have K3 : RK h h3 := fun p k w => ((k5 p k (by omega) (by omega) (by omega)).trans (b3 p k (by omega) (by omega))).trans (a7 p k w)
  obtain ⟨r, l1, l2, l3⟩ := loop_cnt (fun t => Jcs_reckon_L18 (nI S) t.1 t.2) (fun n t => t.1 = nI n ∧ 1 ≤ n ∧ RI t.2 s S n ∧ RK h t.2) (fun r => CF r.2 s ∧ RK h r.2) 10000 (fun n t hn ht => by
      obtain ⟨n', hh⟩ := t
      obtain ⟨e1, c1, c2, c3⟩ := ht
      replace e1 : n' = nI n := e1
      subst e1
      replace c2 : RI hh s S n := c2
      replace c3 : RK h hh := c3
      have c2' := c2
      obtain ⟨i1, i2, ⟨q, mi, m1, m2, m3, m4⟩, i4, i5, i6⟩ := c2'
      have dle := drN_le s (n - 1)
      have n1 : ¬ (9999 : Int32) < nI n := fun w => absurd ((nI_ltI (a := 9999) (by omega) (by omega)).mp w) (by omega)
      have arith : ((3 : Int32) * nI (drN s (n - 1))) + (1 : Int32) = nI (3 * drN s (n - 1) + 1) := by
        rw [lit 3, lit 1, nI_mul, nI_add]
      by_cases d : 3 * drN s (n - 1) + 1 < n
      · refine Or.inr ⟨(nI n, hh), ?_, CF_of c1 (FC_fin (by omega) fun m hm c => ?_) c2, c3⟩
        · show Jcs_reckon_L18 (nI S) (nI n) hh = _
          unfold Jcs_reckon_L18
          rw [if_neg n1, i4, arith, if_pos ((nI_ltI (by omega) (by omega)).mpr d)]
        · exact congrFun (LV_stop (s := s) (n := n - 1) (by omega) m hm).1 c
      · have d' : ¬ nI (3 * drN s (n - 1) + 1) < nI n := fun w => d ((nI_ltI (by omega) (by omega)).mp w)
        by_cases z : q = 0
        · subst z
          refine Or.inr ⟨(nI n, hh), ?_, CF_of c1 (FC_fin (by omega) (LV_full hs h4 hc fun c hc' w e => ?_)) c2, c3⟩
          · show Jcs_reckon_L18 (nI S) (nI n) hh = _
            unfold Jcs_reckon_L18
            rw [if_neg n1, i4, arith, if_neg d', m1, if_neg (by decide)]
          · obtain ⟨i, w1, -⟩ := m4 c hc' ((i1 c hc').2 e).1 w
            omega
        · obtain ⟨h', j1, j2, j3⟩ := level_at (u := nI S) (n := n) (shC_RK c3 hS) hs h4 hc c1 (by omega) c2
          refine Or.inl ⟨(nI (n + 1), h'), ?_, rfl, by omega, j2, RK_tr c3 j3⟩
          show Jcs_reckon_L18 (nI S) (nI n) hh = _
          unfold Jcs_reckon_L18
          rw [if_neg n1, i4, arith, if_neg d', m1, if_pos (show (0 : Int32) < nI q from (nI_ltI (a := 0) (by omega) (by omega)).mpr (by omega)), lit 1, nI_add]
          exact j1) (fun t ht => by
      obtain ⟨n', hh⟩ := t
      obtain ⟨e1, c1, c2, c3⟩ := ht
      replace e1 : n' = nI 10000 := e1
      subst e1
      refine ⟨(nI 10000, hh), ?_, CF_of c1 (FC_is s (by omega)) c2, c3⟩
      show Jcs_reckon_L18 (nI S) (nI 10000) hh = _
      unfold Jcs_reckon_L18
      rw [if_pos (by decide)]) (F := 1000000) (by omega) (a := 1) (by omega) (s := (1, h3)) ⟨rfl, Nat.le_refl 1, R, K3⟩
  refine ⟨r.2, ?_, l2, l3⟩
  unfold Jcs_reckon
  rw [a1, bd_some, b1, bd_some, k1, bd_some]
  exact bd_of l1
