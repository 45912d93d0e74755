/-! Places: the model's tables. -/
def tLaid (h : Hp) : Prop := h 37 12 = nI 1 ∧ ∀ c, c < 256 → h 43 c = nI (trN c)
def tRaw (h : Hp) : Prop := h 37 12 = nI 0 ∧ ∀ c, c < 256 → h 43 c = nI 0
def pLaid (h : Hp) : Prop := tLaid h ∧ h 37 14 = nI 46 ∧ ∀ k, k < 46 → h 44 k = nI (plN k)
def rLaid (h : Hp) : Prop := pLaid h ∧ h 37 16 = nI 1 ∧ ∀ k, k < 46 → h 45 k = nI (rkS (plN k))
def MC (h : Hp) : Prop := (tRaw h ∨ tLaid h) ∧ (h 37 14 = nI 0 ∨ pLaid h) ∧ (h 37 16 = nI 0 ∨ rLaid h)
theorem tLaid_fr {h h' : Hp} (a : h' 37 12 = h 37 12) (b : h' 43 = h 43) (H : tLaid h) : tLaid h' := ⟨by rw [a]; exact H.1, fun c hc => by rw [b]; exact H.2 c hc⟩
theorem tRaw_fr {h h' : Hp} (a : h' 37 12 = h 37 12) (b : h' 43 = h 43) (H : tRaw h) : tRaw h' := ⟨by rw [a]; exact H.1, fun c hc => by rw [b]; exact H.2 c hc⟩
theorem pLaid_fr {h h' : Hp} (a : h' 37 12 = h 37 12) (b : h' 43 = h 43) (c : h' 37 14 = h 37 14) (d : h' 44 = h 44) (H : pLaid h) : pLaid h' := ⟨tLaid_fr a b H.1, by rw [c]; exact H.2.1, fun k hk => by rw [d]; exact H.2.2 k hk⟩
theorem rLaid_fr {h h' : Hp} (a : h' 37 12 = h 37 12) (b : h' 43 = h 43) (c : h' 37 14 = h 37 14) (d : h' 44 = h 44) (e : h' 37 16 = h 37 16) (f : h' 45 = h 45) (H : rLaid h) : rLaid h' := ⟨pLaid_fr a b c d H.1, by rw [e]; exact H.2.1, fun k hk => by rw [f]; exact H.2.2 k hk⟩
theorem MC_fr {h h' : Hp} (a : h' 37 12 = h 37 12) (b : h' 43 = h 43) (c : h' 37 14 = h 37 14) (d : h' 44 = h 44) (e : h' 37 16 = h 37 16) (f : h' 45 = h 45) (H : MC h) : MC h' :=
  ⟨H.1.imp (tRaw_fr a b) (tLaid_fr a b), H.2.1.imp (fun q => by rw [c]; exact q) (pLaid_fr a b c d), H.2.2.imp (fun q => by rw [e]; exact q) (rLaid_fr a b c d e f)⟩
theorem trp_lt {c t : Nat} (hc : c < 256) (ht : t < 13) : trp c t < 4096 := (ta_at hc).2.2.2.2.2.2.2 t ht
theorem lay18 {x : Hp} {c : Nat} (hc : c < 256) (h0 : x 43 c = nI 0) : ∃ r, loopN 1000000 (fun s => Jm_layTraits_L18 (nI c) s.1 s.2) (0, x) = some r ∧ r.2 43 c = nI (trN c) ∧ (∀ j, j ≠ c → r.2 43 j = x 43 j) ∧ ∀ p, p ≠ 43 → r.2 p = x p := by
  refine loop_cnt (fun s => Jm_layTraits_L18 (nI c) s.1 s.2) (fun t s => s.1 = nI t ∧ s.2 43 c = nI (trp c t) ∧ (∀ j, j ≠ c → s.2 43 j = x 43 j) ∧ ∀ p, p ≠ 43 → s.2 p = x p) (fun r => r.2 43 c = nI (trN c) ∧ (∀ j, j ≠ c → r.2 43 j = x 43 j) ∧ ∀ p, p ≠ 43 → r.2 p = x p) 12 (fun t s ht hs => ?_) (fun s hs => ?_) (by omega) (a := 0) (by omega) ⟨rfl, h0, fun _ _ => rfl, fun _ _ => rfl⟩
  · obtain ⟨a, y⟩ := s
    obtain ⟨rfl, g1, g2, g3⟩ := hs
    simp only at g1 g2 g3
    have hf := (ft_at hc ht).2
    have hm := (ta_at hc).2.2.2.2.2.2.1 t ht
    refine Or.inl ⟨(nI (t + 1), hset y 43 c (nI (trp c (t + 1)))), ?_, rfl, by simp [hset_if], fun j hj => ?_, fun p hp => ?_⟩
    · rw [trp_succ]
      show Jm_layTraits_L18 (nI c) (nI t) y = _
      unfold Jm_layTraits_L18
      refine (if_pos (nI_lt (b := 12) ht (by decide))).trans ?_
      rw [ib_nI hc (by omega)]
      simp only [cond_true]
      refine (bd_of hf).trans ?_
      rw [nI_clamp (by omega), g1, shl1 (by omega), nI_or]
      by_cases q : ftI c t = -1
      · rw [if_pos (hm.mpr q), if_pos q, nI_1]
        rfl
      · rw [if_neg (fun z => q (hm.mp z)), if_neg q, nI_1]
        rw [show (0 : Int32) = nI 0 from rfl, nI_or, Nat.or_zero]
        rfl
    · show hset y 43 c _ 43 j = _
      rw [hset_ne2 hj]; exact g2 j hj
    · show hset y 43 c _ p = _
      rw [hset_ne hp]; exact g3 p hp
  · obtain ⟨a, y⟩ := s
    obtain ⟨rfl, g1, g2, g3⟩ := hs
    exact ⟨(nI 12, y), by simp (disch := omega) only [Jm_layTraits_L18, bd_some, lt_of', sm_l, sm_r, lit, lN_n, hset_if, nI_ltP, nI_eqI, nI_add, nI_sub, nI_clamp, ib_nI, cond_true, if_pos, if_neg, and_self, and_true, true_and, false_and, and_false, ↓reduceIte, eq_self, nI_m1], by rw [(ta_at hc).2.2.2.2.2.1]; exact g1, g2, g3⟩
theorem layTraits_at {h : Hp} (H : tRaw h ∨ tLaid h) : ∃ h', Jm_layTraits h = some h' ∧ tLaid h' ∧ (∀ j, j ≠ 12 → h' 37 j = h 37 j) ∧ ∀ p, p ≠ 37 → p ≠ 43 → h' p = h p := by
  have key : ∃ r, loopN 1000000 (fun s => Jm_layTraits_L2 s.1 s.2) (0, h) = some r ∧ (∀ c, c < 256 → r.2 43 c = nI (trN c)) ∧ ∀ p, p ≠ 43 → r.2 p = h p := by
    rcases H with ⟨H1, H2⟩ | ⟨H1, H2⟩
    · refine loop_cnt (fun s => Jm_layTraits_L2 s.1 s.2) (fun i s => s.1 = nI i ∧ (∀ c, c < i → s.2 43 c = nI (trN c)) ∧ (∀ c, i ≤ c → c < 256 → s.2 43 c = nI 0) ∧ ∀ p, p ≠ 43 → s.2 p = h p) (fun r => (∀ c, c < 256 → r.2 43 c = nI (trN c)) ∧ ∀ p, p ≠ 43 → r.2 p = h p) 256 (fun i s hi hs => ?_) (fun s hs => ?_) (by omega) (a := 0) (by omega) ⟨rfl, fun c hc => absurd hc (Nat.not_lt_zero c), fun c _ hc => H2 c hc, fun _ _ => rfl⟩
      · obtain ⟨a, x⟩ := s
        obtain ⟨rfl, g1, g2, g3⟩ := hs
        simp only at g1 g2 g3
        have h12 : x 37 12 = nI 0 := by rw [g3 37 (by decide)]; exact H1
        obtain ⟨r, e1, e2, e3, e4⟩ := lay18 (x := x) hi (g2 i (Nat.le_refl i) hi)
        refine Or.inl ⟨(nI (i + 1), r.2), ?_, rfl, fun c hc => ?_, fun c h1 h2 => ?_, fun p hp => (e4 p hp).trans (g3 p hp)⟩
        · show Jm_layTraits_L2 (nI i) x = _
          unfold Jm_layTraits_L2
          refine (if_pos (nI_lt (b := 256) hi (by decide))).trans ?_
          rw [h12]
          refine (if_pos (show nI 0 = 0 from rfl)).trans ?_
          refine (bd_of e1).trans ?_
          rw [nI_1]
        · show r.2 43 c = _
          by_cases q : c = i
          · rw [q]; exact e2
          · rw [e3 c q]; exact g1 c (by omega)
        · show r.2 43 c = _
          rw [e3 c (by omega)]; exact g2 c (by omega) h2
      · obtain ⟨a, x⟩ := s
        obtain ⟨rfl, g1, g2, g3⟩ := hs
        exact ⟨(nI 256, x), by simp (disch := omega) only [Jm_layTraits_L2, bd_some, lt_of', sm_l, sm_r, lit, lN_n, hset_if, nI_ltP, nI_eqI, nI_add, nI_sub, nI_clamp, ib_nI, cond_true, if_pos, if_neg, and_self, and_true, true_and, false_and, and_false, ↓reduceIte, eq_self, nI_m1], g1, g3⟩
    · refine ⟨(0, h), ?_, H2, fun _ _ => rfl⟩
      rw [show (1000000 : Nat) = 999999 + 1 from rfl]
      refine loopN_out ?_ _
      show Jm_layTraits_L2 (nI 0) h = _
      simp (disch := omega) only [Jm_layTraits_L2, H1, bd_some, lt_of', sm_l, sm_r, lit, lN_n, hset_if, nI_ltP, nI_eqI, nI_add, nI_sub, nI_clamp, ib_nI, cond_true, if_pos, if_neg, and_self, and_true, true_and, false_and, and_false, ↓reduceIte, eq_self, nI_m1]
  obtain ⟨r, e1, e2, e3⟩ := key
  refine ⟨hset r.2 37 12 1, ?_, ⟨by simp [hset_if]; rfl, fun c hc => by simp [hset_if]; exact e2 c hc⟩, fun j hj => ?_, fun p h1 h2 => ?_⟩
  · unfold Jm_layTraits
    exact (bd_of e1).trans rfl
  · rw [hset_ne2 hj, e3 37 (by decide)]
  · rw [hset_ne h1, e3 p h2]
/-- the model's fold over the codes -/
def shT (s n : Nat) : Nat := shF s ((List.range n).map trN) 4095
theorem shT_succ (s n : Nat) : shT s (n + 1) = bif inT s n then shT s n &&& trN n else shT s n := by
  simp [shT, List.range_succ, shF, inT]
theorem shF_bit (s t : Nat) : ∀ (l : List Nat) (a : Nat), (shF s l a).testBit t = (a.testBit t && l.all fun x => !(Nat.beq (x &&& s) s) || x.testBit t)
  | [], a => by simp [shF]
  | x :: l, a => by
    have ih := shF_bit s t l (bif Nat.beq (x &&& s) s then a &&& x else a)
    simp only [shF, List.foldl_cons] at ih ⊢
    rw [ih]
    simp only [List.all_cons]
    cases Nat.beq (x &&& s) s <;> simp [Bool.and_assoc]
theorem pcE_at {c : Nat} (hc : c < 256) : trN c ∈ DTl ∧ isP (trN c) = true ∧ ∀ k, k < 46 → isP (plN k &&& trN c) = true ∧ (plN k &&& trN c) < 4096 ∧ rkS (plN k &&& trN c) ≤ rkS (plN k) + 1 := by
  have h := al pcE_ok hc
  simp only [pcE, Bool.and_eq_true] at h
  obtain ⟨⟨a, b⟩, d⟩ := h
  refine ⟨List.contains_iff_mem.mp a, b, fun k hk => ?_⟩
  have g := al d hk
  simp only [Bool.and_eq_true] at g
  exact ⟨g.1.1, Nat.lt_succ_of_le (Nat.le_of_ble_eq_true g.1.2), Nat.le_of_ble_eq_true g.2⟩
theorem shT_D (s : Nat) : shT s 256 = shD s := by
  apply Nat.eq_of_testBit_eq
  intro t
  unfold shT shD
  rw [shF_bit, shF_bit]
  congr 1
  rw [Bool.eq_iff_iff, List.all_eq_true, List.all_eq_true]
  constructor
  · intro h x hx
    have h1 := List.all_eq_true.mp pcF_ok x hx
    obtain ⟨c, hc, e⟩ := List.any_eq_true.mp h1
    rw [← Nat.eq_of_beq_eq_true e]
    exact h _ (List.mem_map.mpr ⟨c, hc, rfl⟩)
  · intro h x hx
    obtain ⟨c, hc, rfl⟩ := List.mem_map.mp hx
    exact h _ (pcE_at (List.mem_range.mp hc)).1
theorem shD_lt (s : Nat) : shD s < 4096 := shF_lt s _ _ (by decide)
theorem hasAll_at {c s : Nat} (hc : c < 256) (hs : s < 4096) : Jm_hasAll (nI (trN c)) (nI s) = some (nI (if inT s c = true then 1 else 0)) := by
  unfold Jm_hasAll
  have h1 : trN c < 4096 := (ta_at hc).1
  have h2 : trN c &&& s < 4096 := and_lt4 h1
  rw [nI_and]
  cases b : inT s c with
  | true => rw [if_pos (by rw [inT_e b]), if_pos rfl]; rfl
  | false => rw [if_neg (fun q => inT_n b ((nI_eq (by omega) (by omega)).mp q)), if_neg (by decide)]; rfl
theorem shut_at {h : Hp} (H : tLaid h) {s : Nat} (hs : s < 4096) : Jm_shut (nI s) h = some (nI (shD s)) := by
  have s4 : ∀ n, shT s n < 4096 := fun n => shF_lt s _ _ (by decide)
  obtain ⟨r, e1, e2⟩ := loop_cnt (fun x => Jm_shut_L6 (nI s) h x.1 x.2) (fun i x => x = (nI (shT s i), nI i)) (fun r => r.1 = nI (shT s 256)) 256 (fun i x hi hx => by
    subst hx
    have a1 := H.2 i hi
    have a2 := hasAll_at hi hs
    have a3 := and4095 (s4 i)
    refine Or.inl ⟨_, ?_, rfl⟩
    rw [shT_succ]
    cases b1 : inT s i with
    | false =>
      rw [b1] at a2
      simp (disch := omega) only [Jm_shut_L6, a1, a2, nI_and, a3, bd_some, lt_of', sm_l, sm_r, lit, lN_n, hset_if, nI_ltP, nI_eqI, nI_add, nI_sub, nI_clamp, ib_nI, cond_true, if_pos, if_neg, and_self, and_true, true_and, false_and, and_false, ↓reduceIte, eq_self, nI_m1]
      simp [a3]
    | true =>
      rw [b1] at a2
      simp (disch := omega) only [Jm_shut_L6, a1, a2, nI_and, bd_some, lt_of', sm_l, sm_r, lit, lN_n, hset_if, nI_ltP, nI_eqI, nI_add, nI_sub, nI_clamp, ib_nI, cond_true, if_pos, if_neg, and_self, and_true, true_and, false_and, and_false, ↓reduceIte, eq_self, nI_m1]) (fun x hx => by
    subst hx
    exact ⟨(nI (shT s 256), nI 256), by simp (disch := omega) only [Jm_shut_L6, bd_some, lt_of', sm_l, sm_r, lit, lN_n, hset_if, nI_ltP, nI_eqI, nI_add, nI_sub, nI_clamp, ib_nI, cond_true, if_pos, if_neg, and_self, and_true, true_and, false_and, and_false, ↓reduceIte, eq_self, nI_m1], rfl⟩) (F := 1000000) (by omega) (a := 0) (by omega) (s := (4095, 0)) rfl
  unfold Jm_shut
  refine (bd_of e1).trans ?_
  rw [e2, shT_D]
theorem cn_le {s : Nat} (hs : s ≤ 4096) : cnN s ≤ 46 := by
  obtain ⟨z1, z2, z3, z4, z5, z6, z7, -⟩ := pc0
  have cm : ∀ s, s < 4096 → cnN s ≤ cnN (s + 1) := fun s hs => by
    cases hb : isP s with
    | true => have := ((pcA_at hs).2.1 hb).2.1; omega
    | false => have := ((pcA_at hs).2.2 hb).1; omega
  have cle : ∀ n s, s + n = 4096 → cnN s ≤ 46 := by
    intro n
    induction n with
    | zero => intro s hs; rw [show s = 4096 by omega, z7]; omega
    | succ n ih => intro s hs; exact Nat.le_trans (cm s (by omega)) (ih (s + 1) (by omega))
  exact cle (4096 - s) s (by omega)
theorem layPlaces_at {h : Hp} (H : tRaw h ∨ tLaid h) (H2 : h 37 14 = nI 0 ∨ pLaid h) : ∃ h', Jm_layPlaces h = some h' ∧ pLaid h' ∧ (∀ j, j ≠ 12 → j ≠ 14 → h' 37 j = h 37 j) ∧ ∀ p, p ≠ 37 → p ≠ 43 → p ≠ 44 → h' p = h p := by
  obtain ⟨h1, e1, t1, t2, t3⟩ := layTraits_at H
  unfold Jm_layPlaces
  have h14 : h1 37 14 = h 37 14 := t2 14 (by decide)
  rcases H2 with H2 | H2
  · obtain ⟨z1, z2, z3, z4, z5, z6, z7, -⟩ := pc0
    obtain ⟨r, e2, g1, g2, g3, g4⟩ := loop_cnt (fun s => Jm_layPlaces_L13 s.1 s.2) (fun i s => s.1 = nI i ∧ s.2 37 14 = nI (cnN i) ∧ (∀ k, k < cnN i → s.2 44 k = nI (plN k)) ∧ (∀ j, j ≠ 14 → s.2 37 j = h1 37 j) ∧ ∀ p, p ≠ 37 → p ≠ 44 → s.2 p = h1 p) (fun r => r 37 14 = nI 46 ∧ (∀ k, k < 46 → r 44 k = nI (plN k)) ∧ (∀ j, j ≠ 14 → r 37 j = h1 37 j) ∧ ∀ p, p ≠ 37 → p ≠ 44 → r p = h1 p) 4096 (fun i s hi hs => by
      obtain ⟨a, x⟩ := s
      obtain ⟨rfl, g1, g2, g3, g4⟩ := hs
      simp only at g1 g2 g3 g4
      have hsh := shut_at (h := x) (tLaid_fr (g3 12 (by decide)) (g4 43 (by decide) (by decide)) t1) hi
      have c46 := cn_le (s := i) (by omega)
      have hA := pcA_at hi
      have sl := shD_lt i
      cases hb : isP i with
      | true =>
        obtain ⟨b1, b2, b3, -⟩ := hA.2.1 hb
        have hq : shD i = i := hA.1.mpr hb
        rw [hq] at hsh
        refine Or.inl ⟨(nI (i + 1), hset (hset x 44 (cnN i) (nI i)) 37 14 (nI (cnN i + 1))), ?_, rfl, ?_, fun k hk => ?_, fun j hj => ?_, fun p p1 p2 => ?_⟩
        · simp (disch := omega) only [Jm_layPlaces_L13, hsh, g1, bd_some, lt_of', sm_l, sm_r, lit, lN_n, hset_if, nI_ltP, nI_eqI, nI_add, nI_sub, nI_clamp, ib_nI, cond_true, if_pos, if_neg, and_self, and_true, true_and, false_and, and_false, ↓reduceIte, eq_self, nI_m1]
        · rw [b2]; simp [hset_if]
        · rw [b2] at hk
          by_cases q : k = cnN i
          · subst q; simp [hset_if, b1]
          · simp [hset_if, q]; exact g2 k (by omega)
        · simp [hset_if, hj]; exact g3 j hj
        · show hset (hset x 44 _ _) 37 _ _ p = _
          rw [hset_ne p1, hset_ne p2]; exact g4 p p1 p2
      | false =>
        obtain ⟨b1, -⟩ := hA.2.2 hb
        have hq : ¬ shD i = i := fun q => by rw [hA.1.mp q] at hb; cases hb
        refine Or.inl ⟨(nI (i + 1), x), ?_, rfl, by rw [b1]; exact g1, fun k hk => g2 k (by rw [b1] at hk; exact hk), g3, g4⟩
        simp (disch := omega) only [Jm_layPlaces_L13, hsh, hq, bd_some, lt_of', sm_l, sm_r, lit, lN_n, hset_if, nI_ltP, nI_eqI, nI_add, nI_sub, nI_clamp, ib_nI, cond_true, if_pos, if_neg, and_self, and_true, true_and, false_and, and_false, ↓reduceIte, eq_self, nI_m1]) (fun s hs => by
      obtain ⟨a, x⟩ := s
      obtain ⟨rfl, g1, g2, g3, g4⟩ := hs
      simp only at g1 g2 g3 g4
      rw [z7] at g1 g2
      exact ⟨x, by simp (disch := omega) only [Jm_layPlaces_L13, bd_some, lt_of', sm_l, sm_r, lit, lN_n, hset_if, nI_ltP, nI_eqI, nI_add, nI_sub, nI_clamp, ib_nI, cond_true, if_pos, if_neg, and_self, and_true, true_and, false_and, and_false, ↓reduceIte, eq_self, nI_m1], g1, g2, g3, g4⟩) (F := 1000000) (by omega) (a := 0) (by omega) (s := (0, h1)) ⟨rfl, by rw [z6]; exact h14.trans H2, fun k hk => by rw [z6] at hk; exact absurd hk (Nat.not_lt_zero k), fun _ _ => rfl, fun _ _ _ => rfl⟩
    refine ⟨r, ?_, ⟨tLaid_fr (g3 12 (by decide)) (g4 43 (by decide) (by decide)) t1, g1, g2⟩, fun j j1 j2 => (g3 j j2).trans (t2 j j1), fun p p1 p2 p3 => (g4 p p1 p3).trans (t3 p p1 p2)⟩
    refine (bd_of e1).trans ?_
    rw [h14, H2]
    refine (if_pos (show nI 0 = 0 from rfl)).trans ?_
    exact (bd_of e2).trans rfl
  · refine ⟨h1, ?_, ⟨t1, h14.trans H2.2.1, fun k hk => by rw [t3 44 (by decide) (by decide)]; exact H2.2.2 k hk⟩, fun j j1 j2 => t2 j j1, fun p p1 p2 p3 => t3 p p1 p2⟩
    refine (bd_of e1).trans ?_
    rw [h14, H2.2.1]
    exact if_neg (by decide)
