/-! The search: one function as top. -/
def MS (h : Hp) (S : Nat) : Prop := ∃ (q : Nat) (mi : Nat → Nat), h 10 10 = nI q ∧ q ≤ 256 ∧ (∀ i, i < q → h 15 i = nI (mi i) ∧ mi i < 256) ∧ ∀ c, c < 256 → h 11 c = -1 → inT S c = true → ∃ i, i < q ∧ mi i = c
theorem aim_at {h : Hp} {f x S : Nat} (hx : x < 256) (P1 : PU1 f x h) (M : MS h S) : ∃ h', Jcs_aim h = some h' ∧ AM h' f x S ∧ ∀ p k, p ≠ 16 → ¬ (p = 10 ∧ k = 11) → h' p k = h p k := by
  obtain ⟨q, mi, m1, m2, m3, m4⟩ := M
  obtain ⟨r, l1, l2, l3⟩ := loop_cnt (fun s => Jcs_aim_L7 s.1 s.2) (fun i s => s.1 = nI i ∧ (∃ (a : Nat) (ai : Nat → Nat), s.2 10 11 = nI a ∧ a ≤ i ∧ (∀ j, j < a → s.2 16 j = nI (ai j) ∧ ai j < 256) ∧ ∀ j, j < i → h 11 (mi j) = -1 → mbN f x (mi j) = true → ∃ l, l < a ∧ ai l = mi j) ∧ ∀ p k, p ≠ 16 → ¬ (p = 10 ∧ k = 11) → s.2 p k = h p k) (fun r => AM r.2 f x S ∧ ∀ p k, p ≠ 16 → ¬ (p = 10 ∧ k = 11) → r.2 p k = h p k) q (fun i s hi hs => by
      obtain ⟨i', hh⟩ := s
      obtain ⟨rfl, ⟨a, ai, a1, a2, a3, a4⟩, fr⟩ := hs
      replace a1 : hh 10 11 = nI a := a1
      replace a3 : ∀ j, j < a → hh 16 j = nI (ai j) ∧ ai j < 256 := a3
      replace fr : ∀ p k, p ≠ 16 → ¬ (p = 10 ∧ k = 11) → hh p k = h p k := fr
      have u1 : hh 10 10 = nI q := (fr 10 10 (by decide) (by decide)).trans m1
      obtain ⟨c0, c1⟩ := m3 i hi
      have u2 : hh 15 i = nI (mi i) := (fr 15 i (by decide) (by simp)).trans c0
      have v2 := isMade_at (h := hh) c1
      rw [fr 11 (mi i) (by decide) (by simp)] at v2
      have v3 := may_at hx c1 (h := hh) (f := f) (fun k hk => (fr 19 k (by decide) (by simp)).trans (P1 k hk))
      have keep : ¬ (h 11 (mi i) = -1 ∧ mbN f x (mi i) = true) → ∀ j, j < i + 1 → h 11 (mi j) = -1 → mbN f x (mi j) = true → ∃ l, l < a ∧ ai l = mi j := fun w j j1 j2 j3 => by
        by_cases z : j = i
        · subst z
          exact absurd ⟨j2, j3⟩ w
        · exact a4 j (by omega) j2 j3
      by_cases b2 : h 11 (mi i) = -1
      · rw [if_pos b2] at v2
        by_cases b1 : mbN f x (mi i) = true
        · rw [if_pos b1] at v3
          refine Or.inl ⟨(nI (i + 1), hset (hset hh 16 a (nI (mi i))) 10 11 (nI (a + 1))), ?_, rfl, ⟨a + 1, fun l => if l = a then mi i else ai l, ?_, by omega, fun j hj => ?_, fun j j1 j2 j3 => ?_⟩, fun p k w1 w2 => ?_⟩
          · simp (disch := omega) only [Jcs_aim_L7, u1, u2, v2, v3, a1, bd_some, lt_of', sm_l, sm_r, lit, lN_n, hset_if, nI_ltP, nI_eqI, nI_add, nI_sub, nI_clamp, ib_nI, cond_true, if_pos, if_neg, and_self, and_true, true_and, false_and, and_false, ↓reduceIte, eq_self, nI_m1]
            all_goals simp
          · simp [hset_if]
          · by_cases z : j = a
            · subst z
              simp only [hset_if, if_pos]
              simp [c1]
            · have := a3 j (by omega)
              simp only [hset_if, if_neg z]
              simp [z, this]
          · by_cases z : j = i
            · subst z
              exact ⟨a, by omega, if_pos rfl⟩
            · obtain ⟨l, l1, l2⟩ := a4 j (by omega) j2 j3
              exact ⟨l, by omega, (if_neg (show ¬ l = a by omega)).trans l2⟩
          · refine Eq.trans ?_ (fr p k w1 w2)
            simp only [hset_if]
            rw [if_neg w2, if_neg (by simp [w1])]
        · rw [if_neg b1] at v3
          refine Or.inl ⟨(nI (i + 1), hh), ?_, rfl, ⟨a, ai, a1, by omega, a3, keep (fun w => b1 w.2)⟩, fr⟩
          simp (disch := omega) only [Jcs_aim_L7, u1, u2, v2, v3, a1, bd_some, lt_of', sm_l, sm_r, lit, lN_n, hset_if, nI_ltP, nI_eqI, nI_add, nI_sub, nI_clamp, ib_nI, cond_true, if_pos, if_neg, and_self, and_true, true_and, false_and, and_false, ↓reduceIte, eq_self, nI_m1]
          all_goals simp
      · rw [if_neg b2] at v2
        refine Or.inl ⟨(nI (i + 1), hh), ?_, rfl, ⟨a, ai, a1, by omega, a3, keep (fun w => b2 w.1)⟩, fr⟩
        simp (disch := omega) only [Jcs_aim_L7, u1, u2, v2, a1, bd_some, lt_of', sm_l, sm_r, lit, lN_n, hset_if, nI_ltP, nI_eqI, nI_add, nI_sub, nI_clamp, ib_nI, cond_true, if_pos, if_neg, and_self, and_true, true_and, false_and, and_false, ↓reduceIte, eq_self, nI_m1]
        all_goals simp) (fun s hs => by
      obtain ⟨i', hh⟩ := s
      obtain ⟨rfl, ⟨a, ai, a1, a2, a3, a4⟩, fr⟩ := hs
      replace a1 : hh 10 11 = nI a := a1
      replace a3 : ∀ j, j < a → hh 16 j = nI (ai j) ∧ ai j < 256 := a3
      replace fr : ∀ p k, p ≠ 16 → ¬ (p = 10 ∧ k = 11) → hh p k = h p k := fr
      have u1 : hh 10 10 = nI q := (fr 10 10 (by decide) (by decide)).trans m1
      refine ⟨(nI q, hh), by simp (disch := omega) only [Jcs_aim_L7, u1, bd_some, lt_of', sm_l, sm_r, lit, lN_n, hset_if, nI_ltP, nI_eqI, nI_add, nI_sub, nI_clamp, ib_nI, cond_true, if_pos, if_neg, and_self, and_true, true_and, false_and, and_false, ↓reduceIte, eq_self, nI_m1], ⟨a, ai, a1, by omega, a3, fun c hc u w1 w2 => ?_⟩, fr⟩
      have u' : h 11 c = -1 := (fr 11 c (by decide) (by simp)).symm.trans u
      obtain ⟨i, i1, i2⟩ := m4 c hc u' w1
      obtain ⟨l, l1, l2⟩ := a4 i i1 (by rw [i2]; exact u') (by rw [i2]; exact w2)
      exact ⟨l, l1, l2.trans i2⟩) (F := 1000000) (by omega) (a := 0) (by omega) (s := (0, hset h 10 11 0)) ⟨rfl, ⟨0, fun _ => 0, by simp only [hset_if]; simp; rfl, Nat.le_refl 0, fun j hj => absurd hj (by omega), fun j hj => absurd hj (by omega)⟩, fun p k w1 w2 => by
        show hset h 10 11 0 p k = _
        rw [hset_if, if_neg w2]⟩
  refine ⟨r.2, ?_, l2, l3⟩
  unfold Jcs_aim
  rw [lt_of']
  exact bd_of l1
def R1 (h h' : Hp) : Prop := ∀ p k, p ≠ 11 → p ≠ 12 → p ≠ 19 → p ≠ 16 → ¬ (p = 18 ∧ 4 ≤ k) → ¬ (p = 10 ∧ k = 11) → h' p k = h p k
theorem R1_tr {h h1 h2 : Hp} (a : R1 h h1) (b : R1 h1 h2) : R1 h h2 := fun p k q r s t u v => (b p k q r s t u v).trans (a p k q r s t u v)
theorem R1_10 {h h' : Hp} (r : R1 h h') {k : Nat} (hk : k ≠ 11) : h' 10 k = h 10 k := r 10 k (by decide) (by decide) (by decide) (by decide) (by simp) (by simp [hk])
theorem R1_p {h h' : Hp} (r : R1 h h') {p : Nat} (h1 : p ≠ 11) (h2 : p ≠ 12) (h3 : p ≠ 19) (h4 : p ≠ 16) (h5 : p ≠ 18) (h6 : p ≠ 10) (k : Nat) : h' p k = h p k := r p k h1 h2 h3 h4 (fun w => h5 w.1) (fun w => h6 w.1)
theorem PU_R1 {h h' : Hp} {f : Nat} (r : R1 h h') (H : PU f h) : PU f h' := ⟨(r 18 0 (by decide) (by decide) (by decide) (by decide) (by simp) (by simp)).trans H.1, (r 18 1 (by decide) (by decide) (by decide) (by decide) (by simp) (by simp)).trans H.2.1, (r 18 2 (by decide) (by decide) (by decide) (by decide) (by simp) (by simp)).trans H.2.2⟩
theorem BC_R1 {h h' : Hp} {n : Nat} {C : Nat → Option Nat} {bc st : Nat → Nat} (r : R1 h h') (H : BC h n C bc st) : BC h' n C bc st :=
  BC_fr (fun k => R1_p r (by decide) (by decide) (by decide) (by decide) (by decide) (by decide) k) (fun k => R1_p r (by decide) (by decide) (by decide) (by decide) (by decide) (by decide) k) (R1_10 r (by decide)) H
theorem MS_mono {h h' : Hp} {S : Nat} (e1 : h' 10 10 = h 10 10) (e2 : ∀ k, h' 15 k = h 15 k) (e3 : ∀ c, c < 256 → h' 11 c = -1 → h 11 c = -1) (M : MS h S) : MS h' S := by
  obtain ⟨q, mi, a1, a2, a3, a4⟩ := M
  exact ⟨q, mi, e1.trans a1, a2, fun i hi => ⟨(e2 i).trans (a3 i hi).1, (a3 i hi).2⟩, fun c hc u => a4 c hc (e3 c hc u)⟩
theorem MS_R1 {h h' : Hp} {S n t : Nat} {G : Nat → Prop} (r : R1 h h') (m : Mk n t G h h') (M : MS h S) : MS h' S :=
  MS_mono (R1_10 r (by decide)) (R1_p r (by decide) (by decide) (by decide) (by decide) (by decide) (by decide)) (fun c hc e => Mk_un m hc e) M
/-- one first part -/
theorem top1_at {h : Hp} {n t f x S w0 i v4 : Nat} {u1 u2 u3 : Int32} {C : Nat → Option Nat} {bc st : Nat → Nat} (hn : n < 2 ^ 31) (hf : f < 256) (hx : x < 256) (B : BC h n C bc st) (e1 : h 10 12 = nI n) (e2 : h 10 14 = nI t) (P0 : PU f h) (M : MS h S) (hv : v4 < n) (hi : i < w0) (hw : w0 ≤ 256) (ex : h 13 i = nI x) (hS : ∀ c, S2 C f x (n - 1 - v4) c → inT S c = true) : ∃ h', Jcs_tryTop_L65 u1 u2 u3 (nI v4) (nI w0) (nI i) h = some (.inl (nI (i + 1), h')) ∧ Mk n t (S2 C f x (n - 1 - v4)) h h' ∧ R1 h h' := by
  obtain ⟨h1, j1, j2, j3⟩ := first_at hf hx P0
  have M1 : MS h1 S := MS_mono (j3 _ _ (by decide)) (fun k => j3 15 k (by decide)) (fun c _ e => by rw [← j3 11 c (by decide)]; exact e) M
  obtain ⟨h2, k1, k2, k3⟩ := aim_at hx j2 M1
  have fr2 : ∀ p k, p ≠ 19 → p ≠ 16 → ¬ (p = 10 ∧ k = 11) → h2 p k = h p k := fun p k a b c => (k3 p k b c).trans (j3 p k a)
  have k2' := k2
  obtain ⟨q, ai, a1, a2, a3, a4⟩ := k2'
  have e1' : h2 10 12 = nI n := (fr2 _ _ (by decide) (by decide) (by decide)).trans e1
  have e2' : h2 10 14 = nI t := (fr2 _ _ (by decide) (by decide) (by decide)).trans e2
  by_cases z : q = 0
  · subst z
    refine ⟨h2, ?_, ?_, fun p k _ _ c d _ g => fr2 p k c d g⟩
    · simp (disch := omega) only [Jcs_tryTop_L65, ex, j1, k1, a1, bd_some, lt_of', sm_l, sm_r, lit, lN_n, hset_if, nI_ltP, nI_eqI, nI_add, nI_sub, nI_clamp, ib_nI, cond_true, if_pos, if_neg, and_self, and_true, true_and, false_and, and_false, ↓reduceIte, eq_self, nI_m1]
      all_goals simp
    · refine Mk_same (h1 := h2) (fun k => fr2 11 k (by decide) (by decide) (by simp)) (fun k => fr2 12 k (by decide) (by decide) (by simp)) (Mk_refl fun c hc u w => ?_)
      have w' := w
      obtain ⟨jj, kk, y, zz, -, -, -, e⟩ := w'
      obtain ⟨l, l1, -⟩ := a4 c hc u (hS c w) (by rw [e]; exact mb_of hx)
      omega
  · have B2 : BC h2 n C bc st := BC_fr (fun k => fr2 13 k (by decide) (by decide) (by simp)) (fun k => fr2 14 k (by decide) (by decide) (by simp)) (fr2 10 9 (by decide) (by decide) (by decide)) B
    have P0' : PU f h2 := ⟨(fr2 _ _ (by decide) (by decide) (by decide)).trans P0.1, (fr2 _ _ (by decide) (by decide) (by decide)).trans P0.2.1, (fr2 _ _ (by decide) (by decide) (by decide)).trans P0.2.2⟩
    have P1' : PU1 f x h2 := fun k hk => (k3 19 k (by decide) (by simp)).trans (j2 k hk)
    obtain ⟨h3, l1, l2, l3⟩ := trySeconds_at hn hf hx B2 e1' e2' P0' P1' k2 (show n - 1 - v4 < n by omega) hS
    refine ⟨h3, ?_, Mk_same (fun k => fr2 11 k (by decide) (by decide) (by simp)) (fun k => fr2 12 k (by decide) (by decide) (by simp)) l2, fun p k a b c d g w => (l3 p k a b g).trans (fr2 p k c d w)⟩
    have qq : 0 < q := by omega
    simp (disch := omega) only [Jcs_tryTop_L65, ex, j1, k1, a1, e1', l1, bd_some, lt_of', sm_l, sm_r, lit, lN_n, hset_if, nI_ltP, nI_eqI, nI_add, nI_sub, nI_clamp, ib_nI, cond_true, if_pos, if_neg, and_self, and_true, true_and, false_and, and_false, ↓reduceIte, eq_self, nI_m1]
/-- all first parts of one cost -/
theorem top2_at {h : Hp} {n t f S v4 c5 c4 : Nat} {u1 u2 u3 : Int32} {C : Nat → Option Nat} {bc st : Nat → Nat} {X : Nat → Prop} (hn : n < 2 ^ 31) (hf : f < 256) (B : BC h n C bc st) (e1 : h 10 12 = nI n) (e2 : h 10 14 = nI t) (P0 : PU f h) (M : MS h S) (hv : v4 < n) (gx : Rg h bc c5 c4 X) (hS : ∀ x c, X x → S2 C f x (n - 1 - v4) c → inT S c = true) : ∃ o : Int32 × Hp, loopN 1000000 (fun s => Jcs_tryTop_L65 u1 u2 u3 (nI v4) (nI c4) s.1 s.2) (nI c5, h) = some o ∧ Mk n t (fun c => ∃ x, X x ∧ S2 C f x (n - 1 - v4) c) h o.2 ∧ R1 h o.2 := by
  have gx' := gx
  obtain ⟨y1, y2, y3, y4⟩ := gx'
  obtain ⟨r, l1, l2, l3⟩ := loop_cnt (fun s => Jcs_tryTop_L65 u1 u2 u3 (nI v4) (nI c4) s.1 s.2) (fun i s => s.1 = nI i ∧ c5 ≤ i ∧ Mk n t (fun c => ∃ j, c5 ≤ j ∧ j < i ∧ S2 C f (bc j) (n - 1 - v4) c) h s.2 ∧ R1 h s.2) (fun r => Mk n t (fun c => ∃ x, X x ∧ S2 C f x (n - 1 - v4) c) h r.2 ∧ R1 h r.2) c4 (fun i s hi hs => by
      obtain ⟨i', hh⟩ := s
      obtain ⟨rfl, hai, m, r1⟩ := hs
      replace m : Mk n t (fun c => ∃ j, c5 ≤ j ∧ j < i ∧ S2 C f (bc j) (n - 1 - v4) c) h hh := m
      replace r1 : R1 h hh := r1
      obtain ⟨c0, c1, c2⟩ := y3 i hai hi
      obtain ⟨h2, k1, k2, k3⟩ := top1_at (u1 := u1) (u2 := u2) (u3 := u3) (w0 := c4) (i := i) (x := bc i) hn hf c1 (BC_R1 r1 B) ((R1_10 r1 (by decide)).trans e1) ((R1_10 r1 (by decide)).trans e2) (PU_R1 r1 P0) (MS_R1 r1 m M) hv hi y2 ((R1_p r1 (by decide) (by decide) (by decide) (by decide) (by decide) (by decide) i).trans c0) (fun c hc => hS _ c c2 hc)
      refine Or.inl ⟨(nI (i + 1), h2), k1, rfl, by omega, Mk_tr hn m k2 (fun c hc u => ?_), R1_tr r1 k3⟩
      constructor
      · intro ⟨j, w1, w2, w3⟩
        by_cases z : j = i
        · exact Or.inr (by rw [← z]; exact w3)
        · exact Or.inl ⟨j, w1, by omega, w3⟩
      · intro w
        rcases w with ⟨j, w1, w2, w3⟩ | w
        · exact ⟨j, w1, by omega, w3⟩
        · exact ⟨i, hai, by omega, w⟩) (fun s hs => by
      obtain ⟨i', hh⟩ := s
      obtain ⟨rfl, hai, m, r1⟩ := hs
      replace m : Mk n t (fun c => ∃ j, c5 ≤ j ∧ j < c4 ∧ S2 C f (bc j) (n - 1 - v4) c) h hh := m
      replace r1 : R1 h hh := r1
      refine ⟨(nI c4, hh), by simp (disch := omega) only [Jcs_tryTop_L65, bd_some, lt_of', sm_l, sm_r, lit, lN_n, hset_if, nI_ltP, nI_eqI, nI_add, nI_sub, nI_clamp, ib_nI, cond_true, if_pos, if_neg, and_self, and_true, true_and, false_and, and_false, ↓reduceIte, eq_self, nI_m1], Mk_cg (fun c hc u => ?_) m, r1⟩
      constructor
      · intro ⟨j, w1, w2, w3⟩
        exact ⟨bc j, (y3 j w1 w2).2.2, w3⟩
      · intro ⟨y, z1, z2⟩
        obtain ⟨i, i1, i2, i3⟩ := y4 y z1
        exact ⟨i, i1, i2, by rw [i3]; exact z2⟩) (F := 1000000) (by omega) (a := c5) y1 (s := (nI c5, h)) ⟨rfl, Nat.le_refl _, Mk_refl (fun c _ _ w => by obtain ⟨j, j1, j2, -⟩ := w; omega), fun _ _ _ _ _ _ _ _ => rfl⟩
  exact ⟨r, l1, l2, l3⟩
def S1 (C : Nat → Option Nat) (f n : Nat) (c : Nat) : Prop := ∃ i x, i < n ∧ PR C (hg f 0) i x ∧ S2 C f x (n - 1 - i) c
def R0 (h h' : Hp) : Prop := ∀ p k, p ≠ 11 → p ≠ 12 → p ≠ 19 → p ≠ 16 → p ≠ 18 → ¬ (p = 10 ∧ (k = 11 ∨ k = 14)) → h' p k = h p k
theorem topL_at {h : Hp} {n t f S : Nat} {u1 u2 : Int32} {C : Nat → Option Nat} {bc st : Nat → Nat} (hn : n < 2 ^ 31) (hf : f < 256) (B : BC h n C bc st) (e1 : h 10 12 = nI n) (e2 : h 10 14 = nI t) (P0 : PU f h) (M : MS h S) (hS : ∀ c, S1 C f n c → inT S c = true) : ∃ o : Int32 × Hp, loopN 1000000 (fun s => Jcs_tryTop_L25 u1 u2 (b01 (hg f 0)) s.1 s.2) (0, h) = some o ∧ Mk n t (S1 C f n) h o.2 ∧ R1 h o.2 := by
  obtain ⟨r, l1, l2, l3⟩ := loop_cnt (fun s => Jcs_tryTop_L25 u1 u2 (b01 (hg f 0)) s.1 s.2) (fun j s => s.1 = nI j ∧ Mk n t (fun c => ∃ i x, i < j ∧ PR C (hg f 0) i x ∧ S2 C f x (n - 1 - i) c) h s.2 ∧ R1 h s.2) (fun r => Mk n t (S1 C f n) h r.2 ∧ R1 h r.2) n (fun j s hj hs => by
      obtain ⟨j', hh⟩ := s
      obtain ⟨rfl, m, r1⟩ := hs
      replace m : Mk n t (fun c => ∃ i x, i < j ∧ PR C (hg f 0) i x ∧ S2 C f x (n - 1 - i) c) h hh := m
      replace r1 : R1 h hh := r1
      have e1' := (R1_10 r1 (k := 12) (by decide)).trans e1
      have B' := BC_R1 r1 B
      obtain ⟨a, b, p1, p2, p3, -⟩ := parts_at B' e1' hn hj (by omega) (hg f 0)
      obtain ⟨o, k1, k2, k3⟩ := top2_at (u1 := u1) (u2 := u2) (u3 := b01 (hg f 0)) hn hf B' e1' ((R1_10 r1 (by decide)).trans e2) (PU_R1 r1 P0) (MS_R1 r1 m M) hj p3 (fun x c hX hc => hS c ⟨j, x, hj, hX, hc⟩)
      have n1 : nI j < nI n := (nI_ltI (by omega) (by omega)).mpr hj
      have a31 : a < 2 ^ 31 := by have := p3.1; have := p3.2.1; omega
      have step : Mk n t (fun c => ∃ i x, i < j + 1 ∧ PR C (hg f 0) i x ∧ S2 C f x (n - 1 - i) c) h o.2 := Mk_tr hn m k2 (fun c hc u => by
        constructor
        · intro ⟨i, x, w1, w2, w3⟩
          by_cases q : i = j
          · subst q
            exact Or.inr ⟨x, w2, w3⟩
          · exact Or.inl ⟨i, x, by omega, w2, w3⟩
        · intro w
          rcases w with ⟨i, x, w1, w⟩ | ⟨x, w2, w3⟩
          · exact ⟨i, x, by omega, w⟩
          · exact ⟨j, x, by omega, w2, w3⟩)
      by_cases z : j = 0
      · refine Or.inl ⟨(nI (j + 1), o.2), ?_, rfl, step, R1_tr r1 k3⟩
        show Jcs_tryTop_L25 u1 u2 (b01 (hg f 0)) (nI j) hh = _
        unfold Jcs_tryTop_L25
        rw [e1', if_pos n1, if_pos (by rw [z]; rfl), p2, bd_some, p1, bd_some, mx_at a31, k1]
        simp (disch := omega) only [bd_some, lt_of', sm_l, sm_r, lit, lN_n, hset_if, nI_ltP, nI_eqI, nI_add, nI_sub, nI_clamp, ib_nI, cond_true, if_pos, if_neg, and_self, and_true, true_and, false_and, and_false, ↓reduceIte, eq_self, nI_m1]
      · have z' : ¬ nI j = 0 := fun w => z ((nI_eq (a := j) (b := 0) (by omega) (by omega)).mp w)
        cases hgf : hg f 0 with
        | true =>
          rw [hgf] at p1 p2 k1 step
          refine Or.inl ⟨(nI (j + 1), o.2), ?_, rfl, step, R1_tr r1 k3⟩
          show Jcs_tryTop_L25 u1 u2 (b01 true) (nI j) hh = _
          unfold Jcs_tryTop_L25
          rw [e1', if_pos n1, if_neg z', if_neg (by decide), p2, bd_some, p1, bd_some, mx_at a31, k1]
          simp (disch := omega) only [bd_some, lt_of', sm_l, sm_r, lit, lN_n, hset_if, nI_ltP, nI_eqI, nI_add, nI_sub, nI_clamp, ib_nI, cond_true, if_pos, if_neg, and_self, and_true, true_and, false_and, and_false, ↓reduceIte, eq_self, nI_m1]
        | false =>
          refine Or.inr ⟨(nI j, hh), ?_, Mk_cg (fun c hc u => ?_) m, r1⟩
          · show Jcs_tryTop_L25 u1 u2 (b01 false) (nI j) hh = _
            unfold Jcs_tryTop_L25
            rw [e1', if_pos n1, if_neg z', if_pos (by decide)]
          · unfold S1
            rw [hgf]
            constructor
            · intro ⟨i, x, w1, w⟩
              exact ⟨i, x, by omega, w⟩
            · intro ⟨i, x, w1, w2, w3⟩
              refine ⟨i, x, ?_, w2, w3⟩
              obtain ⟨-, w2 | w2⟩ := w2
              · exact absurd w2.1 (by decide)
              · omega) (fun s hs => by
      obtain ⟨j', hh⟩ := s
      obtain ⟨rfl, m, r1⟩ := hs
      replace m : Mk n t (fun c => ∃ i x, i < n ∧ PR C (hg f 0) i x ∧ S2 C f x (n - 1 - i) c) h hh := m
      replace r1 : R1 h hh := r1
      have e1' := (R1_10 r1 (k := 12) (by decide)).trans e1
      refine ⟨(nI n, hh), ?_, m, r1⟩
      show Jcs_tryTop_L25 u1 u2 (b01 (hg f 0)) (nI n) hh = _
      unfold Jcs_tryTop_L25
      rw [e1', if_neg (fun w => absurd ((nI_ltI (by omega) (by omega)).mp w) (by omega))]) (F := 1000000) (by have := B.1; omega) (a := 0) (by omega) (s := (0, h)) ⟨rfl, Mk_refl (fun c _ _ w => by obtain ⟨i, x, w1, -⟩ := w; omega), fun _ _ _ _ _ _ _ _ => rfl⟩
  exact ⟨r, l1, l2, l3⟩
theorem tryTop_at {h : Hp} {n t f S : Nat} {C : Nat → Option Nat} {bc st : Nat → Nat} (hn : n < 2 ^ 31) (hf : f < 256) (B : BC h n C bc st) (e1 : h 10 12 = nI n) (M : MS h S) (hS : ∀ c, S1 C f n c → inT S c = true) : ∃ h', Jcs_tryTop (nI t) (nI f) h = some h' ∧ Mk n t (S1 C f n) h h' ∧ R0 h h' := by
  obtain ⟨h1, j1, j2, j3⟩ := begin_at hf (hset h 10 14 (nI t))
  have fr : ∀ p k, p ≠ 18 → ¬ (p = 10 ∧ k = 14) → h1 p k = h p k := fun p k a b => (j3 p k a).trans (by rw [hset_if, if_neg b])
  have g1 : Jpu_hangsOn 0 h1 = some (b01 (hg f 0)) := hangsb_at hf (by decide) j2
  have B1 : BC h1 n C bc st := BC_fr (fun k => fr 13 k (by decide) (by simp)) (fun k => fr 14 k (by decide) (by simp)) (fr 10 9 (by decide) (by decide)) B
  have M1 : MS h1 S := MS_mono (fr 10 10 (by decide) (by decide)) (fun k => fr 15 k (by decide) (by simp)) (fun c _ e => by rw [← fr 11 c (by decide) (by simp)]; exact e) M
  obtain ⟨o, k1, k2, k3⟩ := topL_at (u1 := nI t) (u2 := nI f) hn hf B1 ((fr 10 12 (by decide) (by decide)).trans e1) ((j3 10 14 (by decide)).trans (by rw [hset_if, if_pos (by decide)])) j2 M1 hS
  refine ⟨o.2, ?_, Mk_same (fun k => fr 11 k (by decide) (by simp)) (fun k => fr 12 k (by decide) (by simp)) k2, fun p k a b c d e g => ?_⟩
  · unfold Jcs_tryTop
    rw [lt_of', j1, bd_some, g1, bd_some]
    exact bd_of k1
  · exact (k3 p k a b c d (fun w => e w.1) (fun w => g ⟨w.1, Or.inl w.2⟩)).trans (fr p k e (fun w => g ⟨w.1, Or.inr w.2⟩))
