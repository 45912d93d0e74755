/-! The search: third parts. -/
def Mk (n t : Nat) (S : Nat → Prop) (h h' : Hp) : Prop := ∀ c, c < 256 → ((h 11 c = -1 ∧ S c) → h' 11 c = nI n ∧ h' 12 c = nI t) ∧ (¬ (h 11 c = -1 ∧ S c) → h' 11 c = h 11 c ∧ h' 12 c = h 12 c)
theorem nI_ne1 {n : Nat} (h : n < 2 ^ 31) : nI n ≠ -1 := fun q => by
  have := nI_m1 h
  rw [show (-nI 1 : Int32) = -1 from rfl] at this
  exact this.mp q
theorem Mk_un {n t : Nat} {S : Nat → Prop} {h h' : Hp} (hm : Mk n t S h h') {c : Nat} (hc : c < 256) (e : h' 11 c = -1) : h 11 c = -1 := by
  refine Classical.byContradiction fun q => ?_
  have := ((hm c hc).2 (fun w => q w.1)).1
  exact q (this.symm.trans e)
theorem Mk_refl {n t : Nat} {S : Nat → Prop} {h : Hp} (g : ∀ c, c < 256 → h 11 c = -1 → ¬ S c) : Mk n t S h h :=
  fun c hc => ⟨fun w => absurd w.2 (g c hc w.1), fun _ => ⟨rfl, rfl⟩⟩
theorem Mk_cg {n t : Nat} {S S' : Nat → Prop} {h h' : Hp} (g : ∀ c, c < 256 → h 11 c = -1 → (S c ↔ S' c)) (hm : Mk n t S h h') : Mk n t S' h h' :=
  fun c hc => ⟨fun w => (hm c hc).1 ⟨w.1, (g c hc w.1).mpr w.2⟩, fun w => (hm c hc).2 fun v => w ⟨v.1, (g c hc v.1).mp v.2⟩⟩
theorem Mk_tr {n t : Nat} (hn : n < 2 ^ 31) {S1 S2 S : Nat → Prop} {h h1 h2 : Hp} (m1 : Mk n t S1 h h1) (m2 : Mk n t S2 h1 h2) (g : ∀ c, c < 256 → h 11 c = -1 → (S c ↔ S1 c ∨ S2 c)) : Mk n t S h h2 := by
  intro c hc
  by_cases u : h 11 c = -1
  · by_cases s1 : S1 c
    · obtain ⟨a1, a2⟩ := (m1 c hc).1 ⟨u, s1⟩
      obtain ⟨b1, b2⟩ := (m2 c hc).2 (fun w => nI_ne1 hn (a1.symm.trans w.1))
      exact ⟨fun _ => ⟨b1.trans a1, b2.trans a2⟩, fun w => absurd ⟨u, (g c hc u).mpr (Or.inl s1)⟩ w⟩
    · obtain ⟨a1, a2⟩ := (m1 c hc).2 (fun w => s1 w.2)
      by_cases s2 : S2 c
      · have b := (m2 c hc).1 ⟨a1.trans u, s2⟩
        exact ⟨fun _ => b, fun w => absurd ⟨u, (g c hc u).mpr (Or.inr s2)⟩ w⟩
      · obtain ⟨b1, b2⟩ := (m2 c hc).2 (fun w => s2 w.2)
        refine ⟨fun w => ?_, fun _ => ⟨b1.trans a1, b2.trans a2⟩⟩
        rcases (g c hc u).mp w.2 with q | q
        · exact absurd q s1
        · exact absurd q s2
  · obtain ⟨a1, a2⟩ := (m1 c hc).2 (fun w => u w.1)
    obtain ⟨b1, b2⟩ := (m2 c hc).2 (fun w => u (a1.symm.trans w.1))
    exact ⟨fun w => absurd w.1 u, fun _ => ⟨b1.trans a1, b2.trans a2⟩⟩
def R3 (h h' : Hp) : Prop := ∀ p k, p ≠ 11 → p ≠ 12 → h' p k = h p k
theorem R3_tr {h h1 h2 : Hp} (a : R3 h h1) (b : R3 h1 h2) : R3 h h2 := fun p k q r => (b p k q r).trans (a p k q r)
theorem isCode_at {c : Nat} (hc : c < 256) : Jyn_isCode (nI c) = some (nI 1) := by
  simp (disch := omega) only [Jyn_isCode, bd_some, lt_of', sm_l, sm_r, lit, lN_n, hset_if, nI_ltP, nI_eqI, nI_add, nI_sub, nI_clamp, ib_nI, cond_true, if_pos, if_neg, and_self, and_true, true_and, false_and, and_false, ↓reduceIte, eq_self, nI_m1]
theorem isMade_at {h : Hp} {c : Nat} (hc : c < 256) : Jcs_isMade (nI c) h = some (if h 11 c = -1 then nI 0 else nI 1) := by
  unfold Jcs_isMade
  refine (bd_of (isCode_at hc)).trans ?_
  rw [if_neg (by decide), ib_nI (by omega) (by omega), nI_clamp (by omega)]
  by_cases q : h 11 c = -1
  · simp only [q, if_pos, cond_true]; rfl
  · simp only [q, if_neg, cond_true, if_false]; rfl
theorem make_at {h : Hp} {c n t : Nat} (hc : c < 256) (e1 : h 10 12 = nI n) (e2 : h 10 14 = nI t) : ∃ h', Jcs_make (nI c) h = some h' ∧ Mk n t (fun d => d = c) h h' ∧ R3 h h' := by
  unfold Jcs_make
  by_cases q : h 11 c = -1
  · refine ⟨hset (hset h 11 c (nI n)) 12 c (nI t), ?_, fun d hd => ⟨fun w => ?_, fun w => ?_⟩, fun p k h1 h2 => ?_⟩
    · refine (bd_of (isCode_at hc)).trans ?_
      rw [if_neg (by decide), ib_nI (by omega) (by omega), nI_clamp (by omega), if_pos q]
      simp (disch := omega) only [e1, e2, bd_some, lt_of', sm_l, sm_r, lit, lN_n, hset_if, nI_ltP, nI_eqI, nI_add, nI_sub, nI_clamp, ib_nI, cond_true, if_pos, if_neg, and_self, and_true, true_and, false_and, and_false, ↓reduceIte, eq_self, nI_m1]
    · obtain ⟨-, rfl⟩ := w
      simp [hset_if]
    · have : d ≠ c := fun z => w ⟨z ▸ q, z⟩
      simp [hset_if, this]
    · simp [hset_if, h1, h2]
  · refine ⟨h, ?_, Mk_refl fun d _ u z => ?_, fun _ _ _ _ => rfl⟩
    · refine (bd_of (isCode_at hc)).trans ?_
      rw [if_neg (by decide), ib_nI (by omega) (by omega), nI_clamp (by omega), if_neg q]
      rfl
    · exact q (z ▸ u)
def Rg (h : Hp) (bc : Nat → Nat) (a b : Nat) (P : Nat → Prop) : Prop := a ≤ b ∧ b ≤ 256 ∧ (∀ i, a ≤ i → i < b → h 13 i = nI (bc i) ∧ bc i < 256 ∧ P (bc i)) ∧ ∀ x, P x → ∃ i, a ≤ i ∧ i < b ∧ bc i = x
def AM (h : Hp) (f x S : Nat) : Prop := ∃ (q : Nat) (ai : Nat → Nat), h 10 11 = nI q ∧ q ≤ 256 ∧ (∀ i, i < q → h 16 i = nI (ai i) ∧ ai i < 256) ∧ ∀ c, c < 256 → h 11 c = -1 → inT S c = true → mbN f x c = true → ∃ i, i < q ∧ ai i = c
def S3 (f x y : Nat) (Z : Nat → Prop) (c : Nat) : Prop := ∃ z, Z z ∧ c = pN f x y z
theorem mx_at {a : Nat} (h : a < 2 ^ 31) : (if nI a < 0 then (0 : Int32) else nI a) = nI a := if_neg (nI_pos h)
theorem some3_at {h : Hp} {f x y c a b : Nat} {bc : Nat → Nat} {Z : Nat → Prop} (hx : x < 256) (hy : y < 256) (hc : c < 256) (P2 : PU2 f x y h) (g : Rg h bc a b Z) : ∃ v, Jcs_someThird (nI c) (nI a) (nI b) h = some v ∧ ((v = nI 0 ∧ ¬ S3 f x y Z c) ∨ (v = nI 1 ∧ S3 f x y Z c)) := by
  obtain ⟨g1, g2, g3, g4⟩ := g
  obtain ⟨r, e1, e2⟩ := loop_cnt (fun s => Jcs_someThird_L7 (nI c) (nI a) (nI b) h s) (fun i s => s = nI i ∧ a ≤ i ∧ ∀ j, a ≤ j → j < i → pN f x y (bc j) ≠ c) (fun r => sm r (fun _ => ¬ S3 f x y Z c) (fun x' => x' = nI 1 ∧ S3 f x y Z c)) b (fun i s hi hs => by
    obtain ⟨rfl, w1, w2⟩ := hs
    obtain ⟨k1, k2, k3⟩ := g3 i w1 hi
    have a1 := third_at hx hy (z := bc i) P2
    have a2 := pN_lt f x y (bc i)
    by_cases q : pN f x y (bc i) = c
    · refine Or.inr ⟨.inr (nI 1), ?_, rfl, bc i, k3, q.symm⟩
      simp (disch := omega) only [Jcs_someThird_L7, k1, a1, q, bd_some, lt_of', sm_l, sm_r, lit, lN_n, hset_if, nI_ltP, nI_eqI, nI_add, nI_sub, nI_clamp, ib_nI, cond_true, if_pos, if_neg, and_self, and_true, true_and, false_and, and_false, ↓reduceIte, eq_self, nI_m1]
    · refine Or.inl ⟨nI (i + 1), ?_, rfl, by omega, fun j j1 j2 => ?_⟩
      · simp (disch := omega) only [Jcs_someThird_L7, k1, a1, q, bd_some, lt_of', sm_l, sm_r, lit, lN_n, hset_if, nI_ltP, nI_eqI, nI_add, nI_sub, nI_clamp, ib_nI, cond_true, if_pos, if_neg, and_self, and_true, true_and, false_and, and_false, ↓reduceIte, eq_self, nI_m1]
      · by_cases z : j = i
        · rw [z]; exact q
        · exact w2 j j1 (by omega)) (fun s hs => by
    obtain ⟨rfl, w1, w2⟩ := hs
    refine ⟨.inl (nI b), by simp (disch := omega) only [Jcs_someThird_L7, bd_some, lt_of', sm_l, sm_r, lit, lN_n, hset_if, nI_ltP, nI_eqI, nI_add, nI_sub, nI_clamp, ib_nI, cond_true, if_pos, if_neg, and_self, and_true, true_and, false_and, and_false, ↓reduceIte, eq_self, nI_m1], ?_⟩
    intro ⟨z, z1, z2⟩
    obtain ⟨i, i1, i2, i3⟩ := g4 z z1
    exact w2 i i1 i2 (by rw [i3, z2])) (F := 1000000) (by omega) (a := a) g1 (s := nI a) ⟨rfl, Nat.le_refl a, fun j j1 j2 => absurd j1 (by omega)⟩
  unfold Jcs_someThird
  rw [mx_at (show a < 2 ^ 31 by omega)]
  cases r with
  | inl r => exact ⟨nI 0, bd_of e1, Or.inl ⟨rfl, e2⟩⟩
  | inr r => exact ⟨r, bd_of e1, Or.inr e2⟩
theorem PU2_R3 {f x y : Nat} {h h' : Hp} (r : R3 h h') (H : PU2 f x y h) : PU2 f x y h' := ⟨(r _ _ (by decide) (by decide)).trans H.1, (r _ _ (by decide) (by decide)).trans H.2⟩
theorem Rg_13 {h h' : Hp} {bc : Nat → Nat} {a b : Nat} {P : Nat → Prop} (e : ∀ k, h' 13 k = h 13 k) (g : Rg h bc a b P) : Rg h' bc a b P :=
  ⟨g.1, g.2.1, fun i i1 i2 => ⟨(e i).trans (g.2.2.1 i i1 i2).1, (g.2.2.1 i i1 i2).2⟩, g.2.2.2⟩
theorem AM_mono {h h' : Hp} {f x S : Nat} (e1 : h' 10 11 = h 10 11) (e2 : ∀ k, h' 16 k = h 16 k) (e3 : ∀ c, c < 256 → h' 11 c = -1 → h 11 c = -1) (A : AM h f x S) : AM h' f x S := by
  obtain ⟨q, ai, a1, a2, a3, a4⟩ := A
  exact ⟨q, ai, e1.trans a1, a2, fun i hi => ⟨(e2 i).trans (a3 i hi).1, (a3 i hi).2⟩, fun c hc u => a4 c hc (e3 c hc u)⟩
theorem tryThirds_at {h : Hp} {n t f x y S a b : Nat} {bc : Nat → Nat} {Z : Nat → Prop} (hn : n < 2 ^ 31) (hx : x < 256) (hy : y < 256) (e1 : h 10 12 = nI n) (e2 : h 10 14 = nI t) (P2 : PU2 f x y h) (A : AM h f x S) (g : Rg h bc a b Z) (hS : ∀ z, Z z → inT S (pN f x y z) = true) : ∃ h', Jcs_tryThirds (nI a) (nI b) h = some h' ∧ Mk n t (S3 f x y Z) h h' ∧ R3 h h' := by
  obtain ⟨q, ai, a1, a2, a3, a4⟩ := A
  have g' := g
  obtain ⟨g1, g2, g3, g4⟩ := g'
  unfold Jcs_tryThirds
  rw [a1, nI_sub g1]
  by_cases cq : q < b - a
  · rw [if_pos ((nI_ltI (by omega) (by omega)).mpr cq)]
    obtain ⟨r, l1, l2, l3⟩ := loop_cnt (fun s => Jcs_tryThirds_L12 (nI a) (nI b) s.1 s.2) (fun i s => s.1 = nI i ∧ Mk n t (fun c => S3 f x y Z c ∧ ∃ j, j < i ∧ ai j = c) h s.2 ∧ R3 h s.2) (fun r => Mk n t (S3 f x y Z) h r.2 ∧ R3 h r.2) q (fun i s hi hs => by
      obtain ⟨i', hh⟩ := s
      obtain ⟨rfl, m, r3⟩ := hs
      replace m : Mk n t (fun c => S3 f x y Z c ∧ ∃ j, j < i ∧ ai j = c) h hh := m
      replace r3 : R3 h hh := r3
      have u1 : hh 10 11 = nI q := (r3 _ _ (by decide) (by decide)).trans a1
      obtain ⟨c0, c1⟩ := a3 i hi
      have u2 : hh 16 i = nI (ai i) := (r3 _ _ (by decide) (by decide)).trans c0
      have P2' := PU2_R3 r3 P2
      have v1 := can_at hx hy c1 P2'
      have v2 := isMade_at (h := hh) c1
      obtain ⟨v, v3, v4⟩ := some3_at hx hy c1 P2' (Rg_13 (fun k => r3 13 k (by decide) (by decide)) g)
      have keep : ¬ (h 11 (ai i) = -1 ∧ S3 f x y Z (ai i) ∧ ¬ ∃ j, j < i ∧ ai j = ai i) → Mk n t (fun c => S3 f x y Z c ∧ ∃ j, j < i + 1 ∧ ai j = c) h hh := fun w => Mk_cg (fun c hc u => by
        constructor
        · intro ⟨w1, j, w2, w3⟩
          exact ⟨w1, j, by omega, w3⟩
        · intro ⟨w1, j, w2, w3⟩
          refine ⟨w1, ?_⟩
          by_cases z : j = i
          · refine Classical.byContradiction fun w4 => ?_
            rw [z] at w3
            subst w3
            exact w ⟨u, w1, w4⟩
          · exact ⟨j, by omega, w3⟩) m
      by_cases b1 : cbN f x y (ai i) = true
      · rw [if_pos b1] at v1
        by_cases b2 : hh 11 (ai i) = -1
        · rw [if_pos b2] at v2
          rcases v4 with ⟨rfl, v5⟩ | ⟨rfl, v5⟩
          · refine Or.inl ⟨(nI (i + 1), hh), ?_, rfl, keep (fun w => v5 w.2.1), r3⟩
            simp (disch := omega) only [Jcs_tryThirds_L12, u1, u2, v1, v2, v3, bd_some, lt_of', sm_l, sm_r, lit, lN_n, hset_if, nI_ltP, nI_eqI, nI_add, nI_sub, nI_clamp, ib_nI, cond_true, if_pos, if_neg, and_self, and_true, true_and, false_and, and_false, ↓reduceIte, eq_self, nI_m1]
          · obtain ⟨h2, k1, k2, k3⟩ := make_at (h := hh) (n := n) (t := t) c1 ((r3 _ _ (by decide) (by decide)).trans e1) ((r3 _ _ (by decide) (by decide)).trans e2)
            refine Or.inl ⟨(nI (i + 1), h2), ?_, rfl, Mk_tr hn m k2 (fun c hc u => ?_), R3_tr r3 k3⟩
            · simp (disch := omega) only [Jcs_tryThirds_L12, u1, u2, v1, v2, v3, k1, bd_some, lt_of', sm_l, sm_r, lit, lN_n, hset_if, nI_ltP, nI_eqI, nI_add, nI_sub, nI_clamp, ib_nI, cond_true, if_pos, if_neg, and_self, and_true, true_and, false_and, and_false, ↓reduceIte, eq_self, nI_m1]
            · constructor
              · intro ⟨w1, j, w2, w3⟩
                by_cases z : j = i
                · exact Or.inr (by rw [← w3, z])
                · exact Or.inl ⟨w1, j, by omega, w3⟩
              · intro w
                rcases w with ⟨w1, j, w2, w3⟩ | w
                · exact ⟨w1, j, by omega, w3⟩
                · subst w
                  exact ⟨v5, i, by omega, rfl⟩
        · rw [if_neg b2] at v2
          refine Or.inl ⟨(nI (i + 1), hh), ?_, rfl, keep (fun w => b2 ?_), r3⟩
          · simp (disch := omega) only [Jcs_tryThirds_L12, u1, u2, v1, v2, bd_some, lt_of', sm_l, sm_r, lit, lN_n, hset_if, nI_ltP, nI_eqI, nI_add, nI_sub, nI_clamp, ib_nI, cond_true, if_pos, if_neg, and_self, and_true, true_and, false_and, and_false, ↓reduceIte, eq_self, nI_m1]
          · exact ((m (ai i) c1).2 (fun z => w.2.2 z.2.2)).1.trans w.1
      · rw [if_neg b1] at v1
        refine Or.inl ⟨(nI (i + 1), hh), ?_, rfl, keep (fun w => b1 ?_), r3⟩
        · simp (disch := omega) only [Jcs_tryThirds_L12, u1, u2, v1, bd_some, lt_of', sm_l, sm_r, lit, lN_n, hset_if, nI_ltP, nI_eqI, nI_add, nI_sub, nI_clamp, ib_nI, cond_true, if_pos, if_neg, and_self, and_true, true_and, false_and, and_false, ↓reduceIte, eq_self, nI_m1]
        · obtain ⟨z, z1, z2⟩ := w.2.1
          rw [z2]
          exact cb_of hx hy) (fun s hs => by
      obtain ⟨i', hh⟩ := s
      obtain ⟨rfl, m, r3⟩ := hs
      replace m : Mk n t (fun c => S3 f x y Z c ∧ ∃ j, j < q ∧ ai j = c) h hh := m
      replace r3 : R3 h hh := r3
      have u1 : hh 10 11 = nI q := (r3 _ _ (by decide) (by decide)).trans a1
      refine ⟨(nI q, hh), by simp (disch := omega) only [Jcs_tryThirds_L12, u1, bd_some, lt_of', sm_l, sm_r, lit, lN_n, hset_if, nI_ltP, nI_eqI, nI_add, nI_sub, nI_clamp, ib_nI, cond_true, if_pos, if_neg, and_self, and_true, true_and, false_and, and_false, ↓reduceIte, eq_self, nI_m1], Mk_cg (fun c hc u => ?_) m, r3⟩
      constructor
      · intro w; exact w.1
      · intro w
        obtain ⟨z, z1, z2⟩ := w
        exact ⟨⟨z, z1, z2⟩, a4 c hc u (by rw [z2]; exact hS z z1) (by rw [z2]; exact mb_of hx)⟩) (F := 1000000) (by omega) (a := 0) (by omega) (s := (0, h)) ⟨rfl, Mk_refl (fun c _ _ w => by obtain ⟨-, j, j1, -⟩ := w; omega), fun _ _ _ _ => rfl⟩
    exact ⟨r.2, bd_of l1, l2, l3⟩
  · rw [if_neg (fun w => cq ((nI_ltI (by omega) (by omega)).mp w)), mx_at (show a < 2 ^ 31 by omega)]
    obtain ⟨r, l1, l2, l3⟩ := loop_cnt (fun s => Jcs_tryThirds_L94 (nI a) (nI b) s.1 s.2) (fun i s => s.1 = nI i ∧ a ≤ i ∧ Mk n t (fun c => ∃ j, a ≤ j ∧ j < i ∧ c = pN f x y (bc j)) h s.2 ∧ R3 h s.2) (fun r => Mk n t (S3 f x y Z) h r.2 ∧ R3 h r.2) b (fun i s hi hs => by
      obtain ⟨i', hh⟩ := s
      obtain ⟨rfl, hai, m, r3⟩ := hs
      replace m : Mk n t (fun c => ∃ j, a ≤ j ∧ j < i ∧ c = pN f x y (bc j)) h hh := m
      replace r3 : R3 h hh := r3
      obtain ⟨c0, c1, c2⟩ := g3 i hai hi
      have u2 : hh 13 i = nI (bc i) := (r3 _ _ (by decide) (by decide)).trans c0
      have v1 := third_at hx hy (z := bc i) (PU2_R3 r3 P2)
      obtain ⟨h2, k1, k2, k3⟩ := make_at (h := hh) (c := pN f x y (bc i)) (n := n) (t := t) (pN_lt _ _ _ _) ((r3 _ _ (by decide) (by decide)).trans e1) ((r3 _ _ (by decide) (by decide)).trans e2)
      refine Or.inl ⟨(nI (i + 1), h2), ?_, rfl, by omega, Mk_tr hn m k2 (fun c hc u => ?_), R3_tr r3 k3⟩
      · simp (disch := omega) only [Jcs_tryThirds_L94, u2, v1, k1, bd_some, lt_of', sm_l, sm_r, lit, lN_n, hset_if, nI_ltP, nI_eqI, nI_add, nI_sub, nI_clamp, ib_nI, cond_true, if_pos, if_neg, and_self, and_true, true_and, false_and, and_false, ↓reduceIte, eq_self, nI_m1]
      · constructor
        · intro ⟨j, w1, w2, w3⟩
          by_cases z : j = i
          · exact Or.inr (by rw [w3, z])
          · exact Or.inl ⟨j, w1, by omega, w3⟩
        · intro w
          rcases w with ⟨j, w1, w2, w3⟩ | w
          · exact ⟨j, w1, by omega, w3⟩
          · exact ⟨i, hai, by omega, w⟩) (fun s hs => by
      obtain ⟨i', hh⟩ := s
      obtain ⟨rfl, hai, m, r3⟩ := hs
      replace m : Mk n t (fun c => ∃ j, a ≤ j ∧ j < b ∧ c = pN f x y (bc j)) h hh := m
      replace r3 : R3 h hh := r3
      refine ⟨(nI b, hh), by simp (disch := omega) only [Jcs_tryThirds_L94, bd_some, lt_of', sm_l, sm_r, lit, lN_n, hset_if, nI_ltP, nI_eqI, nI_add, nI_sub, nI_clamp, ib_nI, cond_true, if_pos, if_neg, and_self, and_true, true_and, false_and, and_false, ↓reduceIte, eq_self, nI_m1], Mk_cg (fun c hc u => ?_) m, r3⟩
      constructor
      · intro ⟨j, w1, w2, w3⟩
        exact ⟨bc j, (g3 j w1 w2).2.2, w3⟩
      · intro ⟨z, z1, z2⟩
        obtain ⟨i, i1, i2, i3⟩ := g4 z z1
        exact ⟨i, i1, i2, by rw [i3]; exact z2⟩) (F := 1000000) (by omega) (a := a) g1 (s := (nI a, h)) ⟨rfl, Nat.le_refl a, Mk_refl (fun c _ _ w => by obtain ⟨j, j1, j2, -⟩ := w; omega), fun _ _ _ _ => rfl⟩
    exact ⟨r.2, bd_of l1, l2, l3⟩
