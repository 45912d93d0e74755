/-! The search: second and first parts. -/
def BC (h : Hp) (n : Nat) (C : Nat → Option Nat) (bc st : Nat → Nat) : Prop :=
  n ≤ 10000 ∧ st n ≤ 256 ∧ (∀ m, m < n → st m ≤ st (m + 1)) ∧ (∀ i, i < st n → h 13 i = nI (bc i) ∧ bc i < 256) ∧ (∀ m, m ≤ n → h 14 m = nI (st m)) ∧ (∀ m, m < n → ∀ c, c < 256 → (C c = some m ↔ ∃ i, st m ≤ i ∧ i < st (m + 1) ∧ bc i = c)) ∧ (∀ m, m < n → ∀ i j, st m ≤ i → i < j → j < st (m + 1) → bc i < bc j) ∧ (0 < n → 0 < st 1 ∧ bc 0 = 170) ∧ st 0 = 0 ∧ h 10 9 = nI (st n)
theorem BC_le {h : Hp} {n : Nat} {C : Nat → Option Nat} {bc st : Nat → Nat} (H : BC h n C bc st) {m m' : Nat} (h1 : m ≤ m') (h2 : m' ≤ n) : st m ≤ st m' := by
  obtain ⟨-, -, g, -⟩ := H
  induction h1 with
  | refl => exact Nat.le_refl _
  | @step k hk ih => exact Nat.le_trans (ih (by omega)) (g k (by omega))
theorem BC_fr {h h' : Hp} {n : Nat} {C : Nat → Option Nat} {bc st : Nat → Nat} (e13 : ∀ k, h' 13 k = h 13 k) (e14 : ∀ k, h' 14 k = h 14 k) (e9 : h' 10 9 = h 10 9) (H : BC h n C bc st) : BC h' n C bc st := by
  obtain ⟨b1, b2, b3, b4, b5, b6, b7, b8, b9, b10⟩ := H
  exact ⟨b1, b2, b3, fun i hi => ⟨(e13 i).trans (b4 i hi).1, (b4 i hi).2⟩, fun m hm => (e14 m).trans (b5 m hm), b6, b7, b8, b9, e9.trans b10⟩
/-- the parts of one cost that a function takes at a place -/
def PR (C : Nat → Option Nat) (g : Bool) (m x : Nat) : Prop := x < 256 ∧ ((g = true ∧ C x = some m) ∨ (g = false ∧ m = 0 ∧ x = 170))
def b01 (g : Bool) : Int32 := nI (if g = true then 1 else 0)
theorem parts_at {h : Hp} {n L m : Nat} {C : Nat → Option Nat} {bc st : Nat → Nat} (H : BC h n C bc st) (e : h 10 12 = nI L) (hL : L < 2 ^ 31) (hm : m < n) (hmL : m ≤ L) (g : Bool) : ∃ a b, Jcs_partsFrom (nI m) (b01 g) h = some (nI a) ∧ Jcs_partsTo (nI m) (b01 g) h = some (nI b) ∧ Rg h bc a b (PR C g m) ∧ (g = true → a = st m ∧ b = st (m + 1)) ∧ b ≤ st n ∧ ∀ i j, a ≤ i → i < j → j < b → bc i < bc j := by
  have hle := BC_le H (show m + 1 ≤ n by omega) (Nat.le_refl n)
  have hl0 := BC_le H (show 1 ≤ n by omega) (Nat.le_refl n)
  obtain ⟨b1, b2, b3, b4, b5, b6, b7, b8, b9, b10⟩ := H
  cases g with
  | true =>
    refine ⟨st m, st (m + 1), ?_, ?_, ⟨b3 m hm, by omega, fun i i1 i2 => ?_, fun x hx => ?_⟩, fun _ => ⟨rfl, rfl⟩, hle, b7 m hm⟩
    · have q := b5 m (by omega)
      simp only [b01, if_pos]
      simp (disch := omega) only [Jcs_partsFrom, e, q, bd_some, lt_of', sm_l, sm_r, lit, lN_n, hset_if, nI_ltP, nI_eqI, nI_add, nI_sub, nI_clamp, ib_nI, cond_true, if_pos, if_neg, and_self, and_true, true_and, false_and, and_false, ↓reduceIte, eq_self, nI_m1]
      all_goals simp
    · have q := b5 (m + 1) (by omega)
      simp only [b01, if_pos]
      simp (disch := omega) only [Jcs_partsTo, e, q, bd_some, lt_of', sm_l, sm_r, lit, lN_n, hset_if, nI_ltP, nI_eqI, nI_add, nI_sub, nI_clamp, ib_nI, cond_true, if_pos, if_neg, and_self, and_true, true_and, false_and, and_false, ↓reduceIte, eq_self, nI_m1]
      all_goals simp
    · obtain ⟨k1, k2⟩ := b4 i (by omega)
      exact ⟨k1, k2, k2, Or.inl ⟨rfl, (b6 m hm _ k2).mpr ⟨i, i1, i2, rfl⟩⟩⟩
    · obtain ⟨k1, k2 | k2⟩ := hx
      · exact (b6 m hm x k1).mp k2.2
      · exact absurd k2.1 (by decide)
  | false =>
    by_cases z : m = 0
    · subst z
      refine ⟨0, 1, ?_, ?_, ⟨by omega, by omega, fun i i1 i2 => ?_, fun x hx => ?_⟩, fun w => absurd w (by decide), by have := (b8 (by omega)).1; omega, fun i j _ _ _ => by omega⟩
      · simp [b01, Jcs_partsFrom, lit]
      · have w1 : ¬ nI L < nI 0 := nI_nneg hL
        have w2 : Jcs_partsTo (nI 0) (b01 false) h = some 1 := by
          unfold Jcs_partsTo
          rw [e, if_neg (show ¬ nI 0 < (0 : Int32) by decide), if_neg w1, if_neg (show ¬ (9999 : Int32) < nI 0 by decide), if_pos (show b01 false = 0 from rfl), if_pos (show nI 0 = (0 : Int32) from rfl)]
        exact w2
      · have : i = 0 := by omega
        subst this
        obtain ⟨p1, p2⟩ := b8 (by omega)
        have := b4 0 (by omega)
        exact ⟨this.1, this.2, this.2, Or.inr ⟨rfl, rfl, p2⟩⟩
      · obtain ⟨k1, k2 | k2⟩ := hx
        · exact absurd k2.1 (by decide)
        · exact ⟨0, by omega, by omega, by rw [(b8 (by omega)).2, k2.2.2]⟩
    · refine ⟨0, 0, ?_, ?_, ⟨by omega, by omega, fun i i1 i2 => absurd i2 (by omega), fun x hx => ?_⟩, fun w => absurd w (by decide), Nat.zero_le _, fun i j _ _ q => absurd q (Nat.not_lt_zero j)⟩
      · simp [b01, Jcs_partsFrom, lit]
      · simp only [b01, if_neg (show ¬ (false = true) by decide)]
        simp (disch := omega) only [Jcs_partsTo, e, z, bd_some, lt_of', sm_l, sm_r, lit, lN_n, hset_if, nI_ltP, nI_eqI, nI_add, nI_sub, nI_clamp, ib_nI, cond_true, if_pos, if_neg, and_self, and_true, true_and, false_and, and_false, ↓reduceIte, eq_self, nI_m1]
        all_goals simp
      · obtain ⟨k1, k2 | k2⟩ := hx
        · exact absurd k2.1 (by decide)
        · exact absurd k2.2.1 z
def S2 (C : Nat → Option Nat) (f x left : Nat) (c : Nat) : Prop := ∃ j k y z, j + k = left ∧ PR C (hg f 1) j y ∧ PR C (hg f 2) k z ∧ c = pN f x y z
def R2 (h h' : Hp) : Prop := ∀ p k, p ≠ 11 → p ≠ 12 → ¬ (p = 18 ∧ 4 ≤ k) → h' p k = h p k
theorem R2_tr {h h1 h2 : Hp} (a : R2 h h1) (b : R2 h1 h2) : R2 h h2 := fun p k q r s => (b p k q r s).trans (a p k q r s)
theorem R2_3 {h h' : Hp} (r : R3 h h') : R2 h h' := fun p k a b _ => r p k a b
theorem AM_R2 {h h' : Hp} {f x S n t : Nat} {G : Nat → Prop} (r : R2 h h') (m : Mk n t G h h') (A : AM h f x S) : AM h' f x S :=
  AM_mono (r _ _ (by decide) (by decide) (by simp)) (fun k => r 16 k (by decide) (by decide) (by simp)) (fun c hc e => Mk_un m hc e) A
theorem BC_R2 {h h' : Hp} {n : Nat} {C : Nat → Option Nat} {bc st : Nat → Nat} (r : R2 h h') (H : BC h n C bc st) : BC h' n C bc st :=
  BC_fr (fun k => r 13 k (by decide) (by decide) (by simp)) (fun k => r 14 k (by decide) (by decide) (by simp)) (r 10 9 (by decide) (by decide) (by simp)) H
theorem PU1_R2 {h h' : Hp} {f x : Nat} (r : R2 h h') (H : PU1 f x h) : PU1 f x h' := fun i hi => (r 19 i (by decide) (by decide) (by simp)).trans (H i hi)
theorem PU_R2 {h h' : Hp} {f : Nat} (r : R2 h h') (H : PU f h) : PU f h' := ⟨(r _ _ (by decide) (by decide) (by simp)).trans H.1, (r _ _ (by decide) (by decide) (by simp)).trans H.2.1, (r _ _ (by decide) (by decide) (by simp)).trans H.2.2⟩
theorem hangsb_at {f v : Nat} (hf : f < 256) (hv : v < 3) {h : Hp} (H : PU f h) : Jpu_hangsOn (nI v) h = some (b01 (hg f v)) := hangs_at hf hv H
theorem Mk_same {n t : Nat} {S : Nat → Prop} {h h1 h' : Hp} (e1 : ∀ k, h1 11 k = h 11 k) (e2 : ∀ k, h1 12 k = h 12 k) (m : Mk n t S h1 h') : Mk n t S h h' := by
  intro c hc
  have := m c hc
  rw [e1, e2] at this
  exact this
/-- one turn of the second parts' loop -/
theorem sec1_at {h : Hp} {n t f x y S a b v3 : Nat} {u1 u2 : Int32} {s0 i : Nat} {bc : Nat → Nat} {Z : Nat → Prop} (hn : n < 2 ^ 31) (hx : x < 256) (e1 : h 10 12 = nI n) (e2 : h 10 14 = nI t) (P1 : PU1 f x h) (A : AM h f x S) (g : Rg h bc a b Z) (hi : i < s0) (hs : s0 ≤ 256) (hy : y < 256) (ey : h 13 i = nI y) (hS : ∀ z, Z z → inT S (pN f x y z) = true) : ∃ h', Jcs_trySeconds_L89 u1 u2 (nI v3) (nI a) (nI b) (nI s0) (nI i) h = some (.inl (nI (i + 1), h')) ∧ Mk n t (S3 f x y Z) h h' ∧ R2 h h' := by
  obtain ⟨h1, k1, k2, k3, k4⟩ := second_at (y := y) hx P1
  have A1 : AM h1 f x S := AM_mono (k3 _ _ (by decide)) (fun k => k3 16 k (by decide)) (fun c _ e => by rw [← k3 11 c (by decide)]; exact e) A
  obtain ⟨h2, j1, j2, j3⟩ := tryThirds_at hn hx hy ((k3 _ _ (by decide)).trans e1) ((k3 _ _ (by decide)).trans e2) k2 A1 (Rg_13 (fun k => k3 13 k (by decide)) g) hS
  refine ⟨h2, ?_, Mk_same (fun k => k3 11 k (by decide)) (fun k => k3 12 k (by decide)) j2, fun p k q r s => ?_⟩
  · simp (disch := omega) only [Jcs_trySeconds_L89, ey, k1, j1, bd_some, lt_of', sm_l, sm_r, lit, lN_n, hset_if, nI_ltP, nI_eqI, nI_add, nI_sub, nI_clamp, ib_nI, cond_true, if_pos, if_neg, and_self, and_true, true_and, false_and, and_false, ↓reduceIte, eq_self, nI_m1]
  · refine (j3 p k q r).trans ?_
    by_cases z : p = 18
    · subst z
      exact k4 k (by omega)
    · exact k3 p k z
/-- all second parts of one cost -/
theorem sec2_at {h : Hp} {n t f x S a b v3 c6 e6 : Nat} {u1 u2 : Int32} {bc : Nat → Nat} {Y Z : Nat → Prop} (hn : n < 2 ^ 31) (hx : x < 256) (e1 : h 10 12 = nI n) (e2 : h 10 14 = nI t) (P1 : PU1 f x h) (A : AM h f x S) (g : Rg h bc a b Z) (gy : Rg h bc c6 e6 Y) (hS : ∀ y z, Y y → Z z → inT S (pN f x y z) = true) : ∃ o : Int32 × Hp, loopN 1000000 (fun s => Jcs_trySeconds_L89 u1 u2 (nI v3) (nI a) (nI b) (nI e6) s.1 s.2) (nI c6, h) = some o ∧ Mk n t (fun c => ∃ y, Y y ∧ S3 f x y Z c) h o.2 ∧ R2 h o.2 := by
  have gy' := gy
  obtain ⟨y1, y2, y3, y4⟩ := gy'
  obtain ⟨r, l1, l2, l3⟩ := loop_cnt (fun s => Jcs_trySeconds_L89 u1 u2 (nI v3) (nI a) (nI b) (nI e6) s.1 s.2) (fun i s => s.1 = nI i ∧ c6 ≤ i ∧ Mk n t (fun c => ∃ j, c6 ≤ j ∧ j < i ∧ S3 f x (bc j) Z c) h s.2 ∧ R2 h s.2) (fun r => Mk n t (fun c => ∃ y, Y y ∧ S3 f x y Z c) h r.2 ∧ R2 h r.2) e6 (fun i s hi hs => by
      obtain ⟨i', hh⟩ := s
      obtain ⟨rfl, hai, m, r2⟩ := hs
      replace m : Mk n t (fun c => ∃ j, c6 ≤ j ∧ j < i ∧ S3 f x (bc j) Z c) h hh := m
      replace r2 : R2 h hh := r2
      obtain ⟨c0, c1, c2⟩ := y3 i hai hi
      obtain ⟨h2, k1, k2, k3⟩ := sec1_at (u1 := u1) (u2 := u2) (v3 := v3) (s0 := e6) (i := i) (y := bc i) hn hx ((r2 _ _ (by decide) (by decide) (by simp)).trans e1) ((r2 _ _ (by decide) (by decide) (by simp)).trans e2) (PU1_R2 r2 P1) (AM_R2 r2 m A) (Rg_13 (fun k => r2 13 k (by decide) (by decide) (by simp)) g) hi y2 c1 ((r2 13 i (by decide) (by decide) (by simp)).trans c0) (fun z hz => hS _ z c2 hz)
      refine Or.inl ⟨(nI (i + 1), h2), k1, rfl, by omega, Mk_tr hn m k2 (fun c hc u => ?_), R2_tr r2 k3⟩
      constructor
      · intro ⟨j, w1, w2, w3⟩
        by_cases z : j = i
        · exact Or.inr (by rw [← z]; exact w3)
        · exact Or.inl ⟨j, w1, by omega, w3⟩
      · intro w
        rcases w with ⟨j, w1, w2, w3⟩ | w
        · exact ⟨j, w1, by omega, w3⟩
        · exact ⟨i, hai, by omega, w⟩) (fun s hs => by
      obtain ⟨i', hh⟩ := s
      obtain ⟨rfl, hai, m, r2⟩ := hs
      replace m : Mk n t (fun c => ∃ j, c6 ≤ j ∧ j < e6 ∧ S3 f x (bc j) Z c) h hh := m
      replace r2 : R2 h hh := r2
      refine ⟨(nI e6, hh), by simp (disch := omega) only [Jcs_trySeconds_L89, bd_some, lt_of', sm_l, sm_r, lit, lN_n, hset_if, nI_ltP, nI_eqI, nI_add, nI_sub, nI_clamp, ib_nI, cond_true, if_pos, if_neg, and_self, and_true, true_and, false_and, and_false, ↓reduceIte, eq_self, nI_m1], Mk_cg (fun c hc u => ?_) m, r2⟩
      constructor
      · intro ⟨j, w1, w2, w3⟩
        exact ⟨bc j, (y3 j w1 w2).2.2, w3⟩
      · intro ⟨y, z1, z2⟩
        obtain ⟨i, i1, i2, i3⟩ := y4 y z1
        exact ⟨i, i1, i2, by rw [i3]; exact z2⟩) (F := 1000000) (by omega) (a := c6) y1 (s := (nI c6, h)) ⟨rfl, Nat.le_refl _, Mk_refl (fun c _ _ w => by obtain ⟨j, j1, j2, -⟩ := w; omega), fun _ _ _ _ _ => rfl⟩
  exact ⟨r, l1, l2, l3⟩

theorem secL_at {h : Hp} {n t f x S left j : Nat} {C : Nat → Option Nat} {bc st : Nat → Nat} (hn : n < 2 ^ 31) (hf : f < 256) (hx : x < 256) (B : BC h n C bc st) (e1 : h 10 12 = nI n) (e2 : h 10 14 = nI t) (P0 : PU f h) (P1 : PU1 f x h) (A : AM h f x S) (hl : left < n) (hj : j ≤ left) (hS : ∀ y z, PR C (hg f 1) j y → PR C (hg f 2) (left - j) z → inT S (pN f x y z) = true) : ∃ h', (bd (Jpu_hangsOn 2 h) fun c2 => bd (Jcs_partsFrom (nI left - nI j) c2 h) fun c3 => bd (Jpu_hangsOn 2 h) fun c4 => bd (Jcs_partsTo (nI left - nI j) c4 h) fun c5 => if c3 < c5 then bd (Jcs_partsTo (nI j) (b01 (hg f 1)) h) fun c6 => Jcs_trySeconds_J75 (nI left) (b01 (hg f 1)) (nI j) c3 c5 c6 h else Jcs_trySeconds_J75 (nI left) (b01 (hg f 1)) (nI j) c3 c5 0 h) = some (.inl (nI (j + 1), h')) ∧ Mk n t (fun c => ∃ y, PR C (hg f 1) j y ∧ S3 f x y (PR C (hg f 2) (left - j)) c) h h' ∧ R2 h h' := by
  have h2 : Jpu_hangsOn 2 h = some (b01 (hg f 2)) := hangsb_at hf (by decide) P0
  obtain ⟨a, b, p1, p2, p3, -⟩ := parts_at B e1 hn (show left - j < n by omega) (by omega) (hg f 2)
  obtain ⟨a', b', q1, q2, q3, -⟩ := parts_at B e1 hn (show j < n by omega) (by omega) (hg f 1)
  rw [h2, nI_sub hj]
  simp only [bd_some, p1, p2]
  have hb := p3.2.1
  have hab := p3.1
  have hb' := q3.2.1
  have hab' := q3.1
  by_cases c : a < b
  · rw [if_pos ((nI_ltI (by omega) (by omega)).mpr c)]
    obtain ⟨o, l1, l2, l3⟩ := sec2_at (u1 := nI left) (u2 := b01 (hg f 1)) (v3 := j) hn hx e1 e2 P1 A p3 q3 hS
    refine ⟨o.2, ?_, l2, l3⟩
    simp only [q2, bd_some, Jcs_trySeconds_J75, q1, mx_at (show a' < 2 ^ 31 by omega), l1]
    simp (disch := omega) only [bd_some, lt_of', sm_l, sm_r, lit, lN_n, hset_if, nI_ltP, nI_eqI, nI_add, nI_sub, nI_clamp, ib_nI, cond_true, if_pos, if_neg, and_self, and_true, true_and, false_and, and_false, ↓reduceIte, eq_self, nI_m1]
  · rw [if_neg (fun w => c ((nI_ltI (by omega) (by omega)).mp w))]
    have out : Jcs_trySeconds_L89 (nI left) (b01 (hg f 1)) (nI j) (nI a) (nI b) 0 (nI a') h = some (.inr (nI a', h)) := by
      simp (disch := omega) only [Jcs_trySeconds_L89, bd_some, lt_of', sm_l, sm_r, lit, lN_n, hset_if, nI_ltP, nI_eqI, nI_add, nI_sub, nI_clamp, ib_nI, cond_true, if_pos, if_neg, and_self, and_true, true_and, false_and, and_false, ↓reduceIte, eq_self, nI_m1]
      all_goals simp
    have lo : loopN 1000000 (fun s => Jcs_trySeconds_L89 (nI left) (b01 (hg f 1)) (nI j) (nI a) (nI b) 0 s.1 s.2) (nI a', h) = some (nI a', h) := loopN_out (f := fun s : Int32 × Hp => Jcs_trySeconds_L89 (nI left) (b01 (hg f 1)) (nI j) (nI a) (nI b) 0 s.1 s.2) (s := (nI a', h)) out 999999
    refine ⟨h, ?_, Mk_refl (fun c' _ _ w => ?_), fun _ _ _ _ _ => rfl⟩
    · simp only [Jcs_trySeconds_J75, q1, bd_some, mx_at (show a' < 2 ^ 31 by omega), lo]
      simp (disch := omega) only [bd_some, lt_of', sm_l, sm_r, lit, lN_n, hset_if, nI_ltP, nI_eqI, nI_add, nI_sub, nI_clamp, ib_nI, cond_true, if_pos, if_neg, and_self, and_true, true_and, false_and, and_false, ↓reduceIte, eq_self, nI_m1]
    · obtain ⟨y, -, z, z1, -⟩ := w
      obtain ⟨i, i1, i2, -⟩ := p3.2.2.2 z z1
      omega
theorem trySeconds_at {h : Hp} {n t f x S left : Nat} {C : Nat → Option Nat} {bc st : Nat → Nat} (hn : n < 2 ^ 31) (hf : f < 256) (hx : x < 256) (B : BC h n C bc st) (e1 : h 10 12 = nI n) (e2 : h 10 14 = nI t) (P0 : PU f h) (P1 : PU1 f x h) (A : AM h f x S) (hl : left < n) (hS : ∀ c, S2 C f x left c → inT S c = true) : ∃ h', Jcs_trySeconds (nI left) h = some h' ∧ Mk n t (S2 C f x left) h h' ∧ R2 h h' := by
  have g1 : Jpu_hangsOn 1 h = some (b01 (hg f 1)) := hangsb_at hf (by decide) P0
  obtain ⟨r, l1, l2, l3⟩ := loop_cnt (fun s => Jcs_trySeconds_L11 (nI left) (b01 (hg f 1)) s.1 s.2) (fun j s => s.1 = nI j ∧ Mk n t (fun c => ∃ j' k y z, j' < j ∧ j' + k = left ∧ PR C (hg f 1) j' y ∧ PR C (hg f 2) k z ∧ c = pN f x y z) h s.2 ∧ R2 h s.2) (fun r => Mk n t (S2 C f x left) h r.2 ∧ R2 h r.2) (left + 1) (fun j s hj hs => by
      obtain ⟨j', hh⟩ := s
      obtain ⟨rfl, m, r2⟩ := hs
      replace m : Mk n t (fun c => ∃ j' k y z, j' < j ∧ j' + k = left ∧ PR C (hg f 1) j' y ∧ PR C (hg f 2) k z ∧ c = pN f x y z) h hh := m
      replace r2 : R2 h hh := r2
      obtain ⟨h2, k1, k2, k3⟩ := secL_at (j := j) hn hf hx (BC_R2 r2 B) ((r2 _ _ (by decide) (by decide) (by simp)).trans e1) ((r2 _ _ (by decide) (by decide) (by simp)).trans e2) (PU_R2 r2 P0) (PU1_R2 r2 P1) (AM_R2 r2 m A) hl (by omega) (fun y z hy hz => hS _ ⟨j, left - j, y, z, by omega, hy, hz, rfl⟩)
      have n1 : ¬ nI left < nI j := fun w => absurd ((nI_ltI (by omega) (by omega)).mp w) (by omega)
      have step : Mk n t (fun c => ∃ j' k y z, j' < j + 1 ∧ j' + k = left ∧ PR C (hg f 1) j' y ∧ PR C (hg f 2) k z ∧ c = pN f x y z) h h2 := Mk_tr hn m k2 (fun c hc u => by
        constructor
        · intro ⟨j', k, y, z, w1, w2, w3, w4, w5⟩
          by_cases q : j' = j
          · subst q
            exact Or.inr ⟨y, w3, z, by rw [show left - j' = k by omega]; exact w4, w5⟩
          · exact Or.inl ⟨j', k, y, z, by omega, w2, w3, w4, w5⟩
        · intro w
          rcases w with ⟨j', k, y, z, w1, w⟩ | ⟨y, w3, z, w4, w5⟩
          · exact ⟨j', k, y, z, by omega, w⟩
          · exact ⟨j, left - j, y, z, by omega, by omega, w3, w4, w5⟩)
      by_cases z : j = 0
      · refine Or.inl ⟨(nI (j + 1), h2), ?_, rfl, step, R2_tr r2 k3⟩
        show Jcs_trySeconds_L11 (nI left) (b01 (hg f 1)) (nI j) hh = _
        unfold Jcs_trySeconds_L11
        rw [if_neg n1, if_pos (by rw [z]; rfl)]
        exact k1
      · have z' : ¬ nI j = 0 := fun w => z ((nI_eq (a := j) (b := 0) (by omega) (by omega)).mp w)
        cases hgf : hg f 1 with
        | true =>
          rw [hgf] at k1
          rw [hgf] at step
          refine Or.inl ⟨(nI (j + 1), h2), ?_, rfl, step, R2_tr r2 k3⟩
          show Jcs_trySeconds_L11 (nI left) (b01 true) (nI j) hh = _
          unfold Jcs_trySeconds_L11
          rw [if_neg n1, if_neg z', if_neg (by decide)]
          exact k1
        | false =>
          refine Or.inr ⟨(nI j, hh), ?_, Mk_cg (fun c hc u => ?_) m, r2⟩
          · show Jcs_trySeconds_L11 (nI left) (b01 false) (nI j) hh = _
            unfold Jcs_trySeconds_L11
            rw [if_neg n1, if_neg z', if_pos (by decide)]
          · unfold S2
            rw [hgf]
            constructor
            · intro ⟨j', k, y, z, w1, w⟩
              exact ⟨j', k, y, z, w⟩
            · intro ⟨j', k, y, z', w, w3, w4⟩
              refine ⟨j', k, y, z', ?_, w, w3, w4⟩
              obtain ⟨-, w3 | w3⟩ := w3
              · exact absurd w3.1 (by decide)
              · omega) (fun s hs => by
      obtain ⟨j', hh⟩ := s
      obtain ⟨rfl, m, r2⟩ := hs
      replace m : Mk n t (fun c => ∃ j' k y z, j' < left + 1 ∧ j' + k = left ∧ PR C (hg f 1) j' y ∧ PR C (hg f 2) k z ∧ c = pN f x y z) h hh := m
      replace r2 : R2 h hh := r2
      have n1 : nI left < nI (left + 1) := (nI_ltI (by omega) (by omega)).mpr (by omega)
      refine ⟨(nI (left + 1), hh), ?_, Mk_cg (fun c hc u => ?_) m, r2⟩
      · show Jcs_trySeconds_L11 (nI left) (b01 (hg f 1)) (nI (left + 1)) hh = _
        unfold Jcs_trySeconds_L11
        rw [if_pos n1]
      · constructor
        · intro ⟨j', k, y, z, w1, w⟩
          exact ⟨j', k, y, z, w⟩
        · intro ⟨j', k, y, z, w, w3⟩
          exact ⟨j', k, y, z, by omega, w, w3⟩) (F := 1000000) (by have := B.1; omega) (a := 0) (by omega) (s := (0, h)) ⟨rfl, Mk_refl (fun c _ _ w => by obtain ⟨j', k, y, z, w1, -⟩ := w; omega), fun _ _ _ _ _ => rfl⟩
  refine ⟨r.2, ?_, l2, l3⟩
  unfold Jcs_trySeconds
  rw [g1]
  exact bd_of l1
