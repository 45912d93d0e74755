/-! The model's search: one offer. -/
def pv (a i x : Nat) : Int32 := if i < a then nI x else -1
def pl (h : Hp) (a i x : Nat) : Int32 := if i < a then h 49 x else 0
def lex (x y z x' y' z' : Nat) : Prop := x < x' ∨ (x = x' ∧ (y < y' ∨ (y = y' ∧ z ≤ z')))
def Mof (n t a : Nat) (T : Nat → Nat → Nat → Nat → Prop) (h h' : Hp) : Prop := ∀ c, c < 256 →
  ((h 46 c = -1 ∧ ∃ x y z, T c x y z) → h' 46 c = nI n ∧ h' 47 c = nI t ∧ ∃ x y z, T c x y z ∧ (∀ x' y' z', T c x' y' z' → lex x y z x' y' z') ∧ h' 48 (3 * c) = pv a 0 x ∧ h' 48 (3 * c + 1) = pv a 1 y ∧ h' 48 (3 * c + 2) = pv a 2 z ∧ h' 49 c = ((nI 1 + pl h a 0 x) + pl h a 1 y) + pl h a 2 z) ∧
  (¬ (h 46 c = -1 ∧ ∃ x y z, T c x y z) → h' 46 c = h 46 c ∧ h' 47 c = h 47 c ∧ (∀ i, i < 3 → h' 48 (3 * c + i) = h 48 (3 * c + i)) ∧ h' 49 c = h 49 c)
def RM4 (h h' : Hp) : Prop := ∀ p k, p ≠ 46 → p ≠ 47 → p ≠ 48 → p ≠ 49 → h' p k = h p k
theorem RM4_tr {h h1 h2 : Hp} (a : RM4 h h1) (b : RM4 h1 h2) : RM4 h h2 := fun p k q r s t => (b p k q r s t).trans (a p k q r s t)
theorem Mof_refl {n t a : Nat} {T : Nat → Nat → Nat → Nat → Prop} {h : Hp} (g : ∀ c x y z, c < 256 → h 46 c = -1 → ¬ T c x y z) : Mof n t a T h h :=
  fun c hc => ⟨fun w => by obtain ⟨x, y, z, q⟩ := w.2; exact absurd q (g c x y z hc w.1), fun _ => ⟨rfl, rfl, fun _ _ => rfl, rfl⟩⟩
theorem Mof_cg {n t a : Nat} {T T' : Nat → Nat → Nat → Nat → Prop} {h h' : Hp} (g : ∀ c x y z, c < 256 → h 46 c = -1 → (T c x y z ↔ T' c x y z)) (m : Mof n t a T h h') : Mof n t a T' h h' := by
  intro c hc
  obtain ⟨m1, m2⟩ := m c hc
  constructor
  · intro ⟨u, x, y, z, w⟩
    obtain ⟨e1, e2, x', y', z', e3, e4, e5⟩ := m1 ⟨u, x, y, z, (g c x y z hc u).mpr w⟩
    exact ⟨e1, e2, x', y', z', (g c x' y' z' hc u).mp e3, fun a b d q => e4 a b d ((g c a b d hc u).mpr q), e5⟩
  · intro w
    exact m2 fun ⟨u, x, y, z, q⟩ => w ⟨u, x, y, z, (g c x y z hc u).mp q⟩
theorem Mof_made {n t a : Nat} {T : Nat → Nat → Nat → Nat → Prop} {h h' : Hp} (m : Mof n t a T h h') {c : Nat} (hc : c < 256) (u : h 46 c ≠ -1) : h' 46 c = h 46 c ∧ h' 49 c = h 49 c := by
  obtain ⟨e1, -, -, e2⟩ := (m c hc).2 (fun w => u w.1)
  exact ⟨e1, e2⟩
theorem Mof_un {n t a : Nat} {T : Nat → Nat → Nat → Nat → Prop} {h h' : Hp} (m : Mof n t a T h h') {c : Nat} (hc : c < 256) (u : h' 46 c = -1) : h 46 c = -1 :=
  Classical.byContradiction fun q => q ((Mof_made m hc q).1.symm.trans u)
theorem Mof_tr {n t a : Nat} (hn : n < 2 ^ 31) {T1 T2 T : Nat → Nat → Nat → Nat → Prop} {h h1 h2 : Hp} (m1 : Mof n t a T1 h h1) (m2 : Mof n t a T2 h1 h2) (g : ∀ c x y z, c < 256 → h 46 c = -1 → (T c x y z ↔ T1 c x y z ∨ T2 c x y z)) (ord : ∀ c x y z x' y' z', T1 c x y z → T2 c x' y' z' → lex x y z x' y' z') (parts : ∀ c x y z, T2 c x y z → (0 < a → x < 256 ∧ h 46 x ≠ -1) ∧ (1 < a → y < 256 ∧ h 46 y ≠ -1) ∧ (2 < a → z < 256 ∧ h 46 z ≠ -1)) : Mof n t a T h h2 := by
  have pe : ∀ i x, (i < a → x < 256 ∧ h 46 x ≠ -1) → pl h1 a i x = pl h a i x := fun i x q => by
    unfold pl
    by_cases w : i < a
    · rw [if_pos w, if_pos w]
      exact (Mof_made m1 (q w).1 (q w).2).2
    · rw [if_neg w, if_neg w]
  intro c hc
  by_cases u : h 46 c = -1
  · by_cases s1 : ∃ x y z, T1 c x y z
    · obtain ⟨e1, e2, x, y, z, e3, e4, e5, e6, e7, e8⟩ := (m1 c hc).1 ⟨u, s1⟩
      obtain ⟨d1, d2, d3, d4⟩ := (m2 c hc).2 (fun w => nI_ne1 hn (e1.symm.trans w.1))
      refine ⟨fun _ => ⟨d1.trans e1, d2.trans e2, x, y, z, (g c x y z hc u).mpr (Or.inl e3), fun x' y' z' q => ?_, (d3 0 (by decide)).trans e5, (d3 1 (by decide)).trans e6, (d3 2 (by decide)).trans e7, d4.trans e8⟩, fun w => absurd ⟨u, x, y, z, (g c x y z hc u).mpr (Or.inl e3)⟩ w⟩
      rcases (g c x' y' z' hc u).mp q with q | q
      · exact e4 x' y' z' q
      · exact ord c x y z x' y' z' e3 q
    · obtain ⟨e1, e2, e3, e4⟩ := (m1 c hc).2 (fun w => s1 w.2)
      by_cases s2 : ∃ x y z, T2 c x y z
      · obtain ⟨d1, d2, x, y, z, d3, d4, d5, d6, d7, d8⟩ := (m2 c hc).1 ⟨e1.trans u, s2⟩
        obtain ⟨p1, p2, p3⟩ := parts c x y z d3
        rw [pe 0 x p1, pe 1 y p2, pe 2 z p3] at d8
        refine ⟨fun _ => ⟨d1, d2, x, y, z, (g c x y z hc u).mpr (Or.inr d3), fun x' y' z' q => ?_, d5, d6, d7, d8⟩, fun w => absurd ⟨u, x, y, z, (g c x y z hc u).mpr (Or.inr d3)⟩ w⟩
        rcases (g c x' y' z' hc u).mp q with q | q
        · exact absurd ⟨x', y', z', q⟩ s1
        · exact d4 x' y' z' q
      · obtain ⟨d1, d2, d3, d4⟩ := (m2 c hc).2 (fun w => s2 w.2)
        refine ⟨fun w => ?_, fun _ => ⟨d1.trans e1, d2.trans e2, fun i hi => (d3 i hi).trans (e3 i hi), d4.trans e4⟩⟩
        obtain ⟨-, x, y, z, q⟩ := w
        rcases (g c x y z hc u).mp q with q | q
        · exact absurd ⟨x, y, z, q⟩ s1
        · exact absurd ⟨x, y, z, q⟩ s2
  · obtain ⟨e1, e2, e3, e4⟩ := (m1 c hc).2 (fun w => u w.1)
    obtain ⟨d1, d2, d3, d4⟩ := (m2 c hc).2 (fun w => u (e1.symm.trans w.1))
    exact ⟨fun w => absurd w.1 u, fun _ => ⟨d1.trans e1, d2.trans e2, fun i hi => (d3 i hi).trans (e3 i hi), d4.trans e4⟩⟩
theorem m1_lt0 : (-1 : Int32) < 0 := by decide
def offH (h : Hp) (n t c : Nat) (p0 p1 p2 l : Int32) : Hp := hset (hset (hset (hset (hset (hset h 46 c (nI n)) 47 c (nI t)) 48 (3 * c) p0) 48 (3 * c + 1) p1) 48 (3 * c + 2) p2) 49 c l
theorem offer_run {h : Hp} {n t a c x y z : Nat} (ha : a ≤ 3) (hc : c < 256) (hx : 0 < a → x < 256) (hy : 1 < a → y < 256) (hz : 2 < a → z < 256) (e : h 37 24 = nI n) (u : h 46 c = -1) : Jm_offer (nI c) (nI t) (pv a 0 x) (pv a 1 y) (pv a 2 z) h = some (offH h n t c (pv a 0 x) (pv a 1 y) (pv a 2 z) (((nI 1 + pl h a 0 x) + pl h a 1 y) + pl h a 2 z)) := by
  have m1 : ((-nI 1 : Int32) < nI 0) = True := eq_true m1_lt0
  have u' : h 46 c = -nI 1 := u
  have z1 : ∀ v : Int32, v + nI 0 = v := fun v => Int32.add_zero v
  have n0 : ∀ {k : Nat}, k < 2 ^ 31 → (nI k < nI 0) = False := fun q => eq_false (nI_nneg q)
  rcases (show a = 0 ∨ a = 1 ∨ a = 2 ∨ a = 3 by omega) with rfl | rfl | rfl | rfl
  · simp only [pv, pl, if_neg (Nat.lt_irrefl 0), if_neg (show ¬ 1 < 0 by decide), if_neg (show ¬ 2 < 0 by decide)]
    simp (disch := omega) only [Jm_offer, Jm_offer_J80, Jm_offer_J97, u', m1, e, nI_mul, offH, z1, bd_some, lt_of', sm_l, sm_r, lit, lN_n, hset_if, nI_ltP, nI_eqI, nI_add, nI_sub, nI_clamp, ib_nI, cond_true, if_pos, if_neg, and_self, and_true, true_and, false_and, and_false, ↓reduceIte, eq_self, nI_m1]
  · have hx := hx (by decide)
    simp only [pv, pl, if_pos (show 0 < 1 by decide), if_neg (show ¬ 1 < 1 by decide), if_neg (show ¬ 2 < 1 by decide)]
    have := n0 (show x < 2 ^ 31 by omega)
    simp (disch := omega) only [Jm_offer, Jm_offer_J80, Jm_offer_J97, u', m1, e, nI_mul, offH, z1, this, bd_some, lt_of', sm_l, sm_r, lit, lN_n, hset_if, nI_ltP, nI_eqI, nI_add, nI_sub, nI_clamp, ib_nI, cond_true, if_pos, if_neg, and_self, and_true, true_and, false_and, and_false, ↓reduceIte, eq_self, nI_m1]
  · have hx := hx (by decide)
    have hy := hy (by decide)
    simp only [pv, pl, if_pos (show 0 < 2 by decide), if_pos (show 1 < 2 by decide), if_neg (show ¬ 2 < 2 by decide)]
    have q1 := n0 (show x < 2 ^ 31 by omega)
    have q2 := n0 (show y < 2 ^ 31 by omega)
    simp (disch := omega) only [Jm_offer, Jm_offer_J80, Jm_offer_J97, u', m1, e, nI_mul, offH, z1, q1, q2, bd_some, lt_of', sm_l, sm_r, lit, lN_n, hset_if, nI_ltP, nI_eqI, nI_add, nI_sub, nI_clamp, ib_nI, cond_true, if_pos, if_neg, and_self, and_true, true_and, false_and, and_false, ↓reduceIte, eq_self, nI_m1]
  · have hx := hx (by decide)
    have hy := hy (by decide)
    have hz := hz (by decide)
    simp only [pv, pl, if_pos (show 0 < 3 by decide), if_pos (show 1 < 3 by decide), if_pos (show 2 < 3 by decide)]
    have q1 := n0 (show x < 2 ^ 31 by omega)
    have q2 := n0 (show y < 2 ^ 31 by omega)
    have q3 := n0 (show z < 2 ^ 31 by omega)
    simp (disch := omega) only [Jm_offer, Jm_offer_J80, Jm_offer_J97, u', m1, e, nI_mul, offH, z1, q1, q2, q3, bd_some, lt_of', sm_l, sm_r, lit, lN_n, hset_if, nI_ltP, nI_eqI, nI_add, nI_sub, nI_clamp, ib_nI, cond_true, if_pos, if_neg, and_self, and_true, true_and, false_and, and_false, ↓reduceIte, eq_self, nI_m1]
/-- what the model's costs are while a level is laid -/
def CMo (h : Hp) (n : Nat) (C : Nat → Option Nat) : Prop := ∀ c, c < 256 → (∀ k, C c = some k → h 46 c = nI k ∧ k < n) ∧ (C c = none → h 46 c = -1 ∨ h 46 c = nI n)
theorem CMo_Mof {n t a : Nat} {T : Nat → Nat → Nat → Nat → Prop} {h h' : Hp} {C : Nat → Option Nat} (hn : n < 2 ^ 31) (m : Mof n t a T h h') (H : CMo h n C) : CMo h' n C := by
  intro c hc
  obtain ⟨a1, a2⟩ := H c hc
  obtain ⟨m1, m2⟩ := m c hc
  refine ⟨fun k e => ?_, fun e => ?_⟩
  · obtain ⟨b1, b2⟩ := a1 k e
    exact ⟨(m2 (fun w => nI_ne1 (by omega) (b1.symm.trans w.1))).1.trans b1, b2⟩
  · by_cases q : h 46 c = -1 ∧ ∃ x y z, T c x y z
    · exact Or.inr (m1 q).1
    · rw [(m2 q).1]
      exact a2 e
theorem CMo_fr {h h' : Hp} {n : Nat} {C : Nat → Option Nat} (e : ∀ k, h' 46 k = h 46 k) (H : CMo h n C) : CMo h' n C := by
  intro c hc
  rw [e]
  exact H c hc
theorem CMo_made {h : Hp} {n : Nat} {C : Nat → Option Nat} (hn : n < 2 ^ 31) (H : CMo h n C) {c k : Nat} (hc : c < 256) (e : C c = some k) : h 46 c ≠ -1 := by
  obtain ⟨b1, b2⟩ := (H c hc).1 k e
  rw [b1]
  exact nI_ne1 (by omega)
theorem offer_at {h : Hp} {n t a c x y z : Nat} {C : Nat → Option Nat} (hn : n < 2 ^ 31) (ha : a ≤ 3) (hc : c < 256) (hx : 0 < a → x < 256) (hy : 1 < a → y < 256) (hz : 2 < a → z < 256) (e : h 37 24 = nI n) (H : CMo h n C) : ∃ h', Jm_offer (nI c) (nI t) (pv a 0 x) (pv a 1 y) (pv a 2 z) h = some h' ∧ Mof n t a (fun c' x' y' z' => c' = c ∧ x' = x ∧ y' = y ∧ z' = z) h h' ∧ RM4 h h' := by
  by_cases u : h 46 c = -1
  · refine ⟨_, offer_run ha hc hx hy hz e u, fun d hd => ⟨fun w => ?_, fun w => ?_⟩, fun p k w1 w2 w3 w4 => ?_⟩
    · obtain ⟨-, -, -, -, rfl, -⟩ := w
      refine ⟨?_, ?_, x, y, z, ⟨rfl, rfl, rfl, rfl⟩, fun x' y' z' q => ?_, ?_, ?_, ?_, ?_⟩
      · simp [offH, hset_if]
      · simp [offH, hset_if]
      · obtain ⟨-, rfl, rfl, rfl⟩ := q
        exact Or.inr ⟨rfl, Or.inr ⟨rfl, Nat.le_refl _⟩⟩
      · simp [offH, hset_if]
      · simp [offH, hset_if]
      · simp [offH, hset_if]
      · simp [offH, hset_if]
    · have hd' : d ≠ c := fun q => w ⟨q ▸ u, x, y, z, q, rfl, rfl, rfl⟩
      refine ⟨?_, ?_, fun i hi => ?_, ?_⟩
      · simp [offH, hset_if, hd']
      · simp [offH, hset_if, hd']
      · unfold offH
        rw [hset_if, if_neg (by simp), hset_if, if_neg (by omega), hset_if, if_neg (by omega), hset_if, if_neg (by omega), hset_if, if_neg (by simp), hset_if, if_neg (by simp)]
      · simp [offH, hset_if, hd']
    · unfold offH
      rw [hset_if, if_neg (fun q => w4 q.1), hset_if, if_neg (fun q => w3 q.1), hset_if, if_neg (fun q => w3 q.1), hset_if, if_neg (fun q => w3 q.1), hset_if, if_neg (fun q => w2 q.1), hset_if, if_neg (fun q => w1 q.1)]
  · have nn : ¬ h 46 c < 0 := by
      obtain ⟨a1, a2⟩ := H c hc
      cases q : C c with
      | some k =>
        rw [(a1 k q).1]
        exact nI_nneg (by have := (a1 k q).2; omega)
      | none =>
        rcases a2 q with w | w
        · exact absurd w u
        · rw [w]; exact nI_nneg hn
    refine ⟨h, ?_, Mof_refl (fun d x' y' z' _ v w => u (w.1 ▸ v)), fun _ _ _ _ _ _ => rfl⟩
    unfold Jm_offer
    rw [ib_nI (by omega) (by omega), cond_true, nI_clamp (by omega), if_neg nn]
def BM (h : Hp) (n : Nat) (C : Nat → Option Nat) (bc st : Nat → Nat) : Prop :=
  n ≤ 10000 ∧ st n ≤ 256 ∧ (∀ m, m < n → st m ≤ st (m + 1)) ∧ (∀ i, i < st n → h 50 i = nI (bc i) ∧ bc i < 256) ∧ (∀ m, m ≤ n → h 51 m = nI (st m)) ∧ (∀ m, m < n → ∀ c, c < 256 → (C c = some m ↔ ∃ i, st m ≤ i ∧ i < st (m + 1) ∧ bc i = c)) ∧ (∀ m, m < n → ∀ i j, st m ≤ i → i < j → j < st (m + 1) → bc i < bc j) ∧ st 0 = 0
theorem BM_le {h : Hp} {n : Nat} {C : Nat → Option Nat} {bc st : Nat → Nat} (H : BM h n C bc st) {m m' : Nat} (h1 : m ≤ m') (h2 : m' ≤ n) : st m ≤ st m' := by
  obtain ⟨-, -, g, -⟩ := H
  induction h1 with
  | refl => exact Nat.le_refl _
  | @step k hk ih => exact Nat.le_trans (ih (by omega)) (g k (by omega))
theorem BM_fr {h h' : Hp} {n : Nat} {C : Nat → Option Nat} {bc st : Nat → Nat} (e13 : ∀ k, h' 50 k = h 50 k) (e14 : ∀ k, h' 51 k = h 51 k) (H : BM h n C bc st) : BM h' n C bc st := by
  obtain ⟨b1, b2, b3, b4, b5, b6, b7, b8⟩ := H
  exact ⟨b1, b2, b3, fun i hi => ⟨(e13 i).trans (b4 i hi).1, (b4 i hi).2⟩, fun m hm => (e14 m).trans (b5 m hm), b6, b7, b8⟩
theorem with_eq {f x y z : Nat} : (pN f x y 255 &&& z) ||| (pN f x y 0 &&& (z ^^^ 255)) = pN f x y z := by
  refine tl_ext (n := 8) (Nat.or_lt_two_pow (n := 8) (Nat.lt_of_le_of_lt Nat.and_le_left (pN_lt _ _ _ _)) (Nat.lt_of_le_of_lt Nat.and_le_left (pN_lt _ _ _ _))) (pN_lt _ _ _ _) fun p hp => ?_
  rw [tl_or, tl_and, tl_and, tl_xor, tl_255 p hp, tl_pN hp, tl_pN hp, tl_pN hp, tl_255 p hp, tl_0]
  rcases t01 (tl_le z p) with q | q <;> rw [q] <;> rcases t01 (tl_le f (4 * tl x p + 2 * tl y p + 0)) with r | r <;> rcases t01 (tl_le f (4 * tl x p + 2 * tl y p + 1)) with w | w <;> rw [r, w] <;> rfl
theorem offerThird_at {h : Hp} {n t f x y k : Nat} {C : Nat → Option Nat} {bc st : Nat → Nat} (hn : n < 2 ^ 31) (ht : t < 6) (hf : f < 256) (hx : x < 256) (hy : y < 256) (e : h 37 24 = nI n) (ef : h 38 (1 + t) = nI f) (H : CMo h n C) (B : BM h n C bc st) (hk : k < n) (mx : h 46 x ≠ -1) (my : h 46 y ≠ -1) : ∃ h', Jm_offerThird (nI t) (nI x) (nI y) (nI k) h = some h' ∧ Mof n t 3 (fun c x' y' z => x' = x ∧ y' = y ∧ z < 256 ∧ C z = some k ∧ c = pN f x y z) h h' ∧ RM4 h h' := by
  have hle := BM_le B (show k + 1 ≤ n by omega) (Nat.le_refl n)
  have B' := B
  obtain ⟨b1, b2, b3, b4, b5, b6, b7, b8⟩ := B'
  obtain ⟨r, l1, l2, l3⟩ := loop_cnt (fun s => Jm_offerThird_L41 (nI t) (nI x) (nI y) (nI k) (h 38 (Int32.toNatClampNeg ((1 : Int32) + nI t))) (nI (pN f x y 255)) (nI (pN f x y 0)) s.1 s.2) (fun i s => s.1 = nI i ∧ st k ≤ i ∧ Mof n t 3 (fun c x' y' z => x' = x ∧ y' = y ∧ c = pN f x y z ∧ ∃ j, st k ≤ j ∧ j < i ∧ bc j = z) h s.2 ∧ RM4 h s.2) (fun r => Mof n t 3 (fun c x' y' z => x' = x ∧ y' = y ∧ z < 256 ∧ C z = some k ∧ c = pN f x y z) h r.2 ∧ RM4 h r.2) (st (k + 1)) (fun i s hi hs => by
      obtain ⟨i', hh⟩ := s
      obtain ⟨e1, hki, m, r4⟩ := hs
      replace e1 : i' = nI i := e1
      subst e1
      replace m : Mof n t 3 (fun c x' y' z => x' = x ∧ y' = y ∧ c = pN f x y z ∧ ∃ j, st k ≤ j ∧ j < i ∧ bc j = z) h hh := m
      replace r4 : RM4 h hh := r4
      obtain ⟨c0, c1⟩ := b4 i (by omega)
      have u1 : hh 50 i = nI (bc i) := (r4 50 i (by decide) (by decide) (by decide) (by decide)).trans c0
      have u2 : hh 51 (k + 1) = nI (st (k + 1)) := (r4 51 (k + 1) (by decide) (by decide) (by decide) (by decide)).trans (b5 (k + 1) (by omega))
      have u3 : hh 37 24 = nI n := (r4 37 24 (by decide) (by decide) (by decide) (by decide)).trans e
      obtain ⟨h2, k1, k2, k3⟩ := offer_at (t := t) (a := 3) (x := x) (y := y) (z := bc i) (c := pN f x y (bc i)) hn (Nat.le_refl 3) (pN_lt _ _ _ _) (fun _ => hx) (fun _ => hy) (fun _ => c1) u3 (CMo_Mof hn m H)
      simp only [pv, if_pos (show 0 < 3 by decide), if_pos (show 1 < 3 by decide), if_pos (show 2 < 3 by decide)] at k1
      have val : (nI (pN f x y 255) &&& nI (bc i)) ||| (nI (pN f x y 0) &&& (nI (bc i) ^^^ (-nI 1))) = nI (pN f x y (bc i)) := by
        rw [nI_not (n := 8) (pN_lt _ _ _ _) (by decide), nI_and, nI_or, show (2 ^ 8 - 1 : Nat) = 255 from rfl, with_eq]
      have mz : h 46 (bc i) ≠ -1 := CMo_made hn H c1 ((b6 k hk _ c1).mpr ⟨i, hki, hi, rfl⟩)
      refine Or.inl ⟨(nI (i + 1), h2), ?_, rfl, by omega, Mof_tr hn m k2 (fun c x' y' z' hc u => ?_) (fun c x1 y1 z1 x2 y2 z2 w1 w2 => ?_) (fun c x1 y1 z1 w => ?_), RM4_tr r4 k3⟩
      · simp (disch := omega) only [Jm_offerThird_L41, u1, u2, val, k1, bd_some, lt_of', sm_l, sm_r, lit, lN_n, hset_if, nI_ltP, nI_eqI, nI_add, nI_sub, nI_clamp, ib_nI, cond_true, if_pos, if_neg, and_self, and_true, true_and, false_and, and_false, ↓reduceIte, eq_self, nI_m1]
      · constructor
        · intro ⟨w1, w2, w3, j, w4, w5, w6⟩
          by_cases z : j = i
          · subst z
            subst w6
            exact Or.inr ⟨w3, w1, w2, rfl⟩
          · exact Or.inl ⟨w1, w2, w3, j, w4, by omega, w6⟩
        · intro w
          rcases w with ⟨w1, w2, w3, j, w4, w5, w6⟩ | ⟨w1, w2, w3, w4⟩
          · exact ⟨w1, w2, w3, j, w4, by omega, w6⟩
          · exact ⟨w2, w3, by rw [w4]; exact w1, i, hki, by omega, w4.symm⟩
      · obtain ⟨p1, p2, -, j, p3, p4, p5⟩ := w1
        obtain ⟨-, q1, q2, q3⟩ := w2
        have := b7 k hk j i p3 p4 hi
        exact Or.inr ⟨p1.trans q1.symm, Or.inr ⟨p2.trans q2.symm, by omega⟩⟩
      · obtain ⟨-, rfl, rfl, rfl⟩ := w
        exact ⟨fun _ => ⟨hx, mx⟩, fun _ => ⟨hy, my⟩, fun _ => ⟨c1, mz⟩⟩) (fun s hs => by
      obtain ⟨i', hh⟩ := s
      obtain ⟨e1, hki, m, r4⟩ := hs
      replace e1 : i' = nI (st (k + 1)) := e1
      subst e1
      replace m : Mof n t 3 (fun c x' y' z => x' = x ∧ y' = y ∧ c = pN f x y z ∧ ∃ j, st k ≤ j ∧ j < st (k + 1) ∧ bc j = z) h hh := m
      replace r4 : RM4 h hh := r4
      have u2 : hh 51 (k + 1) = nI (st (k + 1)) := (r4 51 (k + 1) (by decide) (by decide) (by decide) (by decide)).trans (b5 (k + 1) (by omega))
      refine ⟨(nI (st (k + 1)), hh), by simp (disch := omega) only [Jm_offerThird_L41, u2, bd_some, lt_of', sm_l, sm_r, lit, lN_n, hset_if, nI_ltP, nI_eqI, nI_add, nI_sub, nI_clamp, ib_nI, cond_true, if_pos, if_neg, and_self, and_true, true_and, false_and, and_false, ↓reduceIte, eq_self, nI_m1], Mof_cg (fun c x' y' z hc u => ?_) m, r4⟩
      constructor
      · intro ⟨w1, w2, w3, j, w4, w5, w6⟩
        have : bc j < 256 := (b4 j (by omega)).2
        refine ⟨w1, w2, w6 ▸ this, ?_, w3⟩
        rw [← w6]
        exact (b6 k hk _ this).mpr ⟨j, w4, w5, rfl⟩
      · intro ⟨w1, w2, w3, w4, w5⟩
        obtain ⟨j, q1, q2, q3⟩ := (b6 k hk z w3).mp w4
        exact ⟨w1, w2, w5, j, q1, q2, q3⟩) (F := 1000000) (by omega) (a := st k) (b3 k hk) (s := (nI (st k), h)) ⟨rfl, Nat.le_refl _, Mof_refl (fun c x' y' z _ _ w => by obtain ⟨-, -, -, j, w1, w2, -⟩ := w; omega), fun _ _ _ _ _ _ => rfl⟩
  refine ⟨r.2, ?_, l2, l3⟩
  have p1 := Jm_putOn_at (f := f) (x := x) (y := y) (z := 255) (by omega) (by omega) (by omega) (by omega)
  have p2 := Jm_putOn_at (f := f) (x := x) (y := y) (z := 0) (by omega) (by omega) (by omega) (by omega)
  have b5k := b5 k (by omega)
  have e1t : (Int32.toNatClampNeg ((1 : Int32) + nI t)) = 1 + t := by
    rw [lit 1, nI_add, nI_clamp (by omega)]
  unfold Jm_offerThird
  rw [e1t] at l1 ⊢
  rw [lit 1, nI_add, ib_nI (by omega) (by omega), cond_true, ef, lit 255, p1, bd_some, lit 0, p2, bd_some, ib_nI (by omega) (by omega), cond_true, nI_clamp (by omega), b5k]
  rw [ef] at l1
  exact bd_of l1
