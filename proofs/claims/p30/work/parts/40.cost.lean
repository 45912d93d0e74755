/-! Costs: what they are. -/
def chs (s : Sh) (f : Nat) : Prop := f < s.1 ∧ tl s.2.2 f = 1
/-- a way to make c with the function f at the level n, out of parts that cost C -/
def WayP (C : Nat → Option Nat) (f n c x y z : Nat) : Prop :=
  (arN f = 0 ∧ n = 1 ∧ c = f ∧ x = 0 ∧ y = 0 ∧ z = 0) ∨
  (arN f = 1 ∧ (∃ i, C x = some i ∧ i + 1 = n) ∧ c = pN f x 0 0 ∧ x < 256 ∧ y = 0 ∧ z = 0) ∨
  (arN f = 2 ∧ (∃ i j, C x = some i ∧ C y = some j ∧ i + j + 1 = n) ∧ c = pN f x y 0 ∧ x < 256 ∧ y < 256 ∧ z = 0) ∨
  (arN f = 3 ∧ (∃ i j k, C x = some i ∧ C y = some j ∧ C z = some k ∧ i + j + k + 1 = n) ∧ c = pN f x y z ∧ x < 256 ∧ y < 256 ∧ z < 256)
def WayE (C : Nat → Option Nat) (f n c : Nat) : Prop := ∃ x y z, WayP C f n c x y z
def base3 (c : Nat) : Prop := c = 170 ∨ c = 204 ∨ c = 240
noncomputable def LV (s : Sh) : Nat → Nat → Option Nat
  | 0, c => @ite _ (base3 c) (Classical.propDecidable _) (some 0) none
  | n + 1, c => match LV s n c with
    | some k => some k
    | none => @ite _ (∃ f, chs s f ∧ WayE (LV s n) (s.2.1 f) (n + 1) c) (Classical.propDecidable _) (some (n + 1)) none
theorem LV_0 (s : Sh) (c : Nat) : LV s 0 c = some 0 ↔ base3 c := by
  simp only [LV]
  by_cases h : base3 c
  · simp [h]
  · simp [h]
theorem LV_0n (s : Sh) (c : Nat) : LV s 0 c = none ↔ ¬ base3 c := by
  simp only [LV]
  by_cases h : base3 c
  · simp [h]
  · simp [h]
theorem LV_keep {s : Sh} {n c k : Nat} (h : LV s n c = some k) : LV s (n + 1) c = some k := by
  simp only [LV, h]
theorem LV_new {s : Sh} {n c : Nat} (h : LV s n c = none) (w : ∃ f, chs s f ∧ WayE (LV s n) (s.2.1 f) (n + 1) c) : LV s (n + 1) c = some (n + 1) := by
  simp only [LV, h]
  exact if_pos w
theorem LV_not {s : Sh} {n c : Nat} (h : LV s n c = none) (w : ¬ ∃ f, chs s f ∧ WayE (LV s n) (s.2.1 f) (n + 1) c) : LV s (n + 1) c = none := by
  simp only [LV, h]
  exact if_neg w
theorem LV_mono {s : Sh} {n m c k : Nat} (hm : n ≤ m) (h : LV s n c = some k) : LV s m c = some k := by
  induction hm with
  | refl => exact h
  | step _ ih => exact LV_keep ih
theorem LV_none {s : Sh} {n m c : Nat} (hm : n ≤ m) (h : LV s m c = none) : LV s n c = none := by
  cases q : LV s n c with
  | none => rfl
  | some k => rw [LV_mono hm q] at h; cases h
/-- what is there at the level n with cost k was there at the level k -/
theorem LV_at {s : Sh} : ∀ {n c k : Nat}, LV s n c = some k → k ≤ n ∧ LV s k c = some k ∧ (0 < k → LV s (k - 1) c = none ∧ ∃ f, chs s f ∧ WayE (LV s (k - 1)) (s.2.1 f) k c)
  | 0, c, k, h => by
    have hb : base3 c := by
      by_cases q : base3 c
      · exact q
      · rw [(LV_0n s c).mpr q] at h; cases h
    have := (LV_0 s c).mpr hb
    rw [this] at h
    cases h
    exact ⟨Nat.le_refl 0, this, fun q => absurd q (Nat.lt_irrefl 0)⟩
  | n + 1, c, k, h => by
    cases q : LV s n c with
    | some j =>
      have := LV_keep q
      rw [this] at h
      cases h
      obtain ⟨h1, h2, h3⟩ := LV_at q
      exact ⟨by omega, h2, h3⟩
    | none =>
      by_cases w : ∃ f, chs s f ∧ WayE (LV s n) (s.2.1 f) (n + 1) c
      · have := LV_new q w
        rw [this] at h
        cases h
        exact ⟨Nat.le_refl _, this, fun _ => ⟨q, w⟩⟩
      · rw [LV_not q w] at h; cases h
theorem LV_iff {s : Sh} {n m c k : Nat} (hm : n ≤ m) (hk : k ≤ n) : LV s m c = some k ↔ LV s n c = some k := by
  constructor
  · intro h
    obtain ⟨-, h2, -⟩ := LV_at h
    exact LV_mono hk h2
  · exact LV_mono hm
/-- a way needs only what costs less than it -/
theorem WayP_low {C C' : Nat → Option Nat} {f n c x y z : Nat} (h : ∀ x i, i < n → (C x = some i → C' x = some i)) (w : WayP C f n c x y z) : WayP C' f n c x y z := by
  rcases w with w | ⟨w1, ⟨i, e1, e2⟩, w2⟩ | ⟨w1, ⟨i, j, e1, e2, e3⟩, w2⟩ | ⟨w1, ⟨i, j, k, e1, e2, e3, e4⟩, w2⟩
  · exact Or.inl w
  · exact Or.inr (Or.inl ⟨w1, ⟨i, h x i (by omega) e1, e2⟩, w2⟩)
  · exact Or.inr (Or.inr (Or.inl ⟨w1, ⟨i, j, h x i (by omega) e1, h y j (by omega) e2, e3⟩, w2⟩))
  · exact Or.inr (Or.inr (Or.inr ⟨w1, ⟨i, j, k, h x i (by omega) e1, h y j (by omega) e2, h z k (by omega) e3, e4⟩, w2⟩))
theorem WayP_LV {s : Sh} {n m f k c x y z : Nat} (hn : k ≤ n + 1) (hm : k ≤ m + 1) (w : WayP (LV s n) f k c x y z) : WayP (LV s m) f k c x y z := by
  refine WayP_low (fun x i hi e => ?_) w
  have h1 := (LV_at e).2.1
  exact LV_mono (by omega) h1
theorem LV_way {s : Sh} {n c k : Nat} (h : LV s n c = some k) (hk : 0 < k) : k ≤ n ∧ ∃ f, chs s f ∧ WayE (LV s n) (s.2.1 f) k c := by
  obtain ⟨h1, h2, h3⟩ := LV_at h
  obtain ⟨-, f, hf, x, y, z, w⟩ := h3 hk
  exact ⟨h1, f, hf, x, y, z, WayP_LV (by omega) (by omega) w⟩
/-- the greatest cost so far -/
noncomputable def drN (s : Sh) : Nat → Nat
  | 0 => 0
  | n + 1 => @ite _ (∃ c, c < 256 ∧ LV s (n + 1) c = some (n + 1)) (Classical.propDecidable _) (n + 1) (drN s n)
theorem drN_le (s : Sh) : ∀ n, drN s n ≤ n
  | 0 => Nat.le_refl 0
  | n + 1 => by
    simp only [drN]
    have := drN_le s n
    by_cases h : ∃ c, c < 256 ∧ LV s (n + 1) c = some (n + 1)
    · rw [if_pos h]; omega
    · rw [if_neg h]; omega
theorem drN_max {s : Sh} : ∀ {n c k : Nat}, c < 256 → LV s n c = some k → k ≤ drN s n
  | 0, c, k, hc, h => by have := (LV_at h).1; omega
  | n + 1, c, k, hc, h => by
    simp only [drN]
    have hk := (LV_at h).1
    by_cases q : ∃ c, c < 256 ∧ LV s (n + 1) c = some (n + 1)
    · rw [if_pos q]; exact hk
    · rw [if_neg q]
      by_cases z : k = n + 1
      · subst z; exact absurd ⟨c, hc, h⟩ q
      · exact drN_max hc ((LV_iff (Nat.le_succ n) (by omega)).mp h)
theorem drN_is (s : Sh) : ∀ n, ∃ c, c < 256 ∧ LV s n c = some (drN s n)
  | 0 => ⟨170, by decide, (LV_0 s 170).mpr (Or.inl rfl)⟩
  | n + 1 => by
    simp only [drN]
    by_cases q : ∃ c, c < 256 ∧ LV s (n + 1) c = some (n + 1)
    · rw [if_pos q]; exact q
    · rw [if_neg q]
      obtain ⟨c, h1, h2⟩ := drN_is s n
      exact ⟨c, h1, LV_keep h2⟩
/-- a way's level is no more than three times the dearest, and one -/
theorem WayP_top {s : Sh} {n f k c x y z : Nat} (w : WayP (LV s n) f k c x y z) : k ≤ 3 * drN s n + 1 := by
  rcases w with w | ⟨w1, ⟨i, e1, e2⟩, w2⟩ | ⟨w1, ⟨i, j, e1, e2, e3⟩, w2⟩ | ⟨w1, ⟨i, j, k, e1, e2, e3, e4⟩, w2⟩
  · omega
  · have := drN_max w2.2.1 e1; omega
  · have := drN_max w2.2.1 e1; have := drN_max w2.2.2.1 e2; omega
  · have := drN_max w2.2.1 e1; have := drN_max w2.2.2.1 e2; have := drN_max w2.2.2.2 e3; omega
/-- where a level is past three times the dearest and one, nothing comes any more -/
theorem LV_stop {s : Sh} {n : Nat} (h : 3 * drN s n + 1 < n + 1) : ∀ m, n ≤ m → LV s m = LV s n ∧ drN s m = drN s n := by
  intro m hm
  induction hm with
  | refl => exact ⟨rfl, rfl⟩
  | @step m hm ih =>
    obtain ⟨h1, h2⟩ := ih
    have hno : ∀ c, LV s m c = none → LV s (m + 1) c = none := fun c hc => LV_not hc (by
      intro ⟨f, _, x, y, z, w⟩
      have := WayP_top w
      have hm' : n ≤ m := hm
      omega)
    have e1 : LV s (m + 1) = LV s m := by
      funext c
      cases q : LV s m c with
      | none => exact hno c q
      | some k => exact LV_keep q
    refine ⟨e1.trans h1, ?_⟩
    have : drN s (m + 1) = drN s m := by
      simp only [drN]
      refine if_neg ?_
      intro ⟨c, hc, e⟩
      rw [e1] at e
      have := (LV_at e).1
      omega
    exact this.trans h2
