/-! What the search looks at, and what a way is. -/
def hgc (f : Nat) : Bool := (hg f 0 || (List.range 4).all fun j => Nat.beq (tl f j) (tl f (4 + j))) && (hg f 1 || [0, 1, 4, 5].all fun j => Nat.beq (tl f j) (tl f (j + 2))) && (hg f 2 || [0, 2, 4, 6].all fun j => Nat.beq (tl f j) (tl f (j + 1))) && Nat.beq (arN f) (bif hg f 2 then 3 else bif hg f 1 then 2 else bif hg f 0 then 1 else 0) && (hg f 0 || hg f 1 || hg f 2 || Nat.beq (pN f 170 170 170) f)
theorem hgc_ok : ((List.range 256).all hgc) = true := by decide +kernel
theorem hgc_at {f : Nat} (hf : f < 256) : (hg f 0 = false → ∀ j, j < 4 → tl f j = tl f (4 + j)) ∧ (hg f 1 = false → tl f 0 = tl f 2 ∧ tl f 1 = tl f 3 ∧ tl f 4 = tl f 6 ∧ tl f 5 = tl f 7) ∧ (hg f 2 = false → tl f 0 = tl f 1 ∧ tl f 2 = tl f 3 ∧ tl f 4 = tl f 5 ∧ tl f 6 = tl f 7) ∧ arN f = (bif hg f 2 then 3 else bif hg f 1 then 2 else bif hg f 0 then 1 else 0) ∧ (hg f 0 = false → hg f 1 = false → hg f 2 = false → pN f 170 170 170 = f) := by
  have h := al hgc_ok hf
  unfold hgc at h
  rw [Bool.and_eq_true, Bool.and_eq_true, Bool.and_eq_true, Bool.and_eq_true] at h
  obtain ⟨⟨⟨⟨a, b⟩, c⟩, d⟩, e⟩ := h
  refine ⟨fun q j hj => ?_, fun q => ?_, fun q => ?_, Nat.eq_of_beq_eq_true d, fun q1 q2 q3 => ?_⟩
  · rw [q, Bool.false_or] at a
    exact Nat.eq_of_beq_eq_true (al a hj)
  · rw [q, Bool.false_or] at b
    simp only [List.all_cons, List.all_nil, Bool.and_true, Bool.and_eq_true] at b
    exact ⟨Nat.eq_of_beq_eq_true b.1, Nat.eq_of_beq_eq_true b.2.1, Nat.eq_of_beq_eq_true b.2.2.1, Nat.eq_of_beq_eq_true b.2.2.2⟩
  · rw [q, Bool.false_or] at c
    simp only [List.all_cons, List.all_nil, Bool.and_true, Bool.and_eq_true] at c
    exact ⟨Nat.eq_of_beq_eq_true c.1, Nat.eq_of_beq_eq_true c.2.1, Nat.eq_of_beq_eq_true c.2.2.1, Nat.eq_of_beq_eq_true c.2.2.2⟩
  · rw [q1, q2, q3] at e
    exact Nat.eq_of_beq_eq_true e
theorem irr0 {f : Nat} (hf : f < 256) (q : hg f 0 = false) (x x' y z : Nat) : pN f x y z = pN f x' y z := by
  have h := (hgc_at hf).1 q
  refine tl_ext (n := 8) (pN_lt _ _ _ _) (pN_lt _ _ _ _) fun p hp => ?_
  rw [tl_pN hp, tl_pN hp]
  have h0 := h 0 (by decide)
  have h1 := h 1 (by decide)
  have h2 := h 2 (by decide)
  have h3 := h 3 (by decide)
  rcases t01 (tl_le x p) with a | a <;> rcases t01 (tl_le x' p) with a' | a' <;> rcases t01 (tl_le y p) with b | b <;> rcases t01 (tl_le z p) with c | c <;> rw [a, a', b, c] <;> first | rfl | exact h0 | exact h1 | exact h2 | exact h3 | exact h0.symm | exact h1.symm | exact h2.symm | exact h3.symm
theorem irr1 {f : Nat} (hf : f < 256) (q : hg f 1 = false) (x y y' z : Nat) : pN f x y z = pN f x y' z := by
  obtain ⟨h0, h1, h2, h3⟩ := (hgc_at hf).2.1 q
  refine tl_ext (n := 8) (pN_lt _ _ _ _) (pN_lt _ _ _ _) fun p hp => ?_
  rw [tl_pN hp, tl_pN hp]
  rcases t01 (tl_le x p) with a | a <;> rcases t01 (tl_le y' p) with a' | a' <;> rcases t01 (tl_le y p) with b | b <;> rcases t01 (tl_le z p) with c | c <;> rw [a, a', b, c] <;> first | rfl | exact h0 | exact h1 | exact h2 | exact h3 | exact h0.symm | exact h1.symm | exact h2.symm | exact h3.symm
theorem irr2 {f : Nat} (hf : f < 256) (q : hg f 2 = false) (x y z z' : Nat) : pN f x y z = pN f x y z' := by
  obtain ⟨h0, h1, h2, h3⟩ := (hgc_at hf).2.2.1 q
  refine tl_ext (n := 8) (pN_lt _ _ _ _) (pN_lt _ _ _ _) fun p hp => ?_
  rw [tl_pN hp, tl_pN hp]
  rcases t01 (tl_le x p) with a | a <;> rcases t01 (tl_le z' p) with a' | a' <;> rcases t01 (tl_le y p) with b | b <;> rcases t01 (tl_le z p) with c | c <;> rw [a, a', b, c] <;> first | rfl | exact h0 | exact h1 | exact h2 | exact h3 | exact h0.symm | exact h1.symm | exact h2.symm | exact h3.symm
theorem PR_any {C : Nat → Option Nat} (hC : C 170 = some 0) {g : Bool} {m x : Nat} (h : PR C g m x) : C x = some m := by
  obtain ⟨-, h | h⟩ := h
  · exact h.2
  · rw [h.2.1, h.2.2]; exact hC
theorem PR_no {C : Nat → Option Nat} {m x : Nat} (h : PR C false m x) : m = 0 ∧ x = 170 := by
  obtain ⟨-, h | h⟩ := h
  · exact absurd h.1 (by decide)
  · exact h.2
theorem S1_way {C : Nat → Option Nat} (hC : C 170 = some 0) {f n c : Nat} (hf : f < 256) (hn : 1 ≤ n) (h : S1 C f n c) : WayE C f n c := by
  obtain ⟨i, x, h1, px, j, k, y, z, h2, py, pz, e⟩ := h
  have ex := PR_any hC px
  have ey := PR_any hC py
  have ez := PR_any hC pz
  have ha := (hgc_at hf).2.2.2.1
  have hb := (hgc_at hf).2.2.2.2
  cases g2 : hg f 2 with
  | true =>
    rw [g2] at ha
    exact ⟨x, y, z, Or.inr (Or.inr (Or.inr ⟨ha, ⟨i, j, k, ex, ey, ez, by omega⟩, e, px.1, py.1, pz.1⟩))⟩
  | false =>
    rw [g2] at ha pz
    obtain ⟨rfl, rfl⟩ := PR_no pz
    cases g1 : hg f 1 with
    | true =>
      rw [g1] at ha
      exact ⟨x, y, 0, Or.inr (Or.inr (Or.inl ⟨ha, ⟨i, j, ex, ey, by omega⟩, e.trans (irr2 hf g2 x y 170 0), px.1, py.1, rfl⟩))⟩
    | false =>
      rw [g1] at ha py
      obtain ⟨rfl, rfl⟩ := PR_no py
      cases g0 : hg f 0 with
      | true =>
        rw [g0] at ha
        exact ⟨x, 0, 0, Or.inr (Or.inl ⟨ha, ⟨i, ex, by omega⟩, (e.trans (irr2 hf g2 x 170 170 0)).trans (irr1 hf g1 x 170 0 0), px.1, rfl, rfl⟩)⟩
      | false =>
        rw [g0] at ha px
        obtain ⟨rfl, rfl⟩ := PR_no px
        exact ⟨0, 0, 0, Or.inl ⟨ha, by omega, e.trans (hb g0 g1 g2), rfl, rfl, rfl⟩⟩
theorem LV_170 (s : Sh) (n : Nat) : LV s n 170 = some 0 := LV_mono (Nat.zero_le n) ((LV_0 s 170).mpr (Or.inl rfl))
theorem WayP_pos {C : Nat → Option Nat} {f n c x y z : Nat} (w : WayP C f n c x y z) : 1 ≤ n := by
  rcases w with w | ⟨-, ⟨i, -, e⟩, -⟩ | ⟨-, ⟨i, j, -, -, e⟩, -⟩ | ⟨-, ⟨i, j, k, -, -, -, e⟩, -⟩ <;> omega
theorem lower {s : Sh} {g m k c x y z : Nat} (hg : chs s g) (w : WayP (LV s m) (s.2.1 g) k c x y z) (hk : k ≤ m) : LV s m c ≠ none := by
  intro q
  have h1 := WayP_pos w
  have h2 := LV_none (show k - 1 ≤ m by omega) q
  have h3 := LV_new h2 ⟨g, hg, x, y, z, by
    have := WayP_LV (m := k - 1) (by omega) (by omega) w
    rw [show k - 1 + 1 = k by omega]
    exact this⟩
  rw [show k - 1 + 1 = k by omega] at h3
  rw [LV_mono hk h3] at q
  cases q
theorem pick {C : Nat → Option Nat} {g : Bool} {i x : Nat} (hx : x < 256) (e : C x = some i) (h0 : g = false → i = 0) : ∃ x', PR C g i x' ∧ (g = true → x' = x) := by
  cases g with
  | true => exact ⟨x, ⟨hx, Or.inl ⟨rfl, e⟩⟩, fun _ => rfl⟩
  | false => exact ⟨170, ⟨by decide, Or.inr ⟨rfl, h0 rfl, rfl⟩⟩, fun w => absurd w (by decide)⟩
theorem way_S1 {s : Sh} {g n c : Nat} (hf : s.2.1 g < 256) (hg' : chs s g) (hno : LV s (n - 1) c = none) (w : WayE (LV s (n - 1)) (s.2.1 g) n c) : S1 (LV s (n - 1)) (s.2.1 g) n c := by
  obtain ⟨x, y, z, w⟩ := w
  have hn := WayP_pos w
  have hC := LV_170 s (n - 1)
  have L : ∀ {k x y z}, k ≤ n - 1 → ¬ WayP (LV s (n - 1)) (s.2.1 g) k c x y z := fun hk w => lower hg' w hk hno
  generalize s.2.1 g = f at *
  generalize LV s (n - 1) = C at *
  have ha := (hgc_at hf).2.2.2.1
  have hb := (hgc_at hf).2.2.2.2
  have p0 : PR C false 0 170 := ⟨by decide, Or.inr ⟨rfl, rfl, rfl⟩⟩
  rcases w with ⟨w1, w2, w3, -⟩ | ⟨w1, ⟨i, e1, e2⟩, w3, wx, -⟩ | ⟨w1, ⟨i, j, e1, e2, e3⟩, w3, wx, wy, -⟩ | ⟨w1, ⟨i, j, k, e1, e2, e3, e4⟩, w3, wx, wy, wz⟩
  · rw [w1] at ha
    cases g2 : hg f 2 with
    | true => rw [g2] at ha; cases ha
    | false =>
      cases g1 : hg f 1 with
      | true => rw [g2, g1] at ha; cases ha
      | false =>
        cases g0 : hg f 0 with
        | true => rw [g2, g1, g0] at ha; cases ha
        | false =>
          refine ⟨0, 170, by omega, by rw [g0]; exact p0, 0, 0, 170, 170, by omega, by rw [g1]; exact p0, by rw [g2]; exact p0, ?_⟩
          rw [hb g0 g1 g2]
          exact w3
  · rw [w1] at ha
    cases g2 : hg f 2 with
    | true => rw [g2] at ha; cases ha
    | false =>
      cases g1 : hg f 1 with
      | true => rw [g2, g1] at ha; cases ha
      | false =>
        cases g0 : hg f 0 with
        | false => rw [g2, g1, g0] at ha; cases ha
        | true =>
          exact ⟨i, x, by omega, by rw [g0]; exact ⟨wx, Or.inl ⟨rfl, e1⟩⟩, 0, 0, 170, 170, by omega, by rw [g1]; exact p0, by rw [g2]; exact p0, (w3.trans (irr1 hf g1 x 0 170 0)).trans (irr2 hf g2 x 170 0 170)⟩
  · rw [w1] at ha
    cases g2 : hg f 2 with
    | true => rw [g2] at ha; cases ha
    | false =>
      cases g1 : hg f 1 with
      | false => rw [g2, g1] at ha; cases g0 : hg f 0 <;> rw [g0] at ha <;> cases ha
      | true =>
        have h0 : hg f 0 = false → i = 0 := fun q => by
          refine Classical.byContradiction fun hi => L (k := j + 1) (by omega) (x := 170) (y := y) (z := 0) (Or.inr (Or.inr (Or.inl ⟨w1, ⟨0, j, hC, e2, by omega⟩, ?_, by decide, wy, rfl⟩)))
          rw [w3]
          exact irr0 hf q _ _ _ _
        obtain ⟨x', px, qx⟩ := pick (g := hg f 0) wx e1 h0
        have ec : c = pN f x' y 170 := by
          rw [w3, irr2 hf g2 x y 0 170]
          cases g0 : hg f 0 with
          | true => rw [qx g0]
          | false => exact irr0 hf g0 _ _ _ _
        exact ⟨i, x', by omega, px, j, 0, y, 170, by omega, by rw [g1]; exact ⟨wy, Or.inl ⟨rfl, e2⟩⟩, by rw [g2]; exact p0, ec⟩
  · rw [w1] at ha
    cases g2 : hg f 2 with
    | false => rw [g2] at ha; cases g1 : hg f 1 <;> rw [g1] at ha <;> cases g0 : hg f 0 <;> rw [g0] at ha <;> cases ha
    | true =>
      have h0 : hg f 0 = false → i = 0 := fun q => by
        refine Classical.byContradiction fun hi => L (k := j + k + 1) (by omega) (x := 170) (y := y) (z := z) (Or.inr (Or.inr (Or.inr ⟨w1, ⟨0, j, k, hC, e2, e3, by omega⟩, ?_, by decide, wy, wz⟩)))
        rw [w3]
        exact irr0 hf q _ _ _ _
      have h1 : hg f 1 = false → j = 0 := fun q => by
        refine Classical.byContradiction fun hi => L (k := i + k + 1) (by omega) (x := x) (y := 170) (z := z) (Or.inr (Or.inr (Or.inr ⟨w1, ⟨i, 0, k, e1, hC, e3, by omega⟩, ?_, wx, by decide, wz⟩)))
        rw [w3]
        exact irr1 hf q _ _ _ _
      obtain ⟨x', px, qx⟩ := pick (g := hg f 0) wx e1 h0
      obtain ⟨y', py, qy⟩ := pick (g := hg f 1) wy e2 h1
      have ec : c = pN f x' y' z := by
        have : pN f x y z = pN f x' y z := by
          cases g0 : hg f 0 with
          | true => rw [qx g0]
          | false => exact irr0 hf g0 _ _ _ _
        rw [w3, this]
        cases g1 : hg f 1 with
        | true => rw [qy g1]
        | false => exact irr1 hf g1 _ _ _ _
      exact ⟨i, x', by omega, px, j, k, y', z, by omega, py, by rw [g2]; exact ⟨wz, Or.inl ⟨rfl, e3⟩⟩, ec⟩
theorem S1_inT {C : Nat → Option Nat} {S f n c : Nat} (hS : S < 4096) (hf : f < 256) (h : ∀ x i, x < 256 → C x = some i → inT S x = true) (f1 : inT S f = true) (w : S1 C f n c) : inT S c = true := by
  have P : ∀ {g i x}, PR C g i x → x < 256 ∧ inT S x = true := fun p => by
    obtain ⟨p1, p2 | p2⟩ := p
    · exact ⟨p1, h _ _ p1 p2.2⟩
    · rw [p2.2.2]; exact ⟨by decide, inT_base hS (Or.inl rfl)⟩
  obtain ⟨i, x, -, px, j, k, y, z, -, py, pz, rfl⟩ := w
  exact inT_closed hS hf (P px).1 (P py).1 (P pz).1 f1 (P px).2 (P py).2 (P pz).2
theorem inT_LV {s : Sh} {S : Nat} (hs : okS s) (hS : S < 4096) (hc : ∀ g, chs s g → inT S (s.2.1 g) = true) : ∀ (n : Nat) {c k : Nat}, c < 256 → LV s n c = some k → inT S c = true
  | 0, c, k, hc', h => by
    have hb : base3 c := by
      by_cases q : base3 c
      · exact q
      · rw [(LV_0n s c).mpr q] at h; cases h
    exact inT_base hS hb
  | n + 1, c, k, hc', h => by
    cases q : LV s n c with
    | some j => exact inT_LV hs hS hc n hc' q
    | none =>
      by_cases w : ∃ f, chs s f ∧ WayE (LV s n) (s.2.1 f) (n + 1) c
      · obtain ⟨f, hf, w⟩ := w
        have h1 := hs.2.1 f hf.1
        exact S1_inT hS h1 (fun x i hx e => inT_LV hs hS hc n hx e) (hc f hf) (way_S1 (n := n + 1) h1 hf q w)
      · rw [LV_not q w] at h; cases h
noncomputable def LVp (s : Sh) (n F c : Nat) : Option Nat := match LV s (n - 1) c with
  | some k => some k
  | none => @ite _ (∃ g, g < F ∧ chs s g ∧ WayE (LV s (n - 1)) (s.2.1 g) n c) (Classical.propDecidable _) (some n) none
theorem LVp_keep {s : Sh} {n F c k : Nat} (h : LV s (n - 1) c = some k) : LVp s n F c = some k := by simp only [LVp, h]
theorem LVp_new {s : Sh} {n F c : Nat} (h : LV s (n - 1) c = none) (w : ∃ g, g < F ∧ chs s g ∧ WayE (LV s (n - 1)) (s.2.1 g) n c) : LVp s n F c = some n := by
  simp only [LVp, h]
  exact if_pos w
theorem LVp_not {s : Sh} {n F c : Nat} (h : LV s (n - 1) c = none) (w : ¬ ∃ g, g < F ∧ chs s g ∧ WayE (LV s (n - 1)) (s.2.1 g) n c) : LVp s n F c = none := by
  simp only [LVp, h]
  exact if_neg w
theorem LVp_0 (s : Sh) (n : Nat) : LVp s n 0 = LV s (n - 1) := by
  funext c
  cases q : LV s (n - 1) c with
  | some k => exact LVp_keep q
  | none => exact LVp_not q (fun ⟨g, h, _⟩ => absurd h (Nat.not_lt_zero g))
theorem LVp_6 {s : Sh} (hs : s.1 ≤ 6) (n : Nat) : LVp s (n + 1) 6 = LV s (n + 1) := by
  funext c
  cases q : LV s n c with
  | some k => rw [LV_keep q]; exact LVp_keep q
  | none =>
    by_cases w : ∃ f, chs s f ∧ WayE (LV s n) (s.2.1 f) (n + 1) c
    · rw [LV_new q w]
      obtain ⟨f, w⟩ := w
      exact LVp_new q ⟨f, Nat.lt_of_lt_of_le w.1.1 hs, w⟩
    · rw [LV_not q w]
      exact LVp_not q (fun ⟨f, _, h⟩ => w ⟨f, h⟩)
theorem LVp_none {s : Sh} {n F c : Nat} (h : LVp s n F c = none) : LV s (n - 1) c = none ∧ ¬ ∃ g, g < F ∧ chs s g ∧ WayE (LV s (n - 1)) (s.2.1 g) n c := by
  cases q : LV s (n - 1) c with
  | some k => rw [LVp_keep q] at h; cases h
  | none =>
    refine ⟨rfl, fun w => ?_⟩
    rw [LVp_new q w] at h
    cases h
theorem LVp_grow {s : Sh} {n F c k : Nat} (h : LVp s n F c = some k) : LVp s n (F + 1) c = some k := by
  cases q : LV s (n - 1) c with
  | some j => rw [LVp_keep q] at h ⊢; exact h
  | none =>
    by_cases w : ∃ g, g < F ∧ chs s g ∧ WayE (LV s (n - 1)) (s.2.1 g) n c
    · rw [LVp_new q w] at h
      rw [← h]
      obtain ⟨g, g1, g2⟩ := w
      exact LVp_new q ⟨g, by omega, g2⟩
    · rw [LVp_not q w] at h; cases h
def isTop (s : Sh) (k c g : Nat) : Prop := chs s g ∧ WayE (LV s (k - 1)) (s.2.1 g) k c ∧ ∀ g', g' < g → ¬ (chs s g' ∧ WayE (LV s (k - 1)) (s.2.1 g') k c)
/-- the class's costs and tops are these -/
def CR (h : Hp) (s : Sh) (C : Nat → Option Nat) : Prop := ∀ c, c < 256 → (∀ k, C c = some k → h 11 c = nI k ∧ (k = 0 → h 12 c = -1) ∧ (0 < k → ∃ g, isTop s k c g ∧ h 12 c = nI g)) ∧ (C c = none → h 11 c = -1 ∧ h 12 c = -1)
theorem CR_skip {h : Hp} {s : Sh} {n F : Nat} (hF : ¬ chs s F) (H : CR h s (LVp s n F)) : CR h s (LVp s n (F + 1)) := by
  have : LVp s n (F + 1) = LVp s n F := by
    funext c
    cases q : LVp s n F c with
    | some k => exact LVp_grow q
    | none =>
      obtain ⟨a, b⟩ := LVp_none q
      refine LVp_not a fun ⟨g, g1, g2⟩ => b ⟨g, ?_, g2⟩
      have : g ≠ F := fun z => hF (z ▸ g2.1)
      omega
  rw [this]
  exact H
theorem CR_step {h h' : Hp} {s : Sh} {n F : Nat} (hn : 1 ≤ n) (hn2 : n < 2 ^ 31) (hs : okS s) (hF : chs s F) (H : CR h s (LVp s n F)) (m : Mk n F (S1 (LV s (n - 1)) (s.2.1 F) n) h h') : CR h' s (LVp s n (F + 1)) := by
  intro c hc
  have h1 := hs.2.1 F hF.1
  obtain ⟨a, b⟩ := H c hc
  obtain ⟨m1, m2⟩ := m c hc
  cases q : LVp s n F c with
  | some k =>
    obtain ⟨a1, a2, a3⟩ := a k q
    have kn : k < 2 ^ 31 := by
      cases q2 : LV s (n - 1) c with
      | some j =>
        have := (LV_at q2).1
        rw [LVp_keep q2] at q
        cases q
        omega
      | none =>
        by_cases w : ∃ g, g < F ∧ chs s g ∧ WayE (LV s (n - 1)) (s.2.1 g) n c
        · rw [LVp_new q2 w] at q
          cases q
          omega
        · rw [LVp_not q2 w] at q; cases q
    obtain ⟨e1, e2⟩ := m2 (fun w => nI_ne1 kn (a1.symm.trans w.1))
    rw [e1, e2, LVp_grow q]
    refine ⟨fun k' ek => ?_, fun w => by cases w⟩
    cases ek
    exact ⟨a1, a2, a3⟩
  | none =>
    obtain ⟨a1, a2⟩ := b q
    obtain ⟨b1, b2⟩ := LVp_none q
    by_cases w : S1 (LV s (n - 1)) (s.2.1 F) n c
    · obtain ⟨e1, e2⟩ := m1 ⟨a1, w⟩
      have wy := S1_way (LV_170 s (n - 1)) h1 hn w
      rw [LVp_new b1 ⟨F, by omega, hF, wy⟩, e1, e2]
      refine ⟨fun k' ek => ?_, fun w => by cases w⟩
      cases ek
      exact ⟨rfl, fun z => by omega, fun _ => ⟨F, ⟨hF, wy, fun g' g1 g2 => b2 ⟨g', g1, g2⟩⟩, rfl⟩⟩
    · obtain ⟨e1, e2⟩ := m2 (fun v => w v.2)
      have : LVp s n (F + 1) c = none := LVp_not b1 fun ⟨g, g1, g2, g3⟩ => by
        by_cases z : g = F
        · subst z
          exact w (way_S1 h1 g2 b1 g3)
        · exact b2 ⟨g, by omega, g2, g3⟩
      rw [this, e1, e2]
      exact ⟨fun k' ek => (by cases ek), fun _ => ⟨a1, a2⟩⟩
