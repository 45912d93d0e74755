/-! The class looks for the parts. -/
def NF (s : Sh) (f k c x y z : Nat) : Prop := ∃ i j l, PR (FC s) (hg f 0) i x ∧ PR (FC s) (hg f 1) j y ∧ PR (FC s) (hg f 2) l z ∧ i + j + l + 1 = k ∧ c = pN f x y z
theorem FC_iff {s : Sh} {x i n : Nat} (hi : i ≤ n) (hn : n ≤ 9999) : FC s x = some i ↔ LV s n x = some i := by
  rw [FC_is s (n := 9999) rfl]
  exact LV_iff hn hi
theorem PR_cg {C C' : Nat → Option Nat} {g : Bool} {m x : Nat} (h : C x = some m → C' x = some m) (p : PR C g m x) : PR C' g m x := by
  obtain ⟨a, b | b⟩ := p
  · exact ⟨a, Or.inl ⟨b.1, h b.2⟩⟩
  · exact ⟨a, Or.inr b⟩
theorem FC_170 (s : Sh) : FC s 170 = some 0 := FC_low (n := 0) (by omega) (LV_170 s 0)
theorem base_cost {s : Sh} {x : Nat} (h : FC s x = some 0) : base3 x := by
  have := (FC_iff (s := s) (x := x) (i := 0) (n := 0) (by omega) (by omega)).mp h
  exact (LV_0 s x).mp this
/-- what is least of the normal ways is least of the ways -/
theorem NF_pts {s : Sh} {g k c x y z : Nat} (hs : okS s) (hg' : isTop s k c g) (e : FC s c = some k) (hk : 0 < k) (h : NF s (s.2.1 g) k c x y z) (least : ∀ x' y' z', NF s (s.2.1 g) k c x' y' z' → lex x y z x' y' z') : isPts s k c g (if 0 < arN (s.2.1 g) then x else 0) (if 1 < arN (s.2.1 g) then y else 0) (if 2 < arN (s.2.1 g) then z else 0) := by
  have hf := hs.2.1 g hg'.1.1
  have kl := FC_le e
  have hno : LV s (k - 1) c = none := ((LV_at (FC_LV e)).2.2 hk).1
  have chg := hg'.1
  have L : ∀ {m x y z : Nat}, m ≤ k - 1 → ¬ WayP (LV s (k - 1)) (s.2.1 g) m c x y z := fun hm w => lower chg w hm hno
  have hC := LV_170 s (k - 1)
  unfold isPts
  clear hg'
  generalize s.2.1 g = f at *
  have ha := (hgc_at hf).2.2.2.1
  have hb := (hgc_at hf).2.2.2.2
  have toL : ∀ {d i : Nat}, i ≤ k - 1 → FC s d = some i → LV s (k - 1) d = some i := fun hi w => (FC_iff hi (by omega)).mp w
  have toF : ∀ {d i : Nat}, LV s (k - 1) d = some i → FC s d = some i := fun w => FC_low (by omega) w
  obtain ⟨i, j, l, px, py, pz, es, ec⟩ := h
  have ex := toL (by omega) (PR_any (FC_170 s) px)
  have ey := toL (by omega) (PR_any (FC_170 s) py)
  have ez := toL (by omega) (PR_any (FC_170 s) pz)
  have p0 : PR (FC s) false 0 170 := ⟨by decide, Or.inr ⟨rfl, rfl, rfl⟩⟩
  have low : ∀ {d : Nat}, LV s (k - 1) d = some 0 → 170 ≤ d := fun w => by
    rcases base_cost (toF w) with q | q | q <;> omega
  cases g2 : hg f 2 with
  | true =>
    rw [g2] at ha
    replace ha : arN f = 3 := ha
    rw [ha, if_pos (by decide), if_pos (by decide), if_pos (by decide)]
    refine ⟨(WayP_3 ha).mpr ⟨⟨i, j, l, ex, ey, ez, by omega⟩, ec, px.1, py.1, pz.1⟩, fun x' y' z' w => ?_⟩
    obtain ⟨⟨i', j', l', e1, e2, e3, e4⟩, e5, hx, hy, hz⟩ := (WayP_3 ha).mp w
    have h0 : hg f 0 = false → i' = 0 := fun q => by
      refine Classical.byContradiction fun hi => L (m := j' + l' + 1) (by omega) (x := 170) (y := y') (z := z') ((WayP_3 ha).mpr ⟨⟨0, j', l', hC, e2, e3, by omega⟩, ?_, by decide, hy, hz⟩)
      rw [e5]
      exact irr0 hf q _ _ _ _
    have h1 : hg f 1 = false → j' = 0 := fun q => by
      refine Classical.byContradiction fun hi => L (m := i' + l' + 1) (by omega) (x := x') (y := 170) (z := z') ((WayP_3 ha).mpr ⟨⟨i', 0, l', e1, hC, e3, by omega⟩, ?_, hx, by decide, hz⟩)
      rw [e5]
      exact irr1 hf q _ _ _ _
    obtain ⟨x2, qx, rx⟩ := pick (C := FC s) (g := hg f 0) hx (toF e1) h0
    obtain ⟨y2, qy, ry⟩ := pick (C := FC s) (g := hg f 1) hy (toF e2) h1
    have c2 : c = pN f x2 y2 z' := by
      have t1 : pN f x' y' z' = pN f x2 y' z' := by
        cases g0 : hg f 0 with
        | true => rw [rx g0]
        | false => exact irr0 hf g0 _ _ _ _
      rw [e5, t1]
      cases g1 : hg f 1 with
      | true => rw [ry g1]
      | false => exact irr1 hf g1 _ _ _ _
    have le := least x2 y2 z' ⟨i', j', l', qx, qy, by rw [g2]; exact ⟨hz, Or.inl ⟨rfl, toF e3⟩⟩, by omega, c2⟩
    have bx : x2 ≤ x' := by
      cases g0 : hg f 0 with
      | true => rw [rx g0]; omega
      | false =>
        rw [g0] at qx
        rw [(PR_no qx).2]
        have := h0 g0
        subst this
        exact low e1
    have by' : y2 ≤ y' := by
      cases g1 : hg f 1 with
      | true => rw [ry g1]; omega
      | false =>
        rw [g1] at qy
        rw [(PR_no qy).2]
        have := h1 g1
        subst this
        exact low e2
    unfold lex at le ⊢
    omega
  | false =>
    rw [g2] at ha pz
    obtain ⟨rfl, rfl⟩ := PR_no pz
    cases g1 : hg f 1 with
    | true =>
      rw [g1] at ha
      replace ha : arN f = 2 := ha
      rw [ha, if_pos (by decide), if_pos (by decide), if_neg (by decide)]
      refine ⟨(WayP_2 ha).mpr ⟨⟨i, j, ex, ey, by omega⟩, ec.trans (irr2 hf g2 x y 170 0), px.1, py.1, rfl⟩, fun x' y' z' w => ?_⟩
      obtain ⟨⟨i', j', e1, e2, e4⟩, e5, hx, hy, hz⟩ := (WayP_2 ha).mp w
      have h0 : hg f 0 = false → i' = 0 := fun q => by
        refine Classical.byContradiction fun hi => L (m := j' + 1) (by omega) (x := 170) (y := y') (z := 0) ((WayP_2 ha).mpr ⟨⟨0, j', hC, e2, by omega⟩, ?_, by decide, hy, rfl⟩)
        rw [e5]
        exact irr0 hf q _ _ _ _
      obtain ⟨x2, qx, rx⟩ := pick (C := FC s) (g := hg f 0) hx (toF e1) h0
      have c2 : c = pN f x2 y' 170 := by
        rw [e5, irr2 hf g2 x' y' 0 170]
        cases g0 : hg f 0 with
        | true => rw [rx g0]
        | false => exact irr0 hf g0 _ _ _ _
      have le := least x2 y' 170 ⟨i', j', 0, qx, by rw [g1]; exact ⟨hy, Or.inl ⟨rfl, toF e2⟩⟩, by rw [g2]; exact p0, by omega, c2⟩
      have bx : x2 ≤ x' := by
        cases g0 : hg f 0 with
        | true => rw [rx g0]; omega
        | false =>
          rw [g0] at qx
          rw [(PR_no qx).2]
          have := h0 g0
          subst this
          exact low e1
      unfold lex at le ⊢
      omega
    | false =>
      rw [g1] at ha py
      obtain ⟨rfl, rfl⟩ := PR_no py
      cases g0 : hg f 0 with
      | true =>
        rw [g0] at ha
        replace ha : arN f = 1 := ha
        rw [ha, if_pos (by decide), if_neg (by decide), if_neg (by decide)]
        refine ⟨(WayP_1 ha).mpr ⟨⟨i, ex, by omega⟩, (ec.trans (irr2 hf g2 x 170 170 0)).trans (irr1 hf g1 x 170 0 0), px.1, rfl, rfl⟩, fun x' y' z' w => ?_⟩
        obtain ⟨⟨i', e1, e4⟩, e5, hx, hy, hz⟩ := (WayP_1 ha).mp w
        have c2 : c = pN f x' 170 170 := (e5.trans (irr1 hf g1 x' 0 170 0)).trans (irr2 hf g2 x' 170 0 170)
        have le := least x' 170 170 ⟨i', 0, 0, by rw [g0]; exact ⟨hx, Or.inl ⟨rfl, toF e1⟩⟩, by rw [g1]; exact p0, by rw [g2]; exact p0, by omega, c2⟩
        unfold lex at le ⊢
        omega
      | false =>
        rw [g0] at ha px
        obtain ⟨rfl, rfl⟩ := PR_no px
        replace ha : arN f = 0 := ha
        rw [ha, if_neg (by decide), if_neg (by decide), if_neg (by decide)]
        refine ⟨(WayP_0 ha).mpr ⟨by omega, ec.trans (hb g0 g1 g2), rfl, rfl, rfl⟩, fun x' y' z' w => ?_⟩
        obtain ⟨-, -, hx, hy, hz⟩ := (WayP_0 ha).mp w
        unfold lex
        omega
theorem pv_if {a i x : Nat} : pv a i (if i < a then x else 0) = pv a i x := by
  unfold pv
  by_cases q : i < a
  · rw [if_pos q, if_pos q, if_pos q]
  · rw [if_neg q, if_neg q]
theorem NF_ex {s : Sh} {g k c : Nat} (hs : okS s) (hg' : isTop s k c g) (e : FC s c = some k) (hk : 0 < k) : ∃ x y z, NF s (s.2.1 g) k c x y z := by
  have kl := FC_le e
  have hno : LV s (k - 1) c = none := ((LV_at (FC_LV e)).2.2 hk).1
  obtain ⟨i, x, h1, px, j, l, y, z, h2, py, pz, ec⟩ := way_S1 (hs.2.1 g hg'.1.1) hg'.1 hno hg'.2.1
  have F : ∀ {d i : Nat}, LV s (k - 1) d = some i → FC s d = some i := fun w => FC_low (by omega) w
  exact ⟨x, y, z, i, j, l, PR_cg F px, PR_cg F py, PR_cg F pz, by omega, ec⟩
theorem costOf_at {h : Hp} {c : Nat} (hc : c < 256) : Jcs_costOf (nI c) h = some (h 11 c) := by
  unfold Jcs_costOf
  rw [isCode_at hc, bd_some, if_neg (by decide), ib_nI (by omega) (by omega), cond_true, nI_clamp (by omega)]
theorem CR_cost {h : Hp} {s : Sh} {C : Nat → Option Nat} (H : CR h s C) {c : Nat} (hc : c < 256) : h 11 c = match C c with
  | some k => nI k
  | none => -1 := by
  cases q : C c with
  | some k => exact ((H c hc).1 k q).1
  | none => exact ((H c hc).2 q).1
theorem isPart_at {h : Hp} {s : Sh} {f v x m : Nat} (H : CR h s (FC s)) (P : PU_1 f h) (hf : f < 256) (hv : v < 3) (hx : x < 256) (hm : m < 2 ^ 31) : (Jwy_isPart (nI x) (nI v) (nI m) h = some (nI 1) ∧ ∃ i, i ≤ m ∧ PR (FC s) (hg f v) i x) ∨ (Jwy_isPart (nI x) (nI v) (nI m) h = some (nI 0) ∧ ∀ i, i ≤ m → ¬ PR (FC s) (hg f v) i x) := by
  unfold Jwy_isPart
  rw [hangs_at_1 hf hv P, bd_some]
  cases g : hg f v with
  | false =>
    rw [if_pos (show nI (if false = true then 1 else 0) = (0 : Int32) from rfl)]
    by_cases q : x = 170
    · left
      rw [if_pos (by rw [q]; rfl)]
      exact ⟨rfl, 0, by omega, hx, Or.inr ⟨rfl, rfl, q⟩⟩
    · right
      rw [if_neg (show ¬ nI x = (170 : Int32) from fun w => q ((nI_eq (a := x) (b := 170) (by omega) (by omega)).mp w))]
      exact ⟨rfl, fun i _ w => q (PR_no w).2⟩
  | true =>
    rw [if_neg (show ¬ nI (if true = true then 1 else 0) = (0 : Int32) by decide), costOf_at hx, bd_some, CR_cost H hx]
    cases q : FC s x with
    | none =>
      right
      rw [if_pos rfl]
      refine ⟨rfl, fun i _ w => ?_⟩
      obtain ⟨-, w | w⟩ := w
      · rw [q] at w; cases w.2
      · cases w.1
    | some i =>
      have il := FC_le q
      rw [if_neg (nI_ne1 (by omega))]
      by_cases z : i ≤ m
      · left
        rw [if_neg (fun w => absurd ((nI_ltI (by omega) (by omega)).mp w) (by omega))]
        exact ⟨rfl, i, z, hx, Or.inl ⟨rfl, q⟩⟩
      · right
        rw [if_pos ((nI_ltI (by omega) (by omega)).mpr (by omega))]
        refine ⟨rfl, fun i' hi w => ?_⟩
        obtain ⟨-, w | w⟩ := w
        · rw [q] at w
          cases w.2
          omega
        · cases w.1
theorem madeAt_at {h : Hp} {i n v : Nat} (e : h 10 9 = nI n) (hi : i < n) (hn : n ≤ 256) (ev : h 13 i = nI v) : Jcs_madeAt (nI i) h = some (nI v) := by
  unfold Jcs_madeAt
  rw [if_neg (nI_pos (by omega)), e, if_pos ((nI_ltI (by omega) (by omega)).mpr hi), if_pos (show nI i < (256 : Int32) from (nI_ltI (b := 256) (by omega) (by omega)).mpr (by omega)), ib_nI (by omega) (by omega), cond_true, nI_clamp (by omega), ev]
theorem thirdW_at {h : Hp} {n f x y c m : Nat} {C : Nat → Option Nat} {bc st : Nat → Nat} (B : BC h n C bc st) (e : h 10 12 = nI (n - 1)) (hm : m < n) (P : PU_1 f h) (P2 : PU2_1 f x y h) (hf : f < 256) (hx : x < 256) (hy : y < 256) (hc : c < 256) : (∃ z, Jwy_third (nI c) (nI m) h = some (nI z) ∧ PR C (hg f 2) m z ∧ c = pN f x y z ∧ ∀ z', PR C (hg f 2) m z' → c = pN f x y z' → z ≤ z') ∨ (Jwy_third (nI c) (nI m) h = some (-1) ∧ ∀ z', PR C (hg f 2) m z' → ¬ c = pN f x y z') := by
  have hn := B.1
  obtain ⟨a, b, p1, p2, ⟨g1, g2, g3, g4⟩, -, p4, p5⟩ := parts_at B e (by omega) hm (by omega) (hg f 2)
  have hh : Jpu_hangsOn_1 2 h = some (b01 (hg f 2)) := hangs_at_1 hf (by decide) P
  have e9 : h 10 9 = nI (st n) := B.2.2.2.2.2.2.2.2.2
  have s256 := B.2.1
  obtain ⟨r, l1, l2⟩ := loop_cnt (fun t => Jwy_third_L35 (nI c) (nI m) (nI b) h t) (fun i t => t = nI i ∧ a ≤ i ∧ ∀ j, a ≤ j → j < i → c ≠ pN f x y (bc j)) (fun r => sm r (fun _ => ∀ z', PR C (hg f 2) m z' → ¬ c = pN f x y z') (fun v => ∃ z, v = nI z ∧ PR C (hg f 2) m z ∧ c = pN f x y z ∧ ∀ z', PR C (hg f 2) m z' → c = pN f x y z' → z ≤ z')) b (fun i t hi ht => by
      obtain ⟨rfl, ha, ih⟩ := ht
      obtain ⟨k1, k2, k3⟩ := g3 i ha hi
      have a1 := madeAt_at e9 (show i < st n by omega) s256 k1
      have a2 := third_at_1 hx hy (z := bc i) P2
      have lt1 : nI i < nI b := (nI_ltI (by omega) (by omega)).mpr hi
      have lt2 : nI i < (256 : Int32) := (nI_ltI (b := 256) (by omega) (by omega)).mpr (by omega)
      by_cases q : c = pN f x y (bc i)
      · refine Or.inr ⟨.inr (nI (bc i)), ?_, bc i, rfl, k3, q, fun z' w1 w2 => ?_⟩
        · unfold Jwy_third_L35
          rw [if_pos lt1, if_pos lt2, a1, bd_some, a2, bd_some, if_pos (by rw [← q]), bd_some]
        · obtain ⟨j, j1, j2, j3⟩ := g4 z' w1
          rw [← j3] at w2 ⊢
          rcases Nat.lt_trichotomy j i with w | w | w
          · exact absurd w2 (ih j j1 w)
          · rw [w]; exact Nat.le_refl _
          · have := p5 i j ha w j2; omega
      · have pl := pN_lt f x y (bc i)
        refine Or.inl ⟨nI (i + 1), ?_, rfl, by omega, fun j j1 j2 => ?_⟩
        · unfold Jwy_third_L35
          rw [if_pos lt1, if_pos lt2, a1, bd_some, a2, bd_some, if_neg (fun w => q ((nI_eq (by omega) (by omega)).mp w).symm), lit 1, nI_add]
        · by_cases z : j = i
          · rw [z]; exact q
          · exact ih j j1 (by omega)) (fun t ht => by
      obtain ⟨rfl, ha, ih⟩ := ht
      refine ⟨.inl (nI b), ?_, fun z' w1 w2 => ?_⟩
      · unfold Jwy_third_L35
        rw [if_neg (fun w => absurd ((nI_ltI (by omega) (by omega)).mp w) (by omega))]
      · obtain ⟨j, j1, j2, j3⟩ := g4 z' w1
        exact ih j j1 j2 (by rw [j3]; exact w2)) (F := 1000000) (by omega) (a := a) g1 (s := nI a) ⟨rfl, Nat.le_refl a, fun j j1 j2 => by omega⟩
  unfold Jwy_third
  rw [hh, bd_some, p2, bd_some, bd_some, p1, bd_some]
  cases r with
  | inl t => exact Or.inr ⟨bd_of l1, l2⟩
  | inr v =>
    obtain ⟨z, rfl, w⟩ := l2
    exact Or.inl ⟨z, bd_of l1, w⟩
