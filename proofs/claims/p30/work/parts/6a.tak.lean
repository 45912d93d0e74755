/-! Deeds: take, base. -/
def tkB (B f : Nat) : Nat := (B &&& (2 ^ f - 1)) ||| ((B >>> (f + 1)) <<< f)
def tkc (f B : Nat) : Bool := decide ((nI B &&& (((1 : Int32) <<< (nI f &&& 31)) - 1)) ||| ((nI B >>> ((1 : Int32) &&& 31)) &&& ((((1 : Int32) <<< (nI f &&& 31)) - 1) ^^^ (-1 : Int32))) = nI (tkB B f)) && decide ((nI B &&& (((1 : Int32) <<< (nI f &&& 31)) - 1)) ||| ((nI B >>> ((nI f + (1 : Int32)) &&& 31)) <<< (nI f &&& 31)) = nI (tkB B f)) && (List.range 7).all fun n => !(Nat.ble (f + 1) n && Nat.ble (B + 1) (2 ^ n)) || Nat.ble (tkB B f + 1) (2 ^ (n - 1))
theorem tk_ok : ((List.range 6).all fun f => (List.range 64).all fun B => tkc f B) = true := by decide +kernel
theorem tk_at {n f B : Nat} (hn : n ≤ 6) (hf : f < n) (hB : B < 2 ^ n) : (nI B &&& (((1 : Int32) <<< (nI f &&& 31)) - 1)) ||| ((nI B >>> ((1 : Int32) &&& 31)) &&& ((((1 : Int32) <<< (nI f &&& 31)) - 1) ^^^ (-1 : Int32))) = nI (tkB B f) ∧ (nI B &&& (((1 : Int32) <<< (nI f &&& 31)) - 1)) ||| ((nI B >>> ((nI f + (1 : Int32)) &&& 31)) <<< (nI f &&& 31)) = nI (tkB B f) ∧ tkB B f < 2 ^ (n - 1) := by
  have p : 2 ^ n ≤ 2 ^ 6 := pw_le hn
  have w := al (al tk_ok (i := f) (by omega)) (i := B) (by omega)
  unfold tkc at w
  rw [Bool.and_eq_true, Bool.and_eq_true] at w
  obtain ⟨⟨w1, w2⟩, w3⟩ := w
  refine ⟨of_decide_eq_true w1, of_decide_eq_true w2, ?_⟩
  have w4 := al w3 (i := n) (by omega)
  have b1 : Nat.ble (f + 1) n = true := Nat.ble_eq_true_of_le hf
  have b2 : Nat.ble (B + 1) (2 ^ n) = true := Nat.ble_eq_true_of_le hB
  rw [b1, b2] at w4
  exact Nat.le_of_ble_eq_true w4
def tkS (s : Sh) (f : Nat) : Sh := (s.1 - 1, fun i => if i < f then s.2.1 i else s.2.1 (i + 1), tkB s.2.2 f)
theorem tk_okS {s : Sh} (hs : okS s) {f : Nat} (hf : f < s.1) : okS (tkS s f) := by
  obtain ⟨h1, h2, h3⟩ := hs
  refine ⟨show s.1 - 1 ≤ 6 by omega, fun i hi => ?_, (tk_at h1 hf h3).2.2⟩
  have hi : i < s.1 - 1 := hi
  show (if i < f then s.2.1 i else s.2.1 (i + 1)) < 256
  by_cases q : i < f
  · rw [if_pos q]; exact h2 i (by omega)
  · rw [if_neg q]; exact h2 (i + 1) (by omega)
theorem removeC {h : Hp} {s : Sh} (hS : shC h s) (hs : okS s) {f : Nat} (hf : f < s.1) : ∃ h1, Jsh_remove (nI f) h = some h1 ∧ shC h1 (tkS s f) := by
  obtain ⟨h1, h2, h3⟩ := id hs
  obtain ⟨r, l1, l2⟩ := loop_cnt (fun x => Jsh_remove_L11 (nI f) x.1 x.2) (fun i x => f ≤ i ∧ x.1 = nI i ∧ (∀ j, j < i → x.2 30 j = nI (if j < f then s.2.1 j else s.2.1 (j + 1))) ∧ (∀ j, i ≤ j → x.2 30 j = h 30 j) ∧ ∀ p, p ≠ 30 → x.2 p = h p) (fun x => (∀ j, j < s.1 - 1 → x.2 30 j = nI (if j < f then s.2.1 j else s.2.1 (j + 1))) ∧ ∀ p, p ≠ 30 → x.2 p = h p) (s.1 - 1) (fun i x hi hx => by
    obtain ⟨a, x⟩ := x
    obtain ⟨hfi, e, g1, g2, g3⟩ := hx
    replace e : a = nI i := e
    subst e
    replace g1 : ∀ j, j < i → x 30 j = nI (if j < f then s.2.1 j else s.2.1 (j + 1)) := g1
    replace g2 : ∀ j, i ≤ j → x 30 j = h 30 j := g2
    replace g3 : ∀ p, p ≠ 30 → x p = h p := g3
    have v : x 30 (i + 1) = nI (s.2.1 (i + 1)) := (g2 _ (by omega)).trans (hS.2.2 _ (by omega))
    have sz : x 29 1 = nI s.1 := by rw [g3 29 (by decide)]; exact hS.1
    refine Or.inl ⟨(nI (i + 1), hset x 30 i (nI (s.2.1 (i + 1)))), ?_, by omega, rfl, fun j hj => ?_, fun j hj => ?_, fun p hp => ?_⟩
    · show Jsh_remove_L11 (nI f) (nI i) x = _
      unfold Jsh_remove_L11
      rw [show nI i + (1 : Int32) = nI (i + 1) from nI_add i 1, sz, if_pos (nI_lt (by omega) (by omega)), if_pos (show nI (i + 1) < (6 : Int32) from nI_lt (b := 6) (by omega) (by decide)), ib_nI (i := i + 1) (by omega) (by omega), cond_true, ib_nI (i := i) (by omega) (by omega), cond_true, lt_of', nI_clamp (n := i) (by omega), nI_clamp (n := i + 1) (by omega), v]
    · show hset x 30 i _ 30 j = _
      by_cases q : j = i
      · rw [q, hset_at, if_neg (by omega)]
      · rw [hset_ne2 q]; exact g1 j (by omega)
    · show hset x 30 i _ 30 j = _
      rw [hset_ne2 (by omega)]; exact g2 j (by omega)
    · show hset x 30 i _ p = _
      rw [hset_ne hp]; exact g3 p hp) (fun x hx => by
    obtain ⟨a, x⟩ := x
    obtain ⟨hfi, e, g1, g2, g3⟩ := hx
    replace e : a = nI (s.1 - 1) := e
    subst e
    have sz : x 29 1 = nI s.1 := by rw [show x 29 = h 29 from g3 29 (by decide)]; exact hS.1
    refine ⟨(nI (s.1 - 1), x), ?_, g1, g3⟩
    show Jsh_remove_L11 (nI f) (nI (s.1 - 1)) x = _
    unfold Jsh_remove_L11
    rw [show nI (s.1 - 1) + (1 : Int32) = nI (s.1 - 1 + 1) from nI_add _ 1, sz, if_neg (nI_nlt (by omega) (by omega))]) (F := 1000000) (by omega) (a := f) (by omega) (s := (nI f, h)) ⟨Nat.le_refl f, rfl, fun j hj => by
      show h 30 j = _
      rw [if_pos hj]; exact hS.2.2 j (by omega), fun j _ => rfl, fun p _ => rfl⟩
  obtain ⟨a, x⟩ := r
  obtain ⟨g1, g3⟩ := l2
  replace g1 : ∀ j, j < s.1 - 1 → x 30 j = nI (if j < f then s.2.1 j else s.2.1 (j + 1)) := g1
  replace g3 : ∀ p, p ≠ 30 → x p = h p := g3
  have sz : x 29 1 = nI s.1 := by rw [g3 29 (by decide)]; exact hS.1
  have bz : x 29 2 = nI s.2.2 := by rw [g3 29 (by decide)]; exact hS.2.1
  obtain ⟨y, ey⟩ : ∃ y, y = hset x 29 1 (nI (s.1 - 1)) := ⟨_, rfl⟩
  have yb : y 29 2 = nI s.2.2 := by rw [ey, hset_ne2 (by decide)]; exact bz
  refine ⟨hset y 29 2 (nI (tkB s.2.2 f)), ?_, ⟨?_, hset_at, fun i hi => ?_⟩⟩
  · unfold Jsh_remove
    rw [holds_yes hS h1 hf, bd_some, if_neg one0, l1, bd_some]
    dsimp only
    rw [lt_of', sz, show nI s.1 - (1 : Int32) = nI (s.1 - 1) from nI_sub (b := 1) (by omega), ← ey, lt_of', yb, (tk_at h1 hf h3).1]
  · rw [hset_ne2 (by decide), ey, hset_at]; rfl
  · rw [hset_ne (by decide), ey, hset_ne (by decide)]
    exact g1 i hi
theorem take_inv {h : Hp} (v : Int32) (H : Inv h) : ∃ r h1 h2, Jyn_take v h = some (r, h1) ∧ Jm_take v h1 = some (r, h2) ∧ Inv h2 := by
  obtain ⟨⟨s, ⟨m, T⟩, F, ⟨n, K, V⟩, sd, ⟨u, U⟩, ⟨G, I, E⟩⟩, ok, c, d⟩ := id H
  have hS := c.1
  have hm : rowM h 0 s := d.1.1
  have hn := ok.1.1
  rcases fn_or hS hm hn v with ⟨f, hf, rfl, y1, w1⟩ | ⟨y1, w1⟩
  · obtain ⟨h1, a1, a2, a3⟩ := pushC ok c
    have ok1 : okSt (s, (m, T), F, (n, K, V), sd, (pushN u, pushU s U), (G, I, E)) := ⟨ok.1, ok.2.1, ok.2.2.1, ok.2.2.2.1, okU_push ok.1 ok.2.2.2.2.1, ok.2.2.2.2.2⟩
    obtain ⟨h2, b1, b2⟩ := removeC a2.1 ok.1 hf
    have fr := FJsh_remove _ _ _ b1
    have f2 : ∀ p, p ≠ 29 → p ≠ 30 → h2 p = h1 p := fun p x y => fr p (by
      intro z
      rw [show SJsh_remove = [29, 30] from rfl] at z
      simp only [List.mem_cons, List.not_mem_nil, or_false] at z
      omega)
    have c2 := shelfC (fun p p1 p2 _ => f2 p p1 p2) b2 a2
    have d2 := mdI_C (h := h) (h' := h2) (fun p hp => (f2 p (by omega) (by omega)).trans (a3 p (by omega))) d
    obtain ⟨h3, e1, e2, e3, e4⟩ := rememberM ok d2
    have row : rowM h3 0 s := e2.1.1
    have r7 : h3 38 7 = nI s.2.2 := row.2.1
    obtain ⟨t1, t2, t3⟩ := tk_at hn hf ok.1.2.2
    obtain ⟨h4, e5⟩ : ∃ y, y = hset h3 38 7 (nI (tkB s.2.2 f)) := ⟨_, rfl⟩
    have q0 : h4 38 0 = nI s.1 := by rw [e5, hset_ne2 (by decide)]; exact row.1
    have qc : ∀ i, i < s.1 → h4 38 (1 + i) = nI (s.2.1 i) := fun i hi => by
      rw [e5, hset_ne2 (by omega)]
      have := row.2.2 i hi
      rw [Nat.zero_add] at this
      exact this
    obtain ⟨r, l1, l2⟩ := loop_cnt (fun x => Jm_take_L56 (nI f) (nI s.2.2 &&& (((1 : Int32) <<< (nI f &&& 31)) - 1)) x.1 x.2) (fun i x => f + 1 ≤ i ∧ x.1 = nI i ∧ (∀ j, j + 1 < i → x.2 38 (1 + j) = nI (if j < f then s.2.1 j else s.2.1 (j + 1))) ∧ (∀ j, (j = 0 ∨ i ≤ j) → x.2 38 j = h4 38 j) ∧ ∀ p, p ≠ 38 → x.2 p = h4 p) (fun x => (∀ j, j < s.1 - 1 → x.2 38 (1 + j) = nI (if j < f then s.2.1 j else s.2.1 (j + 1))) ∧ (∀ j, (j = 0 ∨ s.1 ≤ j) → x.2 38 j = h4 38 j) ∧ ∀ p, p ≠ 38 → x.2 p = h4 p) s.1 (fun i x hi hx => by
      obtain ⟨a, x⟩ := x
      obtain ⟨hfi, e, g1, g2, g3⟩ := hx
      replace e : a = nI i := e
      subst e
      replace g1 : ∀ j, j + 1 < i → x 38 (1 + j) = nI (if j < f then s.2.1 j else s.2.1 (j + 1)) := g1
      replace g2 : ∀ j, (j = 0 ∨ i ≤ j) → x 38 j = h4 38 j := g2
      replace g3 : ∀ p, p ≠ 38 → x p = h4 p := g3
      have v : x 38 (i + 1) = nI (s.2.1 i) := by
        rw [g2 _ (by omega), show i + 1 = 1 + i by omega]; exact qc i hi
      have sz : x 38 0 = nI s.1 := (g2 0 (Or.inl rfl)).trans q0
      refine Or.inl ⟨(nI (i + 1), hset x 38 i (nI (s.2.1 i))), ?_, by omega, rfl, fun j hj => ?_, fun j hj => ?_, fun p hp => ?_⟩
      · show Jm_take_L56 (nI f) (nI s.2.2 &&& (((1 : Int32) <<< (nI f &&& 31)) - 1)) (nI i) x = _
        unfold Jm_take_L56
        rw [sz, if_pos (nI_lt hi (by omega)), show nI i + (1 : Int32) = nI (i + 1) from nI_add i 1, ib_nI (i := i + 1) (by omega) (by omega), cond_true, ib_nI (i := i) (by omega) (by omega), cond_true, lt_of', nI_clamp (n := i) (by omega), nI_clamp (n := i + 1) (by omega), v]
      · show hset x 38 i _ 38 (1 + j) = _
        by_cases q : 1 + j = i
        · rw [q, hset_at, if_neg (by omega), show j + 1 = i by omega]
        · rw [hset_ne2 q]; exact g1 j (by omega)
      · show hset x 38 i _ 38 j = _
        rw [hset_ne2 (by omega)]; exact g2 j (by omega)
      · show hset x 38 i _ p = _
        rw [hset_ne hp]; exact g3 p hp) (fun x hx => by
      obtain ⟨a, x⟩ := x
      obtain ⟨hfi, e, g1, g2, g3⟩ := hx
      replace e : a = nI s.1 := e
      subst e
      have sz : x 38 0 = nI s.1 := (g2 0 (Or.inl rfl)).trans q0
      refine ⟨(nI s.1, x), ?_, fun j hj => g1 j (by omega), g2, g3⟩
      show Jm_take_L56 (nI f) (nI s.2.2 &&& (((1 : Int32) <<< (nI f &&& 31)) - 1)) (nI s.1) x = _
      unfold Jm_take_L56
      rw [sz, if_neg (nI_nlt (Nat.le_refl _) (by omega))]) (F := 1000000) (by omega) (a := f + 1) (by omega) (s := (nI (f + 1), h4)) ⟨Nat.le_refl _, rfl, fun j hj => by
        show h4 38 (1 + j) = _
        rw [if_pos (by omega)]; exact qc j (by omega), fun j _ => rfl, fun p _ => rfl⟩
    obtain ⟨a, x⟩ := r
    obtain ⟨g1, g2, g3⟩ := l2
    replace g1 : ∀ j, j < s.1 - 1 → x 38 (1 + j) = nI (if j < f then s.2.1 j else s.2.1 (j + 1)) := g1
    replace g2 : ∀ j, (j = 0 ∨ s.1 ≤ j) → x 38 j = h4 38 j := g2
    replace g3 : ∀ p, p ≠ 38 → x p = h4 p := g3
    have sz : x 38 0 = nI s.1 := (g2 0 (Or.inl rfl)).trans q0
    obtain ⟨y, ey⟩ : ∃ y, y = hset x 38 0 (nI (s.1 - 1)) := ⟨_, rfl⟩
    have fy : ∀ p, p ≠ 38 → y p = h3 p := fun p hp => by rw [ey, hset_ne hp, g3 p hp, e5, hset_ne hp]
    refine ⟨nI (s.1 - 1), h2, y, ?_, ?_, (tkS s f, (m, T), F, (n, K, V), sd, (pushN u, pushU s U), (G, I, E)), ⟨tk_okS ok.1 hf, ok1.2⟩, clI_M (fun p hp => (fy p (by omega)).trans (e4 p (by omega) (by omega))) c2, shelfM ok1.2.2.2.2.1 ok1.2.2.2.2.2 (fun p hp _ => fy p hp) (fun j hj => ?_) e3 ⟨?_, ?_, fun i hi => ?_⟩ e2⟩
    · unfold Jyn_take
      rw [y1, bd_some, if_neg one0, a1, bd_some, b1, bd_some]
      unfold Jsh_size
      rw [bd_some, b2.1]
      rfl
    · unfold Jm_take
      rw [isFn_yes d2.1.1 hn hf, bd_some, if_neg one0, e1, bd_some, r7, t2, lt_of', ← e5, show nI f + (1 : Int32) = nI (f + 1) from nI_add f 1, l1, bd_some]
      dsimp only
      rw [sz, show nI s.1 - (1 : Int32) = nI (s.1 - 1) from nI_sub (b := 1) (by omega), lt_of', ← ey, ey, hset_at]
    · rw [ey, hset_ne2 (by omega), g2 j (by omega), e5, hset_ne2 (by omega)]
    · rw [ey, hset_at]; rfl
    · rw [ey, hset_ne2 (by decide), g2 _ (by omega), e5, hset_at]; rfl
    · have hi : i < s.1 - 1 := hi
      rw [ey, hset_ne2 (by omega), Nat.zero_add]
      exact g1 i hi
  · refine ⟨-1000000001, h, h, ?_, ?_, H⟩
    · unfold Jyn_take
      rw [y1, bd_some, if_pos rfl]
    · unfold Jm_take
      rw [w1, bd_some, if_pos rfl]
theorem bs_or {n : Nat} (hn : n ≤ 6) (v : Int32) : (∃ B, B < 2 ^ n ∧ v = nI B ∧ v >>> (nI n &&& 31) = 0 ∧ Jm_in (Int32.toInt64 v) 0 (Int32.toInt64 (((1 : Int32) <<< (nI n &&& 31)) - 1)) = some 1) ∨ (¬ v >>> (nI n &&& 31) = 0 ∧ Jm_in (Int32.toInt64 v) 0 (Int32.toInt64 (((1 : Int32) <<< (nI n &&& 31)) - 1)) = some 0) := by
  have p6 : 2 ^ n ≤ 2 ^ 6 := pw_le hn
  have p0 : 0 < 2 ^ n := Nat.two_pow_pos n
  rw [shl1 (by omega), Nat.one_shiftLeft, show nI (2 ^ n) - (1 : Int32) = nI (2 ^ n - 1) from nI_sub (b := 1) (by omega), nI_l (n := 2 ^ n - 1) (by omega)]
  by_cases q : v < 0
  · exact Or.inr ⟨shr_neg q (by omega), in_neg (a := 0) q (by decide) _⟩
  obtain ⟨B, hB, rfl⟩ := nI_of q
  have e : nI B >>> (nI n &&& 31) = nI (B >>> n) := nI_shr hB (by omega)
  rw [Nat.shiftRight_eq_div_pow] at e
  by_cases z : B < 2 ^ n
  · exact Or.inl ⟨B, z, rfl, by rw [e, Nat.div_eq_of_lt z]; rfl, in_yes (a := 0) (by omega) (by omega) (by omega)⟩
  · have l1 : 0 < B / 2 ^ n := Nat.div_pos (by omega) p0
    have l2 : B / 2 ^ n ≤ B := Nat.div_le_self _ _
    refine Or.inr ⟨fun w => ?_, in_high (b := 2 ^ n - 1) 0 (by omega) hB (by decide)⟩
    rw [e] at w
    have := (nI_eq (b := 0) (by omega) (by decide)).mp w
    omega
theorem base_inv {h : Hp} (v : Int32) (H : Inv h) : ∃ r h1 h2, Jyn_base v h = some (r, h1) ∧ Jm_base v h1 = some (r, h2) ∧ Inv h2 := by
  obtain ⟨hP, hM⟩ := inv_CM H
  obtain ⟨⟨s, ⟨m, T⟩, F, ⟨n, K, V⟩, sd, ⟨u, U⟩, ⟨G, I, E⟩⟩, ok, c, d⟩ := id H
  have hS := c.1
  have hm : rowM h 0 s := d.1.1
  have hn := ok.1.1
  rcases bs_or hn v with ⟨B, hB, rfl, y1, w1⟩ | ⟨y1, w1⟩
  · obtain ⟨h1, a1, a2, a3⟩ := pushC ok c
    have ok1 : okSt (s, (m, T), F, (n, K, V), sd, (pushN u, pushU s U), (G, I, E)) := ⟨ok.1, ok.2.1, ok.2.2.1, ok.2.2.2.1, okU_push ok.1 ok.2.2.2.2.1, ok.2.2.2.2.2⟩
    obtain ⟨s', es⟩ : ∃ s' : Sh, s' = (s.1, s.2.1, B) := ⟨_, rfl⟩
    have hs' : okS s' := by rw [es]; exact ⟨ok.1.1, ok.1.2.1, hB⟩
    obtain ⟨h2, e2⟩ : ∃ y, y = hset h1 29 2 (nI B) := ⟨_, rfl⟩
    have f2 : ∀ p, p ≠ 29 → h2 p = h1 p := fun p hp => by rw [e2, hset_ne hp]
    have s2 : shC h2 s' := by
      rw [es]
      exact ⟨by rw [e2, hset_ne2 (by decide)]; exact a2.1.1, by rw [e2, hset_at], fun i hi => by rw [f2 30 (by decide)]; exact a2.1.2.2 i hi⟩
    have c2 := shelfC (fun p p1 p2 _ => f2 p p1) s2 a2
    have d2 := mdI_C (h := h) (h' := h2) (fun p hp => (f2 p (by omega)).trans (a3 p (by omega))) d
    obtain ⟨h3, b1, b2, b3, b4⟩ := rememberM ok d2
    have row : rowM h3 0 s := b2.1.1
    obtain ⟨h4, e4⟩ : ∃ y, y = hset h3 38 7 (nI B) := ⟨_, rfl⟩
    have f4 : ∀ p, p ≠ 38 → h4 p = h3 p := fun p hp => by rw [e4, hset_ne hp]
    have r4 : rowM h4 0 s' := by
      rw [es]
      exact ⟨by rw [e4, hset_ne2 (by decide)]; exact row.1, by rw [e4, hset_at], fun i hi => by
        have hi : i < s.1 := hi
        rw [e4, hset_ne2 (by omega)]; exact row.2.2 i hi⟩
    have d4 : mdI h4 (s', (m, T), F, (n, K, V), sd, (pushN u, pushU s U), (G, I, E)) := shelfM ok1.2.2.2.2.1 ok1.2.2.2.2.2 (fun p hp _ => f4 p hp) (fun j hj => by rw [e4, hset_ne2 (by omega)]) b3 r4 b2
    have iv : Inv h4 := ⟨(s', (m, T), F, (n, K, V), sd, (pushN u, pushU s U), (G, I, E)), ⟨hs', ok1.2⟩, clI_M (fun p hp => (f4 p (by omega)).trans (b4 p (by omega) (by omega))) c2, d4⟩
    obtain ⟨h5, g1, g2, g3, g4⟩ := commonM_at (k := 99) (v := -1) (Or.inr ⟨rfl, rfl⟩) (by decide) r4 hs' (inv_CM iv).2.1
    refine ⟨nI (cmS s'), h2, h5, ?_, ?_, inv_tl iv g2 g3 g4⟩
    · unfold Jyn_base Jsh_choose
      rw [size_at hS, bd_some, if_pos y1, a1, bd_some, lt_of', ← e2, bd_some, commonC_at s2 hs' c2.2.2.2.2.2.2.2.1, bd_some]
    · unfold Jm_base
      rw [d2.1.1.1, w1, bd_some, if_neg one0, b1, bd_some, lt_of', ← e4, g1, bd_some]
      rfl
  · refine ⟨-1000000001, h, h, ?_, ?_, H⟩
    · unfold Jyn_base
      rw [size_at hS, bd_some, if_neg y1]
    · unfold Jm_base
      rw [hm.1, w1, bd_some, if_pos rfl]
