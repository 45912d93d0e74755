/-! The law: draws, and what is cheap. -/
theorem low_at (v : Int32) {n : Nat} (hn : 0 < n) (h31 : n < 2 ^ 31) : ∃ r, r < n ∧ Jw_low v (nI n) = some (nI r) := by
  obtain ⟨a, ha, ea⟩ := pk_andE v (m := (2147483647 : Int32)) 31 (by decide)
  refine ⟨a % n, Nat.mod_lt _ hn, ?_⟩
  have n0 : ¬ nI n = (0 : Int32) := fun w => by
    have := (nI_eq (a := n) (b := 0) h31 (by decide)).mp w
    omega
  unfold Jw_low
  rw [show (!(decide (nI n = 0))) = true by rw [decide_eq_false n0]; rfl, cond_true, ea, pk_rem ha hn h31]
theorem low_8 (v : Int32) {n : Nat} {k : Int32} (e : k = nI n) (hn : 0 < n) (h31 : n < 2 ^ 31) : ∃ r, r < n ∧ Jw_low v k = some (nI r) := by
  subst e
  exact low_at v hn h31
theorem drawn_at (v : Int32) : ∃ c, c < 256 ∧ Jw_drawn v = some (nI c) := by
  obtain ⟨r, e1, c0, e2, e3⟩ := loop_cnt (fun s => Jw_drawn_L4 v s.1 s.2) (fun i s => ∃ c, c < 256 ∧ s = (nI c, nI i)) (fun r => ∃ c, c < 256 ∧ r.1 = nI c) 8 (fun i s hi hs => by
    obtain ⟨c, hc, rfl⟩ := hs
    refine Or.inl ?_
    have i1 : nI i + 1 = nI (i + 1) := nI_add i 1
    show ∃ s', Jw_drawn_L4 v (nI c) (nI i) = some (.inl s') ∧ _
    unfold Jw_drawn_L4
    rw [if_pos (show nI i < (8 : Int32) from nI_lt (b := 8) hi (by decide)), i1]
    by_cases q : (v >>> (((3 : Int32) + (nI i / 2)) &&& 31) : Int32) &&& (1 : Int32) = 1
    · rw [if_pos q]
      have p8 : 1 <<< i < 2 ^ 8 := by
        rw [Nat.shiftLeft_eq, Nat.one_mul]
        exact Nat.pow_lt_pow_right (by decide) hi
      refine ⟨_, rfl, c ||| 1 <<< i, Nat.or_lt_two_pow (n := 8) hc p8, ?_⟩
      rw [show (1 : Int32) = nI 1 from rfl, nI_shl (by omega) (by omega), nI_or]
    · rw [if_neg q]
      exact ⟨_, rfl, c, hc, rfl⟩) (fun s hs => by
    obtain ⟨c, hc, rfl⟩ := hs
    refine ⟨(nI c, nI 8), ?_, c, hc, rfl⟩
    show Jw_drawn_L4 v (nI c) (nI 8) = _
    unfold Jw_drawn_L4
    exact if_neg (nI_nlt (Nat.le_refl 8) (by decide))) (F := 1000000) (by omega) (a := 0) (by omega) (s := (0, 0)) ⟨0, by decide, rfl⟩
  obtain ⟨r2, l2, f2⟩ := low_8 v (k := 8) (n := 8) rfl (by decide) (by decide)
  obtain ⟨r3, l3, f3⟩ := low_8 (v >>> (3 &&& 31) : Int32) (k := 256) (n := 256) rfl (by decide) (by decide)
  unfold Jw_drawn
  rw [show loopN 1000000 (fun s => Jw_drawn_L4 v s.1 s.2) (0, 0) = some r from e1, bd_some, f2, bd_some]
  by_cases q : nI r2 = (0 : Int32)
  · rw [if_pos q, f3, bd_some]
    exact ⟨r3, l3, rfl⟩
  · rw [if_neg q]
    exact ⟨c0, e2, congrArg some e3⟩
theorem cell_at {L : Nat} (xs : Nat → Int32) (hL : L ≤ 260) {j : Nat} (hj : j < 1000) : ∃ v, Jw_cell L xs (nI j) = some v := by
  unfold Jw_cell
  by_cases q : nI j < Int32.ofNat L
  · have hl : j < L := (nI_ltI (a := j) (b := L) (by omega) (by omega)).mp q
    rw [if_pos q, show ibB (nI j) L = true from ib_nI hl (by omega)]
    exact ⟨_, rfl⟩
  · rw [if_neg q]
    exact ⟨_, rfl⟩
theorem ar_hg {f : Nat} (hf : f < 256) : (arN f ≤ 2 → hg f 2 = false) ∧ (arN f ≤ 1 → hg f 1 = false) ∧ (arN f = 0 → hg f 0 = false) := by
  have h := (hgc_at hf).2.2.2.1
  have h2 : arN f ≤ 2 → hg f 2 = false := fun q => by
    cases a : hg f 2 with
    | false => rfl
    | true =>
      rw [a, cond_true] at h
      omega
  have h1 : arN f ≤ 1 → hg f 1 = false := fun q => by
    cases a : hg f 1 with
    | false => rfl
    | true =>
      rw [h2 (by omega), a, cond_false, cond_true] at h
      omega
  refine ⟨h2, h1, fun q => ?_⟩
  cases a : hg f 0 with
  | false => rfl
  | true =>
    rw [h2 (by omega), h1 (by omega), a, cond_false, cond_false, cond_true] at h
    omega
theorem pN_2 {f x y z : Nat} (hf : f < 256) (h : arN f ≤ 2) : pN f x y z = pN f x y 0 := irr2 hf ((ar_hg hf).1 h) x y z 0
theorem pN_1 {f x y z : Nat} (hf : f < 256) (h : arN f ≤ 1) : pN f x y z = pN f x 0 0 := (pN_2 hf (by omega)).trans (irr1 hf ((ar_hg hf).2.1 h) x y 0 0)
theorem pN_0 {f x y z : Nat} (hf : f < 256) (h : arN f = 0) : pN f x y z = pN f 0 0 0 := (pN_1 hf (by omega)).trans (irr0 hf ((ar_hg hf).2.2 h) x 0 0 0)
/-- a way on made parts: no dearer -/
theorem way_le {s : Sh} {f x y z n : Nat} (hch : ∃ g, chs s g ∧ s.2.1 g = f) (hf : f < 256) (hx : x < 256) (hy : y < 256) (hz : z < 256) {i j l : Nat} (i1 : 0 < arN f → FC s x = some i) (j1 : 1 < arN f → FC s y = some j) (l1 : 2 < arN f → FC s z = some l) (hn : n = 1 + (if 0 < arN f then i else 0) + (if 1 < arN f then j else 0) + (if 2 < arN f then l else 0)) (h9 : n ≤ 9999) : ∃ k, FC s (pN f x y z) = some k ∧ k ≤ n := by
  obtain ⟨g, g1, g2⟩ := hch
  have a3 := ar_le f hf
  have low : ∀ {d a : Nat}, FC s d = some a → a < n → LV s (n - 1) d = some a := fun e q => (LV_iff (n := n - 1) (m := 9999) (by omega) (by omega)).mp e
  have w : WayE (LV s (n - 1)) f n (pN f x y z) := by
    rcases (show arN f = 0 ∨ arN f = 1 ∨ arN f = 2 ∨ arN f = 3 by omega) with a | a | a | a
    · rw [if_neg (by omega), if_neg (by omega), if_neg (by omega)] at hn
      refine ⟨0, 0, 0, Or.inl ⟨a, by omega, ?_, rfl, rfl, rfl⟩⟩
      exact (pN_0 hf a).trans (ar0_all f hf a)
    · rw [if_pos (by omega), if_neg (by omega), if_neg (by omega)] at hn
      refine ⟨x, 0, 0, Or.inr (Or.inl ⟨a, ⟨i, low (i1 (by omega)) (by omega), by omega⟩, pN_1 hf (by omega), hx, rfl, rfl⟩)⟩
    · rw [if_pos (by omega), if_pos (by omega), if_neg (by omega)] at hn
      refine ⟨x, y, 0, Or.inr (Or.inr (Or.inl ⟨a, ⟨i, j, low (i1 (by omega)) (by omega), low (j1 (by omega)) (by omega), by omega⟩, pN_2 hf (by omega), hx, hy, rfl⟩))⟩
    · rw [if_pos (by omega), if_pos (by omega), if_pos (by omega)] at hn
      refine ⟨x, y, z, Or.inr (Or.inr (Or.inr ⟨a, ⟨i, j, l, low (i1 (by omega)) (by omega), low (j1 (by omega)) (by omega), low (l1 (by omega)) (by omega), by omega⟩, rfl, hx, hy, hz⟩))⟩
  have np : n - 1 + 1 = n := by omega
  cases e : LV s (n - 1) (pN f x y z) with
  | some k =>
    have := (LV_at e).1
    exact ⟨k, LV_mono (by omega) e, by omega⟩
  | none =>
    have := LV_new e ⟨g, g1, by rw [g2, np]; exact w⟩
    rw [np] at this
    exact ⟨n, LV_mono h9 this, Nat.le_refl n⟩
noncomputable def smk (s : Sh) (x y z : Nat) : Nat → Nat
  | 0 => 1
  | i + 1 => smk s x y z i + kN s (pt x y z i)
section CHEAP
variable {s : Sh} {u m : Nat} {U : Nat → Sh} {T : Nat → Nat} {w : Wd} {b : St2}
theorem cheap_st {x y z i a : Nat} {v1 v2 v7 v8 : Int32} (I : W2 (s, u, U, m, T) b w) (ha : a ≤ 3) (hi : i < a) (hp : pt x y z i < 256) : ∃ w', Jw_isCheap_L51 v1 v2 (nI a) (nI x) (nI y) (nI z) v7 v8 (nI i) w = some (.inl (v7 + coV s (pt x y z i), (if v8 = 0 then 0 else if coV s (pt x y z i) < 0 then 0 else 1), nI (i + 1), w')) ∧ Nx (s, u, U, m, T) b w w' := by
  obtain ⟨w', e, n⟩ := oc_0 I hp
  have c1 : nI i < nI a := nI_lt hi (by omega)
  have i1 : nI i + 1 = nI (i + 1) := nI_add i 1
  have fin : ∀ V, Oo_cost V 0 w = some (coV s (pt x y z i), w') → Jw_isCheap_J81 v1 v2 (nI a) (nI x) (nI y) (nI z) v7 v8 (nI i) V w = some (.inl (v7 + coV s (pt x y z i), (if v8 = 0 then 0 else if coV s (pt x y z i) < 0 then 0 else 1), nI (i + 1), w')) := fun V hV => by
    unfold Jw_isCheap_J81
    simp only [hV, bd_some, i1]
    by_cases q : v8 = 0
    · rw [if_pos q, if_pos q]
    · rw [if_neg q, if_neg q]
      by_cases q2 : coV s (pt x y z i) < 0
      · rw [if_pos q2, if_pos q2]
      · rw [if_neg q2, if_neg q2]
  refine ⟨w', ?_, n⟩
  unfold Jw_isCheap_L51
  rw [if_pos c1]
  rcases (show i = 0 ∨ i = 1 ∨ i = 2 by omega) with rfl | rfl | rfl
  · rw [if_pos (show nI 0 = (0 : Int32) from rfl)]
    exact fin _ e
  · rw [if_neg (show ¬ nI 1 = (0 : Int32) by decide), if_pos (show nI 1 = (1 : Int32) from rfl)]
    exact fin _ e
  · rw [if_neg (show ¬ nI 2 = (0 : Int32) by decide), if_neg (show ¬ nI 2 = (1 : Int32) by decide)]
    exact fin _ e
set_option maxRecDepth 100000 in
theorem cheap_at (I : W2 (s, u, U, m, T) b w) {g : Nat} (hg : chs s g) (v : Int32) : ∃ w', Jw_isCheap (nI g) v w = some (1, w') ∧ Nx (s, u, U, m, T) b w w' := by
  have hs : okS s := cI_s I.1
  have hf := hs.2.1 g hg.1
  have a3 := ar_le _ hf
  obtain ⟨w0, e0, n0⟩ := (o_fun I hg.1).2
  obtain ⟨x, hx, fx⟩ := low_8 (v >>> (2 &&& 31) : Int32) (k := 256) (n := 256) rfl (by decide) (by decide)
  obtain ⟨y, hy, fy⟩ := low_8 (v >>> (10 &&& 31) : Int32) (k := 256) (n := 256) rfl (by decide) (by decide)
  obtain ⟨z, hz, fz⟩ := low_8 (v >>> (18 &&& 31) : Int32) (k := 256) (n := 256) rfl (by decide) (by decide)
  have p256 : ∀ i, pt x y z i < 256 := fun i => by
    unfold pt
    split
    · exact hx
    · split
      · exact hy
      · exact hz
  obtain ⟨r, l1, nr, l3⟩ := loop_cnt (fun t : Int32 × Int32 × Int32 × Wd => Jw_isCheap_L51 (nI g) v (nI (arN (s.2.1 g))) (nI x) (nI y) (nI z) t.1 t.2.1 t.2.2.1 t.2.2.2) (fun i t => t.2.2.1 = nI i ∧ Nx (s, u, U, m, T) b w0 t.2.2.2 ∧ ((t.2.1 = 1 ∧ (∀ j, j < i → ∃ q, FC s (pt x y z j) = some q) ∧ t.1 = nI (smk s x y z i)) ∨ t.2.1 = 0)) (fun r => Nx (s, u, U, m, T) b w0 r.2.2.2 ∧ ((r.2.1 = 1 ∧ (∀ j, j < arN (s.2.1 g) → ∃ q, FC s (pt x y z j) = some q) ∧ r.1 = nI (smk s x y z (arN (s.2.1 g)))) ∨ r.2.1 = 0)) (arN (s.2.1 g)) (fun i t hi ht => by
    obtain ⟨v7, v8, v9, wt⟩ := t
    obtain ⟨rfl, nt, ht⟩ := ht
    replace nt : Nx (s, u, U, m, T) b w0 wt := nt
    replace ht : (v8 = 1 ∧ (∀ j, j < i → ∃ q, FC s (pt x y z j) = some q) ∧ v7 = nI (smk s x y z i)) ∨ v8 = 0 := ht
    obtain ⟨w1, e1, n1⟩ := cheap_st (v1 := nI g) (v2 := v) (v7 := v7) (v8 := v8) nt.1 a3 hi (p256 i)
    refine Or.inl ⟨_, e1, rfl, Nx_tr nt n1, ?_⟩
    rcases ht with ⟨rfl, h1, rfl⟩ | rfl
    · cases q : FC s (pt x y z i) with
      | none =>
        right
        rw [coV_none q]
        rfl
      | some k =>
        left
        have kl := FC_le q
        rw [coV_some q]
        refine ⟨?_, fun j hj => ?_, ?_⟩
        · show (if (1 : Int32) = 0 then (0 : Int32) else if nI k < 0 then 0 else 1) = 1
          rw [if_neg one0, if_neg (nI_pos (by omega))]
        · by_cases w : j = i
          · rw [w]; exact ⟨k, q⟩
          · exact h1 j (by omega)
        · show nI (smk s x y z i) + nI k = nI (smk s x y z i + kN s (pt x y z i))
          rw [kN_of q, nI_add]
    · right
      show (if (0 : Int32) = 0 then (0 : Int32) else if coV s (pt x y z i) < 0 then 0 else 1) = 0
      exact if_pos rfl) (fun t ht => by
    obtain ⟨v7, v8, v9, wt⟩ := t
    obtain ⟨rfl, nt, ht⟩ := ht
    refine ⟨(v7, v8, nI (arN (s.2.1 g)), wt), ?_, nt, ht⟩
    show Jw_isCheap_L51 (nI g) v (nI (arN (s.2.1 g))) (nI x) (nI y) (nI z) v7 v8 (nI (arN (s.2.1 g))) wt = _
    unfold Jw_isCheap_L51
    exact if_neg (nI_nlt (Nat.le_refl _) (by omega))) (F := 1000000) (by omega) (a := 0) (by omega) (s := (1, 1, 0, w0)) ⟨rfl, ⟨n0.1, rfl, fun _ _ => rfl⟩, Or.inl ⟨rfl, fun j hj => absurd hj (Nat.not_lt_zero j), rfl⟩⟩
  obtain ⟨r1, r2, r3, w1⟩ := r
  replace nr : Nx (s, u, U, m, T) b w0 w1 := nr
  replace l3 : (r2 = 1 ∧ (∀ j, j < arN (s.2.1 g) → ∃ q, FC s (pt x y z j) = some q) ∧ r1 = nI (smk s x y z (arN (s.2.1 g)))) ∨ r2 = 0 := l3
  obtain ⟨w2, e2, n2⟩ := (o_fun nr.1 hg.1).1
  have pu := wput_at hf hx hy hz
  obtain ⟨w3, e3, n3⟩ := oc_0 n2.1 (pN_lt (s.2.1 g) x y z)
  refine ⟨w3, ?_, Nx_tr (Nx_tr (Nx_tr n0 nr) n2) n3⟩
  unfold Jw_isCheap
  rw [e0, bd_some, fx, bd_some, fy, bd_some, fz, bd_some]
  dsimp only
  rw [l1, bd_some]
  dsimp only
  rw [e2, bd_some]
  dsimp only
  rw [pu, bd_some, e3, bd_some]
  dsimp only
  rcases l3 with ⟨y1, h1, y2⟩ | y1
  · simp only [y1, y2, one0, if_false]
    by_cases q9 : (9999 : Int32) < nI (smk s x y z (arN (s.2.1 g)))
    · rw [if_pos q9]
    · rw [if_neg q9]
      have kle : ∀ d q, FC s d = some q → kN s d ≤ 9999 := fun d q e => by rw [kN_of e]; exact FC_le e
      obtain ⟨n, en⟩ : ∃ n, n = smk s x y z (arN (s.2.1 g)) := ⟨_, rfl⟩
      have nb : n = 1 + (if 0 < arN (s.2.1 g) then kN s x else 0) + (if 1 < arN (s.2.1 g) then kN s y else 0) + (if 2 < arN (s.2.1 g) then kN s z else 0) := by
        rw [en]
        rcases (show arN (s.2.1 g) = 0 ∨ arN (s.2.1 g) = 1 ∨ arN (s.2.1 g) = 2 ∨ arN (s.2.1 g) = 3 by omega) with a | a | a | a <;> rw [a] <;> rfl
      have i1 : 0 < arN (s.2.1 g) → FC s x = some (kN s x) := fun q => by
        obtain ⟨k, e⟩ := h1 0 q
        have e : FC s x = some k := e
        rw [kN_of e]; exact e
      have j1 : 1 < arN (s.2.1 g) → FC s y = some (kN s y) := fun q => by
        obtain ⟨k, e⟩ := h1 1 q
        have e : FC s y = some k := e
        rw [kN_of e]; exact e
      have k1 : 2 < arN (s.2.1 g) → FC s z = some (kN s z) := fun q => by
        obtain ⟨k, e⟩ := h1 2 q
        have e : FC s z = some k := e
        rw [kN_of e]; exact e
      have n31 : n < 2 ^ 31 := by
        have x9 : 0 < arN (s.2.1 g) → kN s x ≤ 9999 := fun q => kle _ _ (i1 q)
        have y9 : 1 < arN (s.2.1 g) → kN s y ≤ 9999 := fun q => kle _ _ (j1 q)
        have z9 : 2 < arN (s.2.1 g) → kN s z ≤ 9999 := fun q => kle _ _ (k1 q)
        rw [nb]
        split <;> split <;> split <;> omega
      rw [← en] at q9 ⊢
      have n9 : n ≤ 9999 := Nat.not_lt.mp fun q => q9 (nI_lt (a := 9999) q n31)
      obtain ⟨k, f1, f2⟩ := way_le ⟨g, hg, rfl⟩ hf hx hy hz i1 j1 k1 nb n9
      rw [coV_some f1, if_neg (nI_pos (by omega)), if_neg (nI_nlt f2 (by omega))]
  · simp only [y1, if_true]
end CHEAP
