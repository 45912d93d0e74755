/-! Putting on, one part after the other. -/
theorem tl_xor (a b p : Nat) : tl (a ^^^ b) p = tl a p ^^^ tl b p := by
  simp only [tl_bit, Nat.testBit_xor]
  cases a.testBit p <;> cases b.testBit p <;> rfl
theorem tl_255 : ∀ p, p < 8 → tl 255 p = 1 := by decide
theorem tl_0 (p : Nat) : tl 0 p = 0 := by simp [tl]
def ch (a b c : Nat) : Nat := (a &&& b) ||| ((a ^^^ 255) &&& c)
theorem tl_ch {a b c p : Nat} (hp : p < 8) : tl (ch a b c) p = if tl a p = 1 then tl b p else tl c p := by
  unfold ch
  rw [tl_or, tl_and, tl_and, tl_xor, tl_255 p hp]
  rcases t01 (tl_le a p) with q | q <;> rcases t01 (tl_le b p) with r | r <;> rcases t01 (tl_le c p) with w | w <;> rw [q, r, w] <;> rfl
theorem ch_lt {a b c : Nat} (ha : a < 256) (hb : b < 256) (hc : c < 256) : ch a b c < 256 :=
  Nat.or_lt_two_pow (n := 8) (Nat.lt_of_le_of_lt Nat.and_le_left ha) (Nat.lt_of_le_of_lt Nat.and_le_right hc)
def spN (f j : Nat) : Nat := if tl f j = 1 then 255 else 0
theorem sp_lt (f j : Nat) : spN f j < 256 := by unfold spN; by_cases h : tl f j = 1 <;> simp [h]
theorem tl_sp {f j p : Nat} (hp : p < 8) : tl (spN f j) p = tl f j := by
  unfold spN
  rcases t01 (tl_le f j) with q | q
  · rw [if_neg (by omega), tl_0, q]
  · rw [if_pos q, tl_255 p hp, q]
def csN (f x i : Nat) : Nat := ch x (spN f (4 + i)) (spN f i)
theorem cs_lt {f x i : Nat} (hx : x < 256) : csN f x i < 256 := ch_lt hx (sp_lt _ _) (sp_lt _ _)
theorem tl_cs {f x i p : Nat} (hp : p < 8) : tl (csN f x i) p = tl f (4 * tl x p + i) := by
  unfold csN
  rw [tl_ch hp, tl_sp hp, tl_sp hp]
  rcases t01 (tl_le x p) with q | q
  · rw [if_neg (by omega), q, Nat.mul_zero, Nat.zero_add]
  · rw [if_pos q, q]
def loN (f x y : Nat) : Nat := ch y (csN f x 2) (csN f x 0)
def hiN (f x y : Nat) : Nat := ch y (csN f x 3) (csN f x 1)
def tuN (f x y : Nat) : Nat := loN f x y ^^^ hiN f x y
theorem lo_lt {f x y : Nat} (hx : x < 256) (hy : y < 256) : loN f x y < 256 := ch_lt hy (cs_lt hx) (cs_lt hx)
theorem hi_lt {f x y : Nat} (hx : x < 256) (hy : y < 256) : hiN f x y < 256 := ch_lt hy (cs_lt hx) (cs_lt hx)
theorem tu_lt {f x y : Nat} (hx : x < 256) (hy : y < 256) : tuN f x y < 256 := Nat.xor_lt_two_pow (n := 8) (lo_lt hx hy) (hi_lt hx hy)
theorem tl_lo {f x y p : Nat} (hp : p < 8) : tl (loN f x y) p = tl f (4 * tl x p + 2 * tl y p) := by
  unfold loN
  rw [tl_ch hp, tl_cs hp, tl_cs hp]
  rcases t01 (tl_le y p) with q | q
  · rw [if_neg (by omega), q]
  · rw [if_pos q, q]
theorem tl_hi {f x y p : Nat} (hp : p < 8) : tl (hiN f x y) p = tl f (4 * tl x p + 2 * tl y p + 1) := by
  unfold hiN
  rw [tl_ch hp, tl_cs hp, tl_cs hp]
  rcases t01 (tl_le y p) with q | q
  · rw [if_neg (by omega), q]
  · rw [if_pos q, q]
theorem third_eq {f x y z : Nat} (hx : x < 256) (hy : y < 256) : (loN f x y ^^^ (tuN f x y &&& z)) &&& 255 = pN f x y z := by
  refine tl_ext (n := 8) (Nat.lt_of_le_of_lt Nat.and_le_right (by decide)) (pN_lt f x y z) fun p hp => ?_
  rw [tl_and, tl_xor, tl_and, tl_255 p hp, tl_pN hp]
  unfold tuN
  rw [tl_xor, tl_lo hp, tl_hi hp]
  rcases t01 (tl_le z p) with q | q <;> rw [q] <;> rcases t01 (tl_le f (4 * tl x p + 2 * tl y p)) with r | r <;> rcases t01 (tl_le f (4 * tl x p + 2 * tl y p + 1)) with w | w <;> simp [r, w]
def cbN (f x y c : Nat) : Bool := Nat.beq ((c ^^^ loN f x y) &&& (tuN f x y ^^^ 255)) 0
theorem cb_of {f x y z : Nat} (hx : x < 256) (hy : y < 256) : cbN f x y (pN f x y z) = true := by
  refine beq_e (tl_ext (n := 8) (Nat.lt_of_le_of_lt Nat.and_le_right (Nat.xor_lt_two_pow (n := 8) (tu_lt hx hy) (by decide))) (by decide) fun p hp => ?_)
  rw [tl_and, tl_xor, tl_xor, tl_255 p hp, tl_pN hp, tl_0]
  unfold tuN
  rw [tl_xor, tl_lo hp, tl_hi hp]
  rcases t01 (tl_le z p) with q | q <;> rw [q] <;> rcases t01 (tl_le f (4 * tl x p + 2 * tl y p)) with r | r <;> rcases t01 (tl_le f (4 * tl x p + 2 * tl y p + 1)) with w | w <;> simp [r, w]
def soN (f x : Nat) : Nat → Nat
  | 0 => 0
  | i + 1 => soN f x i ||| csN f x i
def alN (f x : Nat) : Nat → Nat
  | 0 => 255
  | i + 1 => alN f x i &&& csN f x i
theorem so_lt {f x : Nat} (hx : x < 256) : ∀ i, soN f x i < 256
  | 0 => by rw [soN]; omega
  | i + 1 => Nat.or_lt_two_pow (n := 8) (so_lt hx i) (cs_lt hx)
theorem al_lt {f x : Nat} : ∀ i, alN f x i < 256
  | 0 => by rw [alN]; omega
  | i + 1 => Nat.lt_of_le_of_lt Nat.and_le_left (al_lt i)
def mbN (f x c : Nat) : Bool := Nat.beq (c &&& (soN f x 4 ^^^ 255)) 0 && Nat.beq (alN f x 4 &&& (c ^^^ 255)) 0
theorem mb4 {a b c d e : Nat} (ha : a < 2) (hb : b < 2) (hc : c < 2) (hd : d < 2) (h : e = a ∨ e = b ∨ e = c ∨ e = d) : e &&& (((((0 ||| a) ||| b) ||| c) ||| d) ^^^ 1) = 0 ∧ ((((1 &&& a) &&& b) &&& c) &&& d) &&& (e ^^^ 1) = 0 := by
  rcases t01 ha with rfl | rfl <;> rcases t01 hb with rfl | rfl <;> rcases t01 hc with rfl | rfl <;> rcases t01 hd with rfl | rfl <;> rcases h with rfl | rfl | rfl | rfl <;> exact ⟨rfl, rfl⟩
theorem mb_of {f x y z : Nat} (hx : x < 256) : mbN f x (pN f x y z) = true := by
  have key : ∀ p, p < 8 → tl (pN f x y z) p &&& (tl (soN f x 4) p ^^^ 1) = 0 ∧ tl (alN f x 4) p &&& (tl (pN f x y z) p ^^^ 1) = 0 := by
    intro p hp
    have hs : tl (soN f x 4) p = (((0 ||| tl (csN f x 0) p) ||| tl (csN f x 1) p) ||| tl (csN f x 2) p) ||| tl (csN f x 3) p := by
      simp only [soN, tl_or, tl_0]
    have ha : tl (alN f x 4) p = (((1 &&& tl (csN f x 0) p) &&& tl (csN f x 1) p) &&& tl (csN f x 2) p) &&& tl (csN f x 3) p := by
      simp only [alN, tl_and, tl_255 p hp]
    rw [hs, ha]
    refine mb4 (tl_le _ _) (tl_le _ _) (tl_le _ _) (tl_le _ _) ?_
    rw [tl_pN hp, tl_cs hp, tl_cs hp, tl_cs hp, tl_cs hp]
    rcases t01 (tl_le y p) with q | q <;> rcases t01 (tl_le z p) with r | r <;> rw [q, r] <;> simp
  unfold mbN
  rw [Bool.and_eq_true]
  constructor
  · refine beq_e (tl_ext (n := 8) (Nat.lt_of_le_of_lt Nat.and_le_left (pN_lt f x y z)) (by decide) fun p hp => ?_)
    rw [tl_and, tl_xor, tl_255 p hp, tl_0]
    exact (key p hp).1
  · refine beq_e (tl_ext (n := 8) (Nat.lt_of_le_of_lt Nat.and_le_left (al_lt 4)) (by decide) fun p hp => ?_)
    rw [tl_and, tl_xor, tl_255 p hp, tl_0]
    exact (key p hp).2
theorem beq_ne {a b : Nat} (h : ¬ a = b) : Nat.beq a b = false := by
  cases q : Nat.beq a b with
  | false => rfl
  | true => exact absurd (Nat.eq_of_beq_eq_true q) h
theorem choose_at {a b c : Nat} (hc : c < 256) : Jpu_choose (nI a) (nI b) (nI c) = some (nI (ch a b c)) := by
  show some ((nI a &&& nI b) ||| ((nI a ^^^ (-nI 1)) &&& nI c)) = _
  rw [Int32.and_comm (nI a ^^^ (-nI 1)), nI_not (n := 8) hc (by decide), nI_and, nI_or]
  unfold ch
  rw [Nat.and_comm c]
theorem hg_at (f v : Nat) (hv : v < 3) (hf : f < 256) : (nI (hgN f) >>> (nI v &&& 31) : Int32) &&& nI 1 = nI (tl (hgN f) v) := by
  have := (ta_at hf).2.1
  rw [nI_shr (by omega) (by omega), nI_and]
  rfl
def hg (f v : Nat) : Bool := Nat.beq (tl (hgN f) v) 1

/-- the function is begun -/
def PU (f : Nat) (h : Hp) : Prop := h 18 0 = nI f ∧ h 18 1 = nI (hgN f) ∧ h 18 2 = nI (arN f)
def PU1 (f x : Nat) (h : Hp) : Prop := ∀ i, i < 4 → h 19 i = nI (csN f x i)
def PU2 (f x y : Nat) (h : Hp) : Prop := h 18 4 = nI (loN f x y) ∧ h 18 5 = nI (tuN f x y)
theorem begin_at {f : Nat} (hf : f < 256) (h : Hp) : ∃ h', Jpu_begin (nI f) h = some h' ∧ PU f h' ∧ ∀ p k, p ≠ 18 → h' p k = h p k := by
  obtain ⟨e1, -, e2, -⟩ := pu_at hf
  refine ⟨hset (hset (hset h 18 0 (nI f)) 18 1 (nI (hgN f))) 18 2 (nI (arN f)), ?_, ?_, fun p k hp => ?_⟩
  · simp (disch := omega) only [Jpu_begin, e1, e2, bd_some, lt_of', sm_l, sm_r, lit, lN_n, hset_if, nI_ltP, nI_eqI, nI_add, nI_sub, nI_clamp, ib_nI, cond_true, if_pos, if_neg, and_self, and_true, true_and, false_and, and_false, ↓reduceIte, eq_self, nI_m1]
  · unfold PU
    simp [hset_if]
  · simp [hset_if, hp]
theorem hangs_at {f v : Nat} (hf : f < 256) (hv : v < 3) {h : Hp} (H : PU f h) : Jpu_hangsOn (nI v) h = some (nI (if hg f v = true then 1 else 0)) := by
  unfold Jpu_hangsOn
  rw [H.2.1, lit 1, hg_at f v hv hf]
  unfold hg
  rcases t01 (tl_le (hgN f) v) with q | q <;> rw [q] <;> rfl
theorem spread_at {f j : Nat} (hf : f < 256) (hj : j < 8) {h : Hp} (H : PU f h) : Jpu_spread (nI j) h = some (nI (spN f j)) := by
  unfold Jpu_spread spN
  rw [H.1]
  refine (bd_of (Jco_tells_at (by omega) hj)).trans ?_
  rcases t01 (tl_le f j) with q | q <;> rw [q] <;> rfl
theorem first_at {f x : Nat} (hf : f < 256) (hx : x < 256) {h : Hp} (H : PU f h) : ∃ h', Jpu_first (nI x) h = some h' ∧ PU1 f x h' ∧ ∀ p k, p ≠ 19 → h' p k = h p k := by
  obtain ⟨r, e1, e2, e3⟩ := loop_cnt (fun s => Jpu_first_L2 (nI x) s.1 s.2) (fun i s => s.1 = nI i ∧ (∀ j, j < i → s.2 19 j = nI (csN f x j)) ∧ ∀ p k, p ≠ 19 → s.2 p k = h p k) (fun r => (∀ j, j < 4 → r.2 19 j = nI (csN f x j)) ∧ ∀ p k, p ≠ 19 → r.2 p k = h p k) 4 (fun i s hi hs => by
    obtain ⟨i', hh⟩ := s
    obtain ⟨rfl, g1, g2⟩ := hs
    have H' : PU f hh := ⟨(g2 _ _ (by decide)).trans H.1, (g2 _ _ (by decide)).trans H.2.1, (g2 _ _ (by decide)).trans H.2.2⟩
    have a1 := spread_at hf (show 4 + i < 8 by omega) H'
    have a2 := spread_at hf (show i < 8 by omega) H'
    have a3 := choose_at (a := x) (b := spN f (4 + i)) (sp_lt f i)
    refine Or.inl ⟨(nI (i + 1), hset hh 19 i (nI (csN f x i))), ?_, rfl, fun j hj => ?_, fun p k hp => ?_⟩
    · simp (disch := omega) only [Jpu_first_L2, a1, a2, a3, bd_some, lt_of', sm_l, sm_r, lit, lN_n, hset_if, nI_ltP, nI_eqI, nI_add, nI_sub, nI_clamp, ib_nI, cond_true, if_pos, if_neg, and_self, and_true, true_and, false_and, and_false, ↓reduceIte, eq_self, nI_m1]
      rfl
    · show hset hh 19 i (nI (csN f x i)) 19 j = _
      rw [hset_if]
      by_cases q : j = i
      · subst q; simp
      · rw [if_neg (by simp [q])]
        exact g1 j (by omega)
    · show hset hh 19 i (nI (csN f x i)) p k = _
      rw [hset_if, if_neg (by simp [hp])]
      exact g2 p k hp) (fun s hs => by
    obtain ⟨i', hh⟩ := s
    obtain ⟨rfl, g1, g2⟩ := hs
    exact ⟨(nI 4, hh), by simp (disch := omega) only [Jpu_first_L2, bd_some, lt_of', sm_l, sm_r, lit, lN_n, hset_if, nI_ltP, nI_eqI, nI_add, nI_sub, nI_clamp, ib_nI, cond_true, if_pos, if_neg, and_self, and_true, true_and, false_and, and_false, ↓reduceIte, eq_self, nI_m1], g1, g2⟩) (F := 1000000) (by omega) (a := 0) (by omega) (s := (0, h)) ⟨rfl, fun j hj => absurd hj (by omega), fun _ _ _ => rfl⟩
  refine ⟨r.2, ?_, e2, e3⟩
  unfold Jpu_first
  exact bd_of e1
theorem may_at {f x c : Nat} (hx : x < 256) (hc : c < 256) {h : Hp} (H : PU1 f x h) : Jpu_mayBecome (nI c) h = some (nI (if mbN f x c = true then 1 else 0)) := by
  obtain ⟨r, e1, e2, e3⟩ := loop_cnt (fun s => Jpu_mayBecome_L9 (nI c) h s.1 s.2.1 s.2.2) (fun i s => s = (nI (soN f x i), nI (alN f x i), nI i)) (fun r => r.1 = nI (soN f x 4) ∧ r.2.1 = nI (alN f x 4)) 4 (fun i s hi hs => by
    subst hs
    refine Or.inl ⟨_, ?_, rfl⟩
    have g := H i hi
    simp (disch := omega) only [Jpu_mayBecome_L9, g, nI_or, nI_and, soN, alN, bd_some, lt_of', sm_l, sm_r, lit, lN_n, hset_if, nI_ltP, nI_eqI, nI_add, nI_sub, nI_clamp, ib_nI, cond_true, if_pos, if_neg, and_self, and_true, true_and, false_and, and_false, ↓reduceIte, eq_self, nI_m1]) (fun s hs => by
    subst hs
    exact ⟨(nI (soN f x 4), nI (alN f x 4), nI 4), by simp (disch := omega) only [Jpu_mayBecome_L9, bd_some, lt_of', sm_l, sm_r, lit, lN_n, hset_if, nI_ltP, nI_eqI, nI_add, nI_sub, nI_clamp, ib_nI, cond_true, if_pos, if_neg, and_self, and_true, true_and, false_and, and_false, ↓reduceIte, eq_self, nI_m1], rfl, rfl⟩) (F := 1000000) (by omega) (a := 0) (by omega) (s := (0, 255, 0)) rfl
  unfold Jpu_mayBecome
  refine (bd_of e1).trans ?_
  have h1 : (c &&& (soN f x 4 ^^^ 255)) < 256 := Nat.lt_of_le_of_lt Nat.and_le_left hc
  have h2 : (alN f x 4 &&& (c ^^^ 255)) < 256 := Nat.lt_of_le_of_lt Nat.and_le_left (al_lt 4)
  rw [e2, e3, show (-1 : Int32) = -nI 1 from rfl, nI_not (n := 8) hc (by decide), nI_not (n := 8) (al_lt 4) (by decide)]
  unfold mbN
  simp only [lit, show (2 ^ 8 - 1 : Nat) = 255 from rfl]
  by_cases q1 : c &&& (soN f x 4 ^^^ 255) = 0
  · rw [if_pos (by rw [q1]), q1, Nat.beq_refl]
    by_cases q2 : alN f x 4 &&& (c ^^^ 255) = 0
    · rw [if_pos (by rw [q2]), q2]; rfl
    · rw [if_neg (fun q => q2 ((nI_eq (by omega) (by omega)).mp q)), beq_ne q2]; rfl
  · rw [if_neg (fun q => q1 ((nI_eq (by omega) (by omega)).mp q)), beq_ne q1]; rfl
theorem second_at {f x y : Nat} (hx : x < 256) {h : Hp} (H : PU1 f x h) : ∃ h', Jpu_second (nI y) h = some h' ∧ PU2 f x y h' ∧ (∀ p k, p ≠ 18 → h' p k = h p k) ∧ ∀ k, k < 4 → h' 18 k = h 18 k := by
  have a1 := choose_at (a := y) (b := csN f x 2) (cs_lt (f := f) (i := 0) hx)
  have a2 := choose_at (a := y) (b := csN f x 3) (cs_lt (f := f) (i := 1) hx)
  refine ⟨hset (hset h 18 4 (nI (loN f x y))) 18 5 (nI (tuN f x y)), ?_, ?_, fun p k hp => ?_, fun k hk => ?_⟩
  · simp (disch := omega) only [Jpu_second, H 0 (by decide), H 1 (by decide), H 2 (by decide), H 3 (by decide), a1, a2, bd_some, lt_of', sm_l, sm_r, lit, lN_n, hset_if, nI_ltP, nI_eqI, nI_add, nI_sub, nI_clamp, ib_nI, cond_true, if_pos, if_neg, and_self, and_true, true_and, false_and, and_false, ↓reduceIte, eq_self, nI_m1]
    simp [nI_xor, tuN, hiN, loN]
  · unfold PU2
    simp [hset_if]
  · simp [hset_if, hp]
  · rw [hset_if, if_neg (by omega), hset_if, if_neg (by omega)]
theorem can_at {f x y c : Nat} (hx : x < 256) (hy : y < 256) (hc : c < 256) {h : Hp} (H : PU2 f x y h) : Jpu_canBecome (nI c) h = some (nI (if cbN f x y c = true then 1 else 0)) := by
  have h0 : c ^^^ loN f x y < 256 := Nat.xor_lt_two_pow (n := 8) hc (lo_lt hx hy)
  have h1 : ((c ^^^ loN f x y) &&& (tuN f x y ^^^ 255)) < 256 := Nat.lt_of_le_of_lt Nat.and_le_left h0
  unfold Jpu_canBecome
  rw [H.1, H.2, nI_xor, show (-1 : Int32) = -nI 1 from rfl, nI_not (n := 8) h0 (by decide)]
  unfold cbN
  simp only [lit, show (2 ^ 8 - 1 : Nat) = 255 from rfl]
  by_cases q : (c ^^^ loN f x y) &&& (tuN f x y ^^^ 255) = 0
  · rw [if_pos (by rw [q]), q]; rfl
  · rw [if_neg (fun w => q ((nI_eq (by omega) (by omega)).mp w)), beq_ne q]; rfl
theorem third_at {f x y z : Nat} (hx : x < 256) (hy : y < 256) {h : Hp} (H : PU2 f x y h) : Jpu_third (nI z) h = some (nI (pN f x y z)) := by
  unfold Jpu_third
  rw [H.1, H.2, lit 255, nI_and, nI_xor, nI_and, third_eq hx hy]

/-- the function is begun -/
def PU_1 (f : Nat) (h : Hp) : Prop := h 20 0 = nI f ∧ h 20 1 = nI (hgN f) ∧ h 20 2 = nI (arN f)
def PU1_1 (f x : Nat) (h : Hp) : Prop := ∀ i, i < 4 → h 21 i = nI (csN f x i)
def PU2_1 (f x y : Nat) (h : Hp) : Prop := h 20 4 = nI (loN f x y) ∧ h 20 5 = nI (tuN f x y)
theorem begin_at_1 {f : Nat} (hf : f < 256) (h : Hp) : ∃ h', Jpu_begin_1 (nI f) h = some h' ∧ PU_1 f h' ∧ ∀ p k, p ≠ 20 → h' p k = h p k := by
  obtain ⟨e1, -, e2, -⟩ := pu_at hf
  refine ⟨hset (hset (hset h 20 0 (nI f)) 20 1 (nI (hgN f))) 20 2 (nI (arN f)), ?_, ?_, fun p k hp => ?_⟩
  · simp (disch := omega) only [Jpu_begin_1, e1, e2, bd_some, lt_of', sm_l, sm_r, lit, lN_n, hset_if, nI_ltP, nI_eqI, nI_add, nI_sub, nI_clamp, ib_nI, cond_true, if_pos, if_neg, and_self, and_true, true_and, false_and, and_false, ↓reduceIte, eq_self, nI_m1]
  · unfold PU_1
    simp [hset_if]
  · simp [hset_if, hp]
theorem hangs_at_1 {f v : Nat} (hf : f < 256) (hv : v < 3) {h : Hp} (H : PU_1 f h) : Jpu_hangsOn_1 (nI v) h = some (nI (if hg f v = true then 1 else 0)) := by
  unfold Jpu_hangsOn_1
  rw [H.2.1, lit 1, hg_at f v hv hf]
  unfold hg
  rcases t01 (tl_le (hgN f) v) with q | q <;> rw [q] <;> rfl
theorem spread_at_1 {f j : Nat} (hf : f < 256) (hj : j < 8) {h : Hp} (H : PU_1 f h) : Jpu_spread_1 (nI j) h = some (nI (spN f j)) := by
  unfold Jpu_spread_1 spN
  rw [H.1]
  refine (bd_of (Jco_tells_at (by omega) hj)).trans ?_
  rcases t01 (tl_le f j) with q | q <;> rw [q] <;> rfl
theorem first_at_1 {f x : Nat} (hf : f < 256) (hx : x < 256) {h : Hp} (H : PU_1 f h) : ∃ h', Jpu_first_1 (nI x) h = some h' ∧ PU1_1 f x h' ∧ ∀ p k, p ≠ 21 → h' p k = h p k := by
  obtain ⟨r, e1, e2, e3⟩ := loop_cnt (fun s => Jpu_first_1_L2 (nI x) s.1 s.2) (fun i s => s.1 = nI i ∧ (∀ j, j < i → s.2 21 j = nI (csN f x j)) ∧ ∀ p k, p ≠ 21 → s.2 p k = h p k) (fun r => (∀ j, j < 4 → r.2 21 j = nI (csN f x j)) ∧ ∀ p k, p ≠ 21 → r.2 p k = h p k) 4 (fun i s hi hs => by
    obtain ⟨i', hh⟩ := s
    obtain ⟨rfl, g1, g2⟩ := hs
    have H' : PU_1 f hh := ⟨(g2 _ _ (by decide)).trans H.1, (g2 _ _ (by decide)).trans H.2.1, (g2 _ _ (by decide)).trans H.2.2⟩
    have a1 := spread_at_1 hf (show 4 + i < 8 by omega) H'
    have a2 := spread_at_1 hf (show i < 8 by omega) H'
    have a3 := choose_at (a := x) (b := spN f (4 + i)) (sp_lt f i)
    refine Or.inl ⟨(nI (i + 1), hset hh 21 i (nI (csN f x i))), ?_, rfl, fun j hj => ?_, fun p k hp => ?_⟩
    · simp (disch := omega) only [Jpu_first_1_L2, a1, a2, a3, bd_some, lt_of', sm_l, sm_r, lit, lN_n, hset_if, nI_ltP, nI_eqI, nI_add, nI_sub, nI_clamp, ib_nI, cond_true, if_pos, if_neg, and_self, and_true, true_and, false_and, and_false, ↓reduceIte, eq_self, nI_m1]
      rfl
    · show hset hh 21 i (nI (csN f x i)) 21 j = _
      rw [hset_if]
      by_cases q : j = i
      · subst q; simp
      · rw [if_neg (by simp [q])]
        exact g1 j (by omega)
    · show hset hh 21 i (nI (csN f x i)) p k = _
      rw [hset_if, if_neg (by simp [hp])]
      exact g2 p k hp) (fun s hs => by
    obtain ⟨i', hh⟩ := s
    obtain ⟨rfl, g1, g2⟩ := hs
    exact ⟨(nI 4, hh), by simp (disch := omega) only [Jpu_first_1_L2, bd_some, lt_of', sm_l, sm_r, lit, lN_n, hset_if, nI_ltP, nI_eqI, nI_add, nI_sub, nI_clamp, ib_nI, cond_true, if_pos, if_neg, and_self, and_true, true_and, false_and, and_false, ↓reduceIte, eq_self, nI_m1], g1, g2⟩) (F := 1000000) (by omega) (a := 0) (by omega) (s := (0, h)) ⟨rfl, fun j hj => absurd hj (by omega), fun _ _ _ => rfl⟩
  refine ⟨r.2, ?_, e2, e3⟩
  unfold Jpu_first_1
  exact bd_of e1
theorem may_at_1 {f x c : Nat} (hx : x < 256) (hc : c < 256) {h : Hp} (H : PU1_1 f x h) : Jpu_mayBecome_1 (nI c) h = some (nI (if mbN f x c = true then 1 else 0)) := by
  obtain ⟨r, e1, e2, e3⟩ := loop_cnt (fun s => Jpu_mayBecome_1_L9 (nI c) h s.1 s.2.1 s.2.2) (fun i s => s = (nI (soN f x i), nI (alN f x i), nI i)) (fun r => r.1 = nI (soN f x 4) ∧ r.2.1 = nI (alN f x 4)) 4 (fun i s hi hs => by
    subst hs
    refine Or.inl ⟨_, ?_, rfl⟩
    have g := H i hi
    simp (disch := omega) only [Jpu_mayBecome_1_L9, g, nI_or, nI_and, soN, alN, bd_some, lt_of', sm_l, sm_r, lit, lN_n, hset_if, nI_ltP, nI_eqI, nI_add, nI_sub, nI_clamp, ib_nI, cond_true, if_pos, if_neg, and_self, and_true, true_and, false_and, and_false, ↓reduceIte, eq_self, nI_m1]) (fun s hs => by
    subst hs
    exact ⟨(nI (soN f x 4), nI (alN f x 4), nI 4), by simp (disch := omega) only [Jpu_mayBecome_1_L9, bd_some, lt_of', sm_l, sm_r, lit, lN_n, hset_if, nI_ltP, nI_eqI, nI_add, nI_sub, nI_clamp, ib_nI, cond_true, if_pos, if_neg, and_self, and_true, true_and, false_and, and_false, ↓reduceIte, eq_self, nI_m1], rfl, rfl⟩) (F := 1000000) (by omega) (a := 0) (by omega) (s := (0, 255, 0)) rfl
  unfold Jpu_mayBecome_1
  refine (bd_of e1).trans ?_
  have h1 : (c &&& (soN f x 4 ^^^ 255)) < 256 := Nat.lt_of_le_of_lt Nat.and_le_left hc
  have h2 : (alN f x 4 &&& (c ^^^ 255)) < 256 := Nat.lt_of_le_of_lt Nat.and_le_left (al_lt 4)
  rw [e2, e3, show (-1 : Int32) = -nI 1 from rfl, nI_not (n := 8) hc (by decide), nI_not (n := 8) (al_lt 4) (by decide)]
  unfold mbN
  simp only [lit, show (2 ^ 8 - 1 : Nat) = 255 from rfl]
  by_cases q1 : c &&& (soN f x 4 ^^^ 255) = 0
  · rw [if_pos (by rw [q1]), q1, Nat.beq_refl]
    by_cases q2 : alN f x 4 &&& (c ^^^ 255) = 0
    · rw [if_pos (by rw [q2]), q2]; rfl
    · rw [if_neg (fun q => q2 ((nI_eq (by omega) (by omega)).mp q)), beq_ne q2]; rfl
  · rw [if_neg (fun q => q1 ((nI_eq (by omega) (by omega)).mp q)), beq_ne q1]; rfl
theorem second_at_1 {f x y : Nat} (hx : x < 256) {h : Hp} (H : PU1_1 f x h) : ∃ h', Jpu_second_1 (nI y) h = some h' ∧ PU2_1 f x y h' ∧ (∀ p k, p ≠ 20 → h' p k = h p k) ∧ ∀ k, k < 4 → h' 20 k = h 20 k := by
  have a1 := choose_at (a := y) (b := csN f x 2) (cs_lt (f := f) (i := 0) hx)
  have a2 := choose_at (a := y) (b := csN f x 3) (cs_lt (f := f) (i := 1) hx)
  refine ⟨hset (hset h 20 4 (nI (loN f x y))) 20 5 (nI (tuN f x y)), ?_, ?_, fun p k hp => ?_, fun k hk => ?_⟩
  · simp (disch := omega) only [Jpu_second_1, H 0 (by decide), H 1 (by decide), H 2 (by decide), H 3 (by decide), a1, a2, bd_some, lt_of', sm_l, sm_r, lit, lN_n, hset_if, nI_ltP, nI_eqI, nI_add, nI_sub, nI_clamp, ib_nI, cond_true, if_pos, if_neg, and_self, and_true, true_and, false_and, and_false, ↓reduceIte, eq_self, nI_m1]
    simp [nI_xor, tuN, hiN, loN]
  · unfold PU2_1
    simp [hset_if]
  · simp [hset_if, hp]
  · rw [hset_if, if_neg (by omega), hset_if, if_neg (by omega)]
theorem can_at_1 {f x y c : Nat} (hx : x < 256) (hy : y < 256) (hc : c < 256) {h : Hp} (H : PU2_1 f x y h) : Jpu_canBecome_1 (nI c) h = some (nI (if cbN f x y c = true then 1 else 0)) := by
  have h0 : c ^^^ loN f x y < 256 := Nat.xor_lt_two_pow (n := 8) hc (lo_lt hx hy)
  have h1 : ((c ^^^ loN f x y) &&& (tuN f x y ^^^ 255)) < 256 := Nat.lt_of_le_of_lt Nat.and_le_left h0
  unfold Jpu_canBecome_1
  rw [H.1, H.2, nI_xor, show (-1 : Int32) = -nI 1 from rfl, nI_not (n := 8) h0 (by decide)]
  unfold cbN
  simp only [lit, show (2 ^ 8 - 1 : Nat) = 255 from rfl]
  by_cases q : (c ^^^ loN f x y) &&& (tuN f x y ^^^ 255) = 0
  · rw [if_pos (by rw [q]), q]; rfl
  · rw [if_neg (fun w => q ((nI_eq (by omega) (by omega)).mp w)), beq_ne q]; rfl
theorem third_at_1 {f x y z : Nat} (hx : x < 256) (hy : y < 256) {h : Hp} (H : PU2_1 f x y h) : Jpu_third_1 (nI z) h = some (nI (pN f x y z)) := by
  unfold Jpu_third_1
  rw [H.1, H.2, lit 255, nI_and, nI_xor, nI_and, third_eq hx hy]

