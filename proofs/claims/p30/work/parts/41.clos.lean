/-! The traits are kept by putting on. -/
def al8 (f : Nat → Bool) : Bool := (List.range 8).all f
def hasB (c : Nat) : Nat → Bool
  | 0 => Nat.beq (tl c 0) 0
  | 1 => Nat.beq (tl c 7) 1
  | 2 => al8 fun p => al8 fun q => !(Nat.beq (p &&& q) p) || Nat.ble (tl c p) (tl c q)
  | 3 => al8 fun p => Nat.beq (tl c p + tl c (7 - p)) 1
  | 4 => al8 fun p => al8 fun q => Nat.beq (tl c (p ^^^ q)) (tl c p ^^^ tl c q ^^^ tl c 0)
  | 5 => al8 fun p => al8 fun q => Nat.beq (tl c (p &&& q)) (tl c p &&& tl c q)
  | 6 => al8 fun p => al8 fun q => Nat.beq (tl c (p ||| q)) (tl c p ||| tl c q)
  | 7 => [0, 255, 240, 15, 204, 51, 170, 85].contains c
  | 8 => al8 fun p => al8 fun q => !(Nat.beq (p &&& q) 0) || Nat.ble (tl c p + tl c q) 1
  | 9 => al8 fun p => al8 fun q => al8 fun r => !(Nat.beq (p &&& q &&& r) 0) || Nat.ble (tl c p + tl c q + tl c r) 2
  | 10 => al8 fun p => al8 fun q => !(Nat.beq (p ||| q) 7) || Nat.ble 1 (tl c p + tl c q)
  | 11 => al8 fun p => al8 fun q => al8 fun r => !(Nat.beq (p ||| q ||| r) 7) || Nat.ble 1 (tl c p + tl c q + tl c r)
  | _ => false
def hasC (c : Nat) : Bool := (List.range 12).all fun t => (trN c).testBit t == hasB c t
theorem hasC_ok : ((List.range 256).all hasC) = true := by decide +kernel
theorem hasB_at {c t : Nat} (hc : c < 256) (ht : t < 12) : (trN c).testBit t = hasB c t := by
  have h := al (al hasC_ok hc) ht
  simpa only [beq_iff_eq] using h
theorem al8_at {f : Nat → Bool} (h : al8 f = true) {p : Nat} (hp : p < 8) : f p = true := al h hp
theorem al8_of {f : Nat → Bool} (h : ∀ p, p < 8 → f p = true) : al8 f = true := List.all_eq_true.mpr fun p hp => h p (List.mem_range.mp hp)
def ix3 (x y z p : Nat) : Nat := 4 * tl x p + 2 * tl y p + tl z p
theorem ix3_lt (x y z p : Nat) : ix3 x y z p < 8 := idx_lt (tl_le _ _) (tl_le _ _) (tl_le _ _)
def B2 (P : Nat → Nat → Bool) : Bool := (List.range 2).all fun a => (List.range 2).all fun b => P a b
def k2 : Bool := (List.range 2).all fun a => (List.range 2).all fun a' => (List.range 2).all fun b => (List.range 2).all fun b' => (List.range 2).all fun c => (List.range 2).all fun c' =>
  let i := 4 * a + 2 * b + c
  let j := 4 * a' + 2 * b' + c'
  (!(Nat.ble a a' && Nat.ble b b' && Nat.ble c c') || Nat.beq (i &&& j) i) &&
  Nat.beq (i ^^^ j) (4 * (a ^^^ a') + 2 * (b ^^^ b') + (c ^^^ c')) &&
  Nat.beq (i &&& j) (4 * (a &&& a') + 2 * (b &&& b') + (c &&& c')) &&
  Nat.beq (i ||| j) (4 * (a ||| a') + 2 * (b ||| b') + (c ||| c')) &&
  (!(Nat.beq (a + a') 1 && Nat.beq (b + b') 1 && Nat.beq (c + c') 1) || Nat.beq j (7 - i)) &&
  (!(Nat.ble (a + a') 1 && Nat.ble (b + b') 1 && Nat.ble (c + c') 1) || Nat.beq (i &&& j) 0) &&
  (!(Nat.ble 1 (a + a') && Nat.ble 1 (b + b') && Nat.ble 1 (c + c')) || Nat.beq (i ||| j) 7)
theorem k2_ok : k2 = true := by decide +kernel
theorem k2_at {a a' b b' c c' : Nat} (ha : a < 2) (ha' : a' < 2) (hb : b < 2) (hb' : b' < 2) (hc : c < 2) (hc' : c' < 2) : (a ≤ a' → b ≤ b' → c ≤ c' → (4 * a + 2 * b + c) &&& (4 * a' + 2 * b' + c') = 4 * a + 2 * b + c) ∧ (4 * a + 2 * b + c) ^^^ (4 * a' + 2 * b' + c') = 4 * (a ^^^ a') + 2 * (b ^^^ b') + (c ^^^ c') ∧ (4 * a + 2 * b + c) &&& (4 * a' + 2 * b' + c') = 4 * (a &&& a') + 2 * (b &&& b') + (c &&& c') ∧ (4 * a + 2 * b + c) ||| (4 * a' + 2 * b' + c') = 4 * (a ||| a') + 2 * (b ||| b') + (c ||| c') ∧ (a + a' = 1 → b + b' = 1 → c + c' = 1 → 4 * a' + 2 * b' + c' = 7 - (4 * a + 2 * b + c)) ∧ (a + a' ≤ 1 → b + b' ≤ 1 → c + c' ≤ 1 → (4 * a + 2 * b + c) &&& (4 * a' + 2 * b' + c') = 0) ∧ (1 ≤ a + a' → 1 ≤ b + b' → 1 ≤ c + c' → (4 * a + 2 * b + c) ||| (4 * a' + 2 * b' + c') = 7) := by
  have h := al (al (al (al (al (al k2_ok ha) ha') hb) hb') hc) hc'
  simp only [Bool.and_eq_true, Bool.or_eq_true, Bool.not_eq_true', Bool.and_eq_false_iff] at h
  obtain ⟨⟨⟨⟨⟨⟨h1, h2⟩, h3⟩, h4⟩, h5⟩, h6⟩, h7⟩ := h
  have nb : ∀ {i j : Nat}, Nat.ble i j = false → i ≤ j → False := fun h1 h2 => by rw [Nat.ble_eq_true_of_le h2] at h1; cases h1
  have ne : ∀ {i j : Nat}, Nat.beq i j = false → i = j → False := fun h1 h2 => by rw [h2, Nat.beq_refl] at h1; cases h1
  refine ⟨fun g1 g2 g3 => ?_, Nat.eq_of_beq_eq_true h2, Nat.eq_of_beq_eq_true h3, Nat.eq_of_beq_eq_true h4, fun g1 g2 g3 => ?_, fun g1 g2 g3 => ?_, fun g1 g2 g3 => ?_⟩
  · rcases h1 with ((h | h) | h) | h
    · exact (nb h g1).elim
    · exact (nb h g2).elim
    · exact (nb h g3).elim
    · exact Nat.eq_of_beq_eq_true h
  · rcases h5 with ((h | h) | h) | h
    · exact (ne h g1).elim
    · exact (ne h g2).elim
    · exact (ne h g3).elim
    · exact Nat.eq_of_beq_eq_true h
  · rcases h6 with ((h | h) | h) | h
    · exact (nb h g1).elim
    · exact (nb h g2).elim
    · exact (nb h g3).elim
    · exact Nat.eq_of_beq_eq_true h
  · rcases h7 with ((h | h) | h) | h
    · exact (nb h g1).elim
    · exact (nb h g2).elim
    · exact (nb h g3).elim
    · exact Nat.eq_of_beq_eq_true h
theorem t01 {a : Nat} (h : a < 2) : a = 0 ∨ a = 1 := by omega
def c7l : List Nat := [0, 255, 240, 15, 204, 51, 170, 85]
theorem c7_ok : (c7l.all fun f => c7l.all fun x => c7l.all fun y => c7l.all fun z => c7l.contains (pN f x y z)) = true := by decide +kernel
theorem or_b {a b : Bool} (h : (!a || b) = true) (ha : a = true) : b = true := by rw [ha] at h; exact h
theorem or_m {a b : Bool} (h : a = true → b = true) : (!a || b) = true := by
  cases a with
  | false => rfl
  | true => exact h rfl
theorem beq_e {a b : Nat} (h : a = b) : Nat.beq a b = true := by rw [h]; exact Nat.beq_refl b
theorem ble_e {a b : Nat} (h : a ≤ b) : Nat.ble a b = true := Nat.ble_eq_true_of_le h
theorem xor_lt8 {p q : Nat} (hp : p < 8) (hq : q < 8) : p ^^^ q < 8 := Nat.xor_lt_two_pow (n := 3) hp hq
theorem and_lt8 {p q : Nat} (hp : p < 8) : p &&& q < 8 := Nat.lt_of_le_of_lt Nat.and_le_left hp
theorem or_lt8 {p q : Nat} (hp : p < 8) (hq : q < 8) : p ||| q < 8 := Nat.or_lt_two_pow (n := 3) hp hq
theorem tl_p {f x y z p : Nat} (hp : p < 8) : tl (pN f x y z) p = tl f (ix3 x y z p) := tl_pN hp
theorem ix0_of {x y z p : Nat} (a : tl x p = 0) (b : tl y p = 0) (c : tl z p = 0) : ix3 x y z p = 0 := by simp [ix3, a, b, c]
theorem ix7_of {x y z p : Nat} (a : tl x p = 1) (b : tl y p = 1) (c : tl z p = 1) : ix3 x y z p = 7 := by simp [ix3, a, b, c]
set_option maxHeartbeats 4000000 in
theorem closed {f x y z t : Nat} (ht : t < 12) (hf : hasB f t = true) (hx : hasB x t = true) (hy : hasB y t = true) (hz : hasB z t = true) : hasB (pN f x y z) t = true := by
  have K := fun p q => k2_at (tl_le x p) (tl_le x q) (tl_le y p) (tl_le y q) (tl_le z p) (tl_le z q)
  have E : ∀ {a b : Nat}, Nat.beq a b = true → a = b := fun h => Nat.eq_of_beq_eq_true h
  have L : ∀ {a b : Nat}, Nat.ble a b = true → a ≤ b := fun h => Nat.le_of_ble_eq_true h
  match t, ht with
  | 0, _ =>
    simp only [hasB] at hf hx hy hz ⊢
    rw [tl_p (by decide), ix0_of (E hx) (E hy) (E hz)]
    exact hf
  | 1, _ =>
    simp only [hasB] at hf hx hy hz ⊢
    rw [tl_p (by decide), ix7_of (E hx) (E hy) (E hz)]
    exact hf
  | 2, _ =>
    simp only [hasB] at hf hx hy hz ⊢
    refine al8_of fun p hp => al8_of fun q hq => or_m fun h => ?_
    have gx := L (or_b (al8_at (al8_at hx hp) hq) h)
    have gy := L (or_b (al8_at (al8_at hy hp) hq) h)
    have gz := L (or_b (al8_at (al8_at hz hp) hq) h)
    rw [tl_p hp, tl_p hq]
    exact or_b (al8_at (al8_at hf (ix3_lt x y z p)) (ix3_lt x y z q)) (beq_e ((K p q).1 gx gy gz))
  | 3, _ =>
    simp only [hasB] at hf hx hy hz ⊢
    refine al8_of fun p hp => ?_
    have h7 : 7 - p < 8 := by omega
    have gx := E (al8_at hx hp)
    have gy := E (al8_at hy hp)
    have gz := E (al8_at hz hp)
    rw [tl_p hp, tl_p h7]
    have e7 : ix3 x y z (7 - p) = 7 - ix3 x y z p := (K p (7 - p)).2.2.2.2.1 gx gy gz
    rw [e7]
    exact al8_at hf (ix3_lt x y z p)
  | 4, _ =>
    simp only [hasB] at hf hx hy hz ⊢
    refine al8_of fun p hp => al8_of fun q hq => ?_
    have gx := E (al8_at (al8_at hx hp) hq)
    have gy := E (al8_at (al8_at hy hp) hq)
    have gz := E (al8_at (al8_at hz hp) hq)
    rw [tl_p hp, tl_p hq, tl_p (xor_lt8 hp hq), tl_p (by decide : (0 : Nat) < 8)]
    have e1 : ix3 x y z (p ^^^ q) = (ix3 x y z p ^^^ ix3 x y z q) ^^^ ix3 x y z 0 := by
      unfold ix3
      rw [gx, gy, gz, (K p q).2.1, (k2_at (a := tl x p ^^^ tl x q) (b := tl y p ^^^ tl y q) (c := tl z p ^^^ tl z q) (Nat.xor_lt_two_pow (n := 1) (tl_le _ _) (tl_le _ _)) (tl_le x 0) (Nat.xor_lt_two_pow (n := 1) (tl_le _ _) (tl_le _ _)) (tl_le y 0) (Nat.xor_lt_two_pow (n := 1) (tl_le _ _) (tl_le _ _)) (tl_le z 0)).2.1]
    have f1 := E (al8_at (al8_at hf (xor_lt8 (ix3_lt x y z p) (ix3_lt x y z q))) (ix3_lt x y z 0))
    have f2 := E (al8_at (al8_at hf (ix3_lt x y z p)) (ix3_lt x y z q))
    rw [e1, f1, f2]
    refine beq_e ?_
    rcases t01 (tl_le f (ix3 x y z p)) with a | a <;> rcases t01 (tl_le f (ix3 x y z q)) with b | b <;> rcases t01 (tl_le f (ix3 x y z 0)) with c | c <;> rcases t01 (tl_le f 0) with d | d <;> rw [a, b, c, d] <;> rfl
  | 5, _ =>
    simp only [hasB] at hf hx hy hz ⊢
    refine al8_of fun p hp => al8_of fun q hq => ?_
    have gx := E (al8_at (al8_at hx hp) hq)
    have gy := E (al8_at (al8_at hy hp) hq)
    have gz := E (al8_at (al8_at hz hp) hq)
    rw [tl_p hp, tl_p hq, tl_p (and_lt8 hp)]
    have e1 : ix3 x y z (p &&& q) = ix3 x y z p &&& ix3 x y z q := by
      unfold ix3
      rw [gx, gy, gz, (K p q).2.2.1]
    rw [e1]
    exact al8_at (al8_at hf (ix3_lt x y z p)) (ix3_lt x y z q)
  | 6, _ =>
    simp only [hasB] at hf hx hy hz ⊢
    refine al8_of fun p hp => al8_of fun q hq => ?_
    have gx := E (al8_at (al8_at hx hp) hq)
    have gy := E (al8_at (al8_at hy hp) hq)
    have gz := E (al8_at (al8_at hz hp) hq)
    rw [tl_p hp, tl_p hq, tl_p (or_lt8 hp hq)]
    have e1 : ix3 x y z (p ||| q) = ix3 x y z p ||| ix3 x y z q := by
      unfold ix3
      rw [gx, gy, gz, (K p q).2.2.2.1]
    rw [e1]
    exact al8_at (al8_at hf (ix3_lt x y z p)) (ix3_lt x y z q)
  | 7, _ =>
    have h := List.all_eq_true.mp (List.all_eq_true.mp (List.all_eq_true.mp (List.all_eq_true.mp c7_ok f (List.contains_iff_mem.mp hf)) x (List.contains_iff_mem.mp hx)) y (List.contains_iff_mem.mp hy)) z (List.contains_iff_mem.mp hz)
    exact h
  | 8, _ =>
    simp only [hasB] at hf hx hy hz ⊢
    refine al8_of fun p hp => al8_of fun q hq => or_m fun h => ?_
    have gx := L (or_b (al8_at (al8_at hx hp) hq) h)
    have gy := L (or_b (al8_at (al8_at hy hp) hq) h)
    have gz := L (or_b (al8_at (al8_at hz hp) hq) h)
    rw [tl_p hp, tl_p hq]
    exact or_b (al8_at (al8_at hf (ix3_lt x y z p)) (ix3_lt x y z q)) (beq_e ((K p q).2.2.2.2.2.1 gx gy gz))
  | 10, _ =>
    simp only [hasB] at hf hx hy hz ⊢
    refine al8_of fun p hp => al8_of fun q hq => or_m fun h => ?_
    have gx := L (or_b (al8_at (al8_at hx hp) hq) h)
    have gy := L (or_b (al8_at (al8_at hy hp) hq) h)
    have gz := L (or_b (al8_at (al8_at hz hp) hq) h)
    rw [tl_p hp, tl_p hq]
    exact or_b (al8_at (al8_at hf (ix3_lt x y z p)) (ix3_lt x y z q)) (beq_e ((K p q).2.2.2.2.2.2 gx gy gz))
  | 9, _ =>
    simp only [hasB] at hf hx hy hz ⊢
    refine al8_of fun p hp => al8_of fun q hq => al8_of fun r hr => or_m fun h => ?_
    have gx := L (or_b (al8_at (al8_at (al8_at hx hp) hq) hr) h)
    have gy := L (or_b (al8_at (al8_at (al8_at hy hp) hq) hr) h)
    have gz := L (or_b (al8_at (al8_at (al8_at hz hp) hq) hr) h)
    rw [tl_p hp, tl_p hq, tl_p hr]
    refine or_b (al8_at (al8_at (al8_at hf (ix3_lt x y z p)) (ix3_lt x y z q)) (ix3_lt x y z r)) (beq_e ?_)
    have k1 := (K p q).2.2.1
    unfold ix3
    rw [k1, (k2_at (a := tl x p &&& tl x q) (b := tl y p &&& tl y q) (c := tl z p &&& tl z q) (Nat.lt_of_le_of_lt Nat.and_le_left (tl_le _ _)) (tl_le x r) (Nat.lt_of_le_of_lt Nat.and_le_left (tl_le _ _)) (tl_le y r) (Nat.lt_of_le_of_lt Nat.and_le_left (tl_le _ _)) (tl_le z r)).2.2.1]
    have a3 : ∀ a b c : Nat, a < 2 → b < 2 → c < 2 → a + b + c ≤ 2 → a &&& b &&& c = 0 := by
      intro a b c ha hb hc h
      rcases t01 ha with rfl | rfl <;> rcases t01 hb with rfl | rfl <;> rcases t01 hc with rfl | rfl <;> first | rfl | omega
    rw [a3 _ _ _ (tl_le _ _) (tl_le _ _) (tl_le _ _) gx, a3 _ _ _ (tl_le _ _) (tl_le _ _) (tl_le _ _) gy, a3 _ _ _ (tl_le _ _) (tl_le _ _) (tl_le _ _) gz]
  | 11, _ =>
    simp only [hasB] at hf hx hy hz ⊢
    refine al8_of fun p hp => al8_of fun q hq => al8_of fun r hr => or_m fun h => ?_
    have gx := L (or_b (al8_at (al8_at (al8_at hx hp) hq) hr) h)
    have gy := L (or_b (al8_at (al8_at (al8_at hy hp) hq) hr) h)
    have gz := L (or_b (al8_at (al8_at (al8_at hz hp) hq) hr) h)
    rw [tl_p hp, tl_p hq, tl_p hr]
    refine or_b (al8_at (al8_at (al8_at hf (ix3_lt x y z p)) (ix3_lt x y z q)) (ix3_lt x y z r)) (beq_e ?_)
    have k1 := (K p q).2.2.2.1
    unfold ix3
    rw [k1, (k2_at (a := tl x p ||| tl x q) (b := tl y p ||| tl y q) (c := tl z p ||| tl z q) (Nat.or_lt_two_pow (n := 1) (tl_le _ _) (tl_le _ _)) (tl_le x r) (Nat.or_lt_two_pow (n := 1) (tl_le _ _) (tl_le _ _)) (tl_le y r) (Nat.or_lt_two_pow (n := 1) (tl_le _ _) (tl_le _ _)) (tl_le z r)).2.2.2.1]
    have a3 : ∀ a b c : Nat, a < 2 → b < 2 → c < 2 → 1 ≤ a + b + c → a ||| b ||| c = 1 := by
      intro a b c ha hb hc h
      rcases t01 ha with rfl | rfl <;> rcases t01 hb with rfl | rfl <;> rcases t01 hc with rfl | rfl <;> first | rfl | omega
    rw [a3 _ _ _ (tl_le _ _) (tl_le _ _) (tl_le _ _) gx, a3 _ _ _ (tl_le _ _) (tl_le _ _) (tl_le _ _) gy, a3 _ _ _ (tl_le _ _) (tl_le _ _) (tl_le _ _) gz]
theorem inT_bits {S c : Nat} : inT S c = true ↔ ∀ t, S.testBit t = true → (trN c).testBit t = true := by
  constructor
  · intro h t ht
    have := congrArg (fun n => n.testBit t) (inT_e h)
    simp only [Nat.testBit_and, ht, Bool.and_true] at this
    exact this
  · intro h
    refine beq_e (Nat.eq_of_testBit_eq fun t => ?_)
    rw [Nat.testBit_and]
    cases q : S.testBit t with
    | false => simp
    | true => rw [h t q]; rfl
/-- the functions of a place are closed -/
theorem inT_closed {S f x y z : Nat} (hS : S < 4096) (hf : f < 256) (hx : x < 256) (hy : y < 256) (hz : z < 256) (f1 : inT S f = true) (x1 : inT S x = true) (y1 : inT S y = true) (z1 : inT S z = true) : inT S (pN f x y z) = true := by
  rw [inT_bits] at *
  intro t ht
  have t12 : t < 12 := by
    refine Nat.not_le.mp fun q => ?_
    rw [Nat.testBit_lt_two_pow (Nat.lt_of_lt_of_le hS (pw_le (n := 12) q))] at ht
    cases ht
  rw [hasB_at (pN_lt f x y z) t12]
  exact closed t12 (by rw [← hasB_at hf t12]; exact f1 t ht) (by rw [← hasB_at hx t12]; exact x1 t ht) (by rw [← hasB_at hy t12]; exact y1 t ht) (by rw [← hasB_at hz t12]; exact z1 t ht)
theorem inT_base {S c : Nat} (hS : S < 4096) (hc : base3 c) : inT S c = true := by
  have : trN c = 4095 := by rcases hc with rfl | rfl | rfl <;> decide +kernel
  unfold inT
  rw [this, Nat.and_comm, and4095 hS]
  exact Nat.beq_refl S
