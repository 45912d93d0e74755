/-! Formulas: values. -/
def cfN (a : Nat) : Nat := if a = 33 then 15 else if a = 38 then 192 else if a = 49 then 255 else if a = 61 then 195 else if a = 62 then 207 else if a = 63 then 202 else if a = 94 then 60 else if a = 97 then 240 else if a = 98 then 204 else if a = 99 then 170 else if a = 109 then 232 else if a = 124 then 252 else 0
def cfC (a : Nat) : Bool := decide (Jfm_codeOf (nI a) = some (nI (cfN a)))
theorem cf_ok : ((List.range 256).all cfC) = true := by decide +kernel
theorem cf_at {a : Nat} (ha : a < 256) : Jfm_codeOf (nI a) = some (nI (cfN a)) := of_decide_eq_true (al cf_ok ha)
theorem cf_lt (a : Nat) : cfN a < 256 := by
  unfold cfN
  repeat' split
  all_goals decide
theorem wn0 : ∀ a, a < 256 → wN a = 0 → Jm_byItself (nI a) = some (nI (cfN a)) := by decide +kernel
theorem wn1 : ∀ a, a < 256 → wN a = 1 → a = 33 := by decide +kernel
theorem wn2 : ∀ a, a < 256 → wN a = 2 → a = 38 ∨ a = 61 ∨ a = 62 ∨ a = 94 ∨ a = 124 := by decide +kernel
theorem wn3 : ∀ a, a < 256 → wN a = 3 → isF a = true ∨ a = 63 ∨ a = 109 := by decide +kernel
def coN (s : Sh) (a : Nat) : Nat := if isF a = true then s.2.1 (a - 65) else cfN a
def vaN (s : Sh) (a x y z : Nat) : Nat := if wN a = 0 then cfN a else pN (coN s a) x (if 1 < wN a then y else 0) (if 2 < wN a then z else 0)
theorem va_lt (s : Sh) (a x y z : Nat) : vaN s a x y z < 256 := by
  unfold vaN
  split
  · exact cf_lt a
  · exact pN_lt _ _ _ _
theorem tl_ff : ∀ p, p < 8 → tl 4294967295 p = 1 := by decide +kernel
/-! the signs, bit by bit -/
theorem sg_not {x : Nat} : (255 : Int32) &&& (nI x ^^^ (-1 : Int32)) = nI (pN 15 x 0 0) := by
  have e : (255 : Int32) &&& (nI x ^^^ (-1 : Int32)) = nI (255 &&& (x ^^^ (2 ^ 8 - 1))) := nI_not (a := 255) (b := x) (n := 8) (by decide) (by decide)
  rw [e, tl_ext (n := 8) (Nat.lt_of_le_of_lt Nat.and_le_left (by decide)) (pN_lt 15 x 0 0) (fun p hp => ?_)]
  rw [tl_and, tl_xor, show 2 ^ 8 - 1 = 255 from rfl, tl_255 p hp, tl_pN hp, tl_0]
  rcases t01 (tl_le x p) with a | a <;> rw [a] <;> decide +kernel
theorem sg_and {x y : Nat} (hx : x < 256) : nI x &&& nI y = nI (pN 192 x y 0) := by
  rw [nI_and, tl_ext (n := 8) (Nat.lt_of_le_of_lt Nat.and_le_left hx) (pN_lt 192 x y 0) (fun p hp => ?_)]
  rw [tl_and, tl_pN hp, tl_0]
  rcases t01 (tl_le x p) with a | a <;> rcases t01 (tl_le y p) with b | b <;> rw [a, b] <;> decide +kernel
theorem sg_or {x y : Nat} (hx : x < 256) (hy : y < 256) : nI x ||| nI y = nI (pN 252 x y 0) := by
  rw [nI_or, tl_ext (n := 8) (Nat.or_lt_two_pow hx hy) (pN_lt 252 x y 0) (fun p hp => ?_)]
  rw [tl_or, tl_pN hp, tl_0]
  rcases t01 (tl_le x p) with a | a <;> rcases t01 (tl_le y p) with b | b <;> rw [a, b] <;> decide +kernel
theorem sg_xor {x y : Nat} (hx : x < 256) (hy : y < 256) : nI x ^^^ nI y = nI (pN 60 x y 0) := by
  rw [nI_xor, tl_ext (n := 8) (Nat.xor_lt_two_pow hx hy) (pN_lt 60 x y 0) (fun p hp => ?_)]
  rw [tl_xor, tl_pN hp, tl_0]
  rcases t01 (tl_le x p) with a | a <;> rcases t01 (tl_le y p) with b | b <;> rw [a, b] <;> decide +kernel
theorem sg_eq {x y : Nat} : (255 : Int32) &&& ((nI x ^^^ nI y) ^^^ (-1 : Int32)) = nI (pN 195 x y 0) := by
  have e : (255 : Int32) &&& (nI (x ^^^ y) ^^^ (-1 : Int32)) = nI (255 &&& ((x ^^^ y) ^^^ (2 ^ 8 - 1))) := nI_not (a := 255) (b := x ^^^ y) (n := 8) (by decide) (by decide)
  rw [nI_xor, e, tl_ext (n := 8) (Nat.lt_of_le_of_lt Nat.and_le_left (by decide)) (pN_lt 195 x y 0) (fun p hp => ?_)]
  rw [tl_and, tl_xor, tl_xor, show 2 ^ 8 - 1 = 255 from rfl, tl_255 p hp, tl_pN hp, tl_0]
  rcases t01 (tl_le x p) with a | a <;> rcases t01 (tl_le y p) with b | b <;> rw [a, b] <;> decide +kernel
theorem sg_imp {x y : Nat} : (255 : Int32) &&& ((nI x ^^^ (-1 : Int32)) ||| nI y) = nI (pN 207 x y 0) := by
  rw [show (-1 : Int32) = nI 4294967295 by decide, nI_xor, nI_or, show (255 : Int32) = nI 255 from rfl, nI_and, tl_ext (n := 8) (Nat.lt_of_le_of_lt Nat.and_le_left (by decide)) (pN_lt 207 x y 0) (fun p hp => ?_)]
  rw [tl_and, tl_or, tl_xor, tl_ff p hp, tl_255 p hp, tl_pN hp, tl_0]
  rcases t01 (tl_le x p) with a | a <;> rcases t01 (tl_le y p) with b | b <;> rw [a, b] <;> decide +kernel
theorem sg_if {x y z : Nat} (hx : x < 256) : (nI x &&& nI y) ||| (((255 : Int32) &&& (nI x ^^^ (-1 : Int32))) &&& nI z) = nI (pN 202 x y z) := by
  have e : (255 : Int32) &&& (nI x ^^^ (-1 : Int32)) = nI (255 &&& (x ^^^ (2 ^ 8 - 1))) := nI_not (a := 255) (b := x) (n := 8) (by decide) (by decide)
  rw [e, nI_and, nI_and, nI_or, tl_ext (n := 8) (Nat.or_lt_two_pow (Nat.lt_of_le_of_lt Nat.and_le_left hx) (Nat.lt_of_le_of_lt Nat.and_le_left (Nat.lt_of_le_of_lt Nat.and_le_left (by decide)))) (pN_lt 202 x y z) (fun p hp => ?_)]
  rw [tl_or, tl_and, tl_and, tl_and, tl_xor, show 2 ^ 8 - 1 = 255 from rfl, tl_255 p hp, tl_pN hp]
  rcases t01 (tl_le x p) with a | a <;> rcases t01 (tl_le y p) with b | b <;> rcases t01 (tl_le z p) with c | c <;> rw [a, b, c] <;> decide +kernel
theorem sg_maj {x y z : Nat} (hx : x < 256) (hy : y < 256) : ((nI x &&& nI y) ||| (nI x &&& nI z)) ||| (nI y &&& nI z) = nI (pN 232 x y z) := by
  rw [nI_and, nI_and, nI_and, nI_or, nI_or, tl_ext (n := 8) (Nat.or_lt_two_pow (Nat.or_lt_two_pow (Nat.lt_of_le_of_lt Nat.and_le_left hx) (Nat.lt_of_le_of_lt Nat.and_le_left hx)) (Nat.lt_of_le_of_lt Nat.and_le_left hy)) (pN_lt 232 x y z) (fun p hp => ?_)]
  rw [tl_or, tl_or, tl_and, tl_and, tl_and, tl_pN hp]
  rcases t01 (tl_le x p) with a | a <;> rcases t01 (tl_le y p) with b | b <;> rcases t01 (tl_le z p) with c | c <;> rw [a, b, c] <;> decide +kernel
/-! the class's stack -/
def SKC (h : Hp) (d : Nat) (st : Nat → Nat) : Prop := h 1 3 = nI d ∧ ∀ j, j < d → h 3 j = nI (st j)
theorem popC {h : Hp} {d : Nat} {st : Nat → Nat} (H : SKC h (d + 1) st) (hd : d < 60) : ∃ h', Jfm_pop h = some (nI (st d), h') ∧ SKC h' d st ∧ ∀ q k, ¬ (q = 1 ∧ k = 3) → h' q k = h q k := by
  obtain ⟨h1, e1⟩ : ∃ y, y = hset h 1 3 (nI d) := ⟨_, rfl⟩
  have f : ∀ q k, ¬ (q = 1 ∧ k = 3) → h1 q k = h q k := fun q k w => by rw [e1, hset_if, if_neg w]
  have t : h1 1 3 = nI d := by rw [e1, hset_at]
  refine ⟨h1, ?_, ⟨t, fun j hj => (f 3 j (by omega)).trans (H.2 j (by omega))⟩, f⟩
  unfold Jfm_pop
  rw [H.1, if_neg (show ¬ nI (d + 1) < (1 : Int32) from nI_nlt (b := 1) (by omega) (by omega)), if_neg (show ¬ (60 : Int32) < nI (d + 1) from nI_nlt (a := 60) (by omega) (by decide)), show nI (d + 1) - (1 : Int32) = nI (d + 1 - 1) from nI_sub (b := 1) (by omega), Nat.add_sub_cancel, lt_of', ← e1, t, ib_nI hd (by omega), cond_true, nI_clamp (by omega), (f 3 d (by omega)).trans (H.2 d (by omega))]
theorem pushS_at {h : Hp} {d v : Nat} {st : Nat → Nat} (H : SKC h d st) (hd : d < 60) : ∃ h', Jfm_push (nI v) h = some h' ∧ SKC h' (d + 1) (fun j => if j = d then v else st j) ∧ ∀ q k, ¬ (q = 1 ∧ k = 3) → q ≠ 3 → h' q k = h q k := by
  obtain ⟨h1, e1⟩ : ∃ y, y = hset h 3 d (nI v) := ⟨_, rfl⟩
  obtain ⟨h2, e2⟩ : ∃ y, y = hset h1 1 3 (nI (d + 1)) := ⟨_, rfl⟩
  have t : h1 1 3 = nI d := by rw [e1, hset_ne (by decide)]; exact H.1
  refine ⟨h2, ?_, ⟨by rw [e2, hset_at], fun j hj => ?_⟩, fun q k w x => ?_⟩
  · unfold Jfm_push
    rw [H.1, if_neg (nI_pos (by omega)), if_pos (show nI d < (60 : Int32) from nI_lt (b := 60) hd (by decide)), ib_nI hd (by omega), cond_true, nI_clamp (by omega), lt_of', ← e1, t, show nI d + (1 : Int32) = nI (d + 1) from nI_add d 1, lt_of', ← e2]
  · show h2 3 j = nI (if j = d then v else st j)
    rw [e2, hset_ne (by decide), e1]
    by_cases q : j = d
    · rw [if_pos q, q, hset_at]
    · rw [if_neg q, hset_ne2 q]; exact H.2 j (by omega)
  · rw [e2, hset_if, if_neg w, e1, hset_ne x]
theorem SKC_st {h : Hp} {d : Nat} {st st' : Nat → Nat} (e : ∀ j, j < d → st j = st' j) (H : SKC h d st) : SKC h d st' := ⟨H.1, fun j hj => by rw [← e j hj]; exact H.2 j hj⟩
theorem chainC {h : Hp} {d w co : Nat} {st : Nat → Nat} {v2 l : Int32} (H : SKC h d st) (hw : w ≤ d) (h3 : w ≤ 3) (hd : d ≤ 60) (hdw : d - w < 60) (hco : co < 256) (hst : ∀ j, st j < 256) : ∃ h', Jfm_value_J56 v2 l (nI w) (nI co) h = some (.inl (v2 + (-1), h')) ∧ SKC h' (d - w + 1) (fun j => if j = d - w then (if w = 0 then co else pN co (st (d - 1)) (if 1 < w then st (d - 2) else 0) (if 2 < w then st (d - 3) else 0)) else st j) ∧ ∀ q k, ¬ (q = 1 ∧ k = 3) → q ≠ 3 → h' q k = h q k := by
  have b1 := hst (d - 1)
  have b2 := hst (d - 2)
  have b3 := hst (d - 3)
  have z0 : ¬ (0 : Int32) < nI 0 := by decide
  have z1 : (0 : Int32) < nI 1 := by decide
  have z2 : (0 : Int32) < nI 2 := by decide
  have z3 : (0 : Int32) < nI 3 := by decide
  have o0 : ¬ (1 : Int32) < nI 0 := by decide
  have o1 : ¬ (1 : Int32) < nI 1 := by decide
  have o2 : (1 : Int32) < nI 2 := by decide
  have o3 : (1 : Int32) < nI 3 := by decide
  have t0 : ¬ (2 : Int32) < nI 0 := by decide
  have t1 : ¬ (2 : Int32) < nI 1 := by decide
  have t2 : ¬ (2 : Int32) < nI 2 := by decide
  have t3 : (2 : Int32) < nI 3 := by decide
  rcases (show w = 0 ∨ w = 1 ∨ w = 2 ∨ w = 3 by omega) with rfl | rfl | rfl | rfl
  · obtain ⟨h1, p1, p2, p3⟩ := pushS_at (v := co) H (by omega)
    refine ⟨h1, ?_, p2, p3⟩
    unfold Jfm_value_J56
    rw [if_neg z0]
    unfold Jfm_value_J71
    rw [if_neg o0]
    unfold Jfm_value_J87
    rw [if_neg t0]
    unfold Jfm_value_J103
    rw [if_neg z0, p1, bd_some]
  · obtain ⟨e, rfl⟩ : ∃ e, d = e + 1 := ⟨d - 1, by omega⟩
    obtain ⟨g1, q1, q2, q3⟩ := popC H (by omega)
    obtain ⟨h1, p1, p2, p3⟩ := pushS_at (v := pN co (st e) 0 0) q2 (by omega)
    refine ⟨h1, ?_, p2, fun q k w x => (p3 q k w x).trans (q3 q k w)⟩
    unfold Jfm_value_J56
    rw [if_pos z1, q1, bd_some]
    unfold Jfm_value_J71
    rw [if_neg o1]
    unfold Jfm_value_J87
    rw [if_neg t1]
    unfold Jfm_value_J103
    dsimp only
    rw [if_pos z1, show Jco_putOn (nI co) (nI (st e)) 0 0 = some (nI (pN co (st e) 0 0)) from Jco_putOn_at (y := 0) (z := 0) (by omega) (by have := hst e; omega) (by decide) (by decide), bd_some, p1, bd_some]
  · obtain ⟨e, rfl⟩ : ∃ e, d = e + 1 + 1 := ⟨d - 2, by omega⟩
    obtain ⟨g1, q1, q2, q3⟩ := popC H (by omega)
    obtain ⟨g2, r1, r2, r3⟩ := popC q2 (by omega)
    obtain ⟨h1, p1, p2, p3⟩ := pushS_at (v := pN co (st (e + 1)) (st e) 0) r2 (by omega)
    refine ⟨h1, ?_, p2, fun q k w x => ((p3 q k w x).trans (r3 q k w)).trans (q3 q k w)⟩
    unfold Jfm_value_J56
    rw [if_pos z2, q1, bd_some]
    unfold Jfm_value_J71
    dsimp only
    rw [if_pos o2, r1, bd_some]
    unfold Jfm_value_J87
    dsimp only
    rw [if_neg t2]
    unfold Jfm_value_J103
    rw [if_pos z2, show Jco_putOn (nI co) (nI (st (e + 1))) (nI (st e)) 0 = some (nI (pN co (st (e + 1)) (st e) 0)) from Jco_putOn_at (z := 0) (by omega) (by have := hst (e + 1); omega) (by have := hst e; omega) (by decide), bd_some, p1, bd_some]
  · obtain ⟨e, rfl⟩ : ∃ e, d = e + 1 + 1 + 1 := ⟨d - 3, by omega⟩
    obtain ⟨g1, q1, q2, q3⟩ := popC H (by omega)
    obtain ⟨g2, r1, r2, r3⟩ := popC q2 (by omega)
    obtain ⟨g3, s1, s2, s3⟩ := popC r2 (by omega)
    obtain ⟨h1, p1, p2, p3⟩ := pushS_at (v := pN co (st (e + 1 + 1)) (st (e + 1)) (st e)) s2 (by omega)
    refine ⟨h1, ?_, p2, fun q k w x => (((p3 q k w x).trans (s3 q k w)).trans (r3 q k w)).trans (q3 q k w)⟩
    unfold Jfm_value_J56
    rw [if_pos z3, q1, bd_some]
    unfold Jfm_value_J71
    dsimp only
    rw [if_pos o3, r1, bd_some]
    unfold Jfm_value_J87
    dsimp only
    rw [if_pos t3, s1, bd_some]
    unfold Jfm_value_J103
    dsimp only
    rw [if_pos z3, show Jco_putOn (nI co) (nI (st (e + 1 + 1))) (nI (st (e + 1))) (nI (st e)) = some (nI (pN co (st (e + 1 + 1)) (st (e + 1)) (st e))) from Jco_putOn_at (by omega) (by have := hst (e + 1 + 1); omega) (by have := hst (e + 1); omega) (by have := hst e; omega), bd_some, p1, bd_some]
/-! the model's stack -/
theorem chainM {h : Hp} {s : Sh} {d a i : Nat} {st : Nat → Nat} (ha : a < 256) (hle : h 40 i = nI a) (hi : i < 60) (hS : rowM h 0 s) (hs : okS s) (hF : isF a = true → a - 65 < s.1) (H : ∀ j, j < d → h 52 j = nI (st j)) (hw : wN a ≤ d) (h3 : wN a ≤ 3) (hd : d ≤ 60) (hst : ∀ j, st j < 256) : Jm_worth_L9 (nI d) (nI i) h = some (.inl (nI (d - wN a + 1), nI i + (-1), hset h 52 (d - wN a) (nI (vaN s a (st (d - 1)) (st (d - 2)) (st (d - 3)))))) := by
  have b1 := hst (d - 1)
  have b2 := hst (d - 2)
  have b3 := hst (d - 3)
  obtain ⟨w1, w2, w3, w4, w5, w6⟩ := we_at ha
  have wn9 : ¬ wN a = 9 := by omega
  rw [if_neg wn9] at w2
  have ib : ibB (nI i) 60 = true := ib_nI hi (by omega)
  have z0 : ¬ (0 : Int32) < nI 0 := by decide
  have z1 : (0 : Int32) < nI 1 := by decide
  have z2 : (0 : Int32) < nI 2 := by decide
  have z3 : (0 : Int32) < nI 3 := by decide
  have o0 : ¬ (1 : Int32) < nI 0 := by decide
  have o1 : ¬ (1 : Int32) < nI 1 := by decide
  have o2 : (1 : Int32) < nI 2 := by decide
  have o3 : (1 : Int32) < nI 3 := by decide
  have t0 : ¬ (2 : Int32) < nI 0 := by decide
  have t1 : ¬ (2 : Int32) < nI 1 := by decide
  have t2 : ¬ (2 : Int32) < nI 2 := by decide
  have t3 : (2 : Int32) < nI 3 := by decide
  have base : Jm_worth_L9 (nI d) (nI i) h = (if (0 : Int32) < nI (wN a) then bif ibB (nI d - (1 : Int32)) 64 then Jm_worth_J39 (nI d) (nI i) (nI (wN a)) (h 52 (Int32.toNatClampNeg (nI d - (1 : Int32)))) h else none else Jm_worth_J39 (nI d) (nI i) (nI (wN a)) 0 h) := by
    unfold Jm_worth_L9
    rw [if_neg (nI_pos (by omega)), ib, cond_true, nI_clamp (by omega), hle, w2, bd_some]
  have sub : ∀ k, k ≤ d → nI d - nI k = nI (d - k) := fun k hk => nI_sub hk
  have inc : nI (d - wN a) + (1 : Int32) = nI (d - wN a + 1) := nI_add _ 1
  have ibd : ∀ k, k < 64 → ibB (nI k) 64 = true := fun k hk => ib_nI hk (by omega)
  have kc : ∀ k, k < 64 → (nI k).toNatClampNeg = k := fun k hk => nI_clamp (by omega)
  rcases (show wN a = 0 ∨ wN a = 1 ∨ wN a = 2 ∨ wN a = 3 by omega) with e | e | e | e
  · have va : vaN s a (st (d - 1)) (st (d - 2)) (st (d - 3)) = cfN a := by unfold vaN; rw [if_pos e]
    rw [va, base, e, if_neg z0]
    unfold Jm_worth_J39
    rw [if_neg o0]
    unfold Jm_worth_J58
    rw [if_neg t0]
    unfold Jm_worth_J77
    rw [if_pos n0_0, ib, cond_true, nI_clamp (by omega), hle, wn0 a ha e, bd_some, sub 0 (by omega), ibd _ (by omega), cond_true, lt_of', kc _ (by omega), show nI (d - 0) + (1 : Int32) = nI (d - 0 + 1) from nI_add _ 1]
  · have e33 := wn1 a ha e
    subst e33
    have va : vaN s 33 (st (d - 1)) (st (d - 2)) (st (d - 3)) = pN 15 (st (d - 1)) 0 0 := rfl
    rw [va, base, e, if_pos z1, show nI d - (1 : Int32) = nI (d - 1) from sub 1 (by omega), ibd _ (by omega), cond_true, kc _ (by omega), H _ (by omega)]
    unfold Jm_worth_J39
    rw [if_neg o1]
    unfold Jm_worth_J58
    rw [if_neg t1]
    unfold Jm_worth_J77
    rw [if_neg n1_0, if_pos (show nI 1 = (1 : Int32) from rfl), sub 1 (by omega), ibd _ (by omega), cond_true, lt_of', kc _ (by omega), sg_not, show nI (d - 1) + (1 : Int32) = nI (d - 1 + 1) from nI_add _ 1]
  · have run : ∀ v, Jm_byTwo (nI a) (nI (st (d - 1))) (nI (st (d - 2))) = some (nI v) → Jm_worth_L9 (nI d) (nI i) h = some (.inl (nI (d - 2 + 1), nI i + (-1), hset h 52 (d - 2) (nI v))) := fun v hv => by
      rw [base, e, if_pos z2, show nI d - (1 : Int32) = nI (d - 1) from sub 1 (by omega), ibd _ (by omega), cond_true, kc _ (by omega), H _ (by omega)]
      unfold Jm_worth_J39
      rw [if_pos o2, show nI d - (2 : Int32) = nI (d - 2) from sub 2 (by omega), ibd _ (by omega), cond_true, kc _ (by omega), H _ (by omega)]
      unfold Jm_worth_J58
      rw [if_neg t2]
      unfold Jm_worth_J77
      rw [if_neg (show ¬ nI 2 = (0 : Int32) by decide), if_neg (show ¬ nI 2 = (1 : Int32) by decide), if_pos (show nI 2 = (2 : Int32) from rfl), ib, cond_true, nI_clamp (n := i) (by omega), hle, hv, bd_some, sub 2 (by omega), ibd _ (by omega), cond_true, lt_of', kc _ (by omega), show nI (d - 2) + (1 : Int32) = nI (d - 2 + 1) from nI_add _ 1]
    have va : vaN s a (st (d - 1)) (st (d - 2)) (st (d - 3)) = pN (coN s a) (st (d - 1)) (st (d - 2)) 0 := by
      unfold vaN
      rw [e, if_neg (by decide), if_pos (by decide), if_neg (by decide)]
    rw [va, e]
    refine run _ ?_
    rcases wn2 a ha e with rfl | rfl | rfl | rfl | rfl
    · exact congrArg some (sg_and b1)
    · exact congrArg some sg_eq
    · exact congrArg some sg_imp
    · exact congrArg some (sg_xor b1 b2)
    · exact congrArg some (sg_or b1 b2)
  · have run : ∀ v, Jm_byThree (nI a) (nI (st (d - 1))) (nI (st (d - 2))) (nI (st (d - 3))) h = some (nI v) → Jm_worth_L9 (nI d) (nI i) h = some (.inl (nI (d - 3 + 1), nI i + (-1), hset h 52 (d - 3) (nI v))) := fun v hv => by
      rw [base, e, if_pos z3, show nI d - (1 : Int32) = nI (d - 1) from sub 1 (by omega), ibd _ (by omega), cond_true, kc _ (by omega), H _ (by omega)]
      unfold Jm_worth_J39
      rw [if_pos o3, show nI d - (2 : Int32) = nI (d - 2) from sub 2 (by omega), ibd _ (by omega), cond_true, kc _ (by omega), H _ (by omega)]
      unfold Jm_worth_J58
      rw [if_pos t3, show nI d - (3 : Int32) = nI (d - 3) from sub 3 (by omega), ibd _ (by omega), cond_true, kc _ (by omega), H _ (by omega)]
      unfold Jm_worth_J77
      rw [if_neg (show ¬ nI 3 = (0 : Int32) by decide), if_neg (show ¬ nI 3 = (1 : Int32) by decide), if_neg (show ¬ nI 3 = (2 : Int32) by decide), ib, cond_true, nI_clamp (n := i) (by omega), hle, hv, bd_some, sub 3 (by omega), ibd _ (by omega), cond_true, lt_of', kc _ (by omega), show nI (d - 3) + (1 : Int32) = nI (d - 3 + 1) from nI_add _ 1]
    have va : vaN s a (st (d - 1)) (st (d - 2)) (st (d - 3)) = pN (coN s a) (st (d - 1)) (st (d - 2)) (st (d - 3)) := by
      unfold vaN
      rw [e, if_neg (by decide), if_pos (by decide), if_pos (by decide)]
    rw [va, e]
    refine run _ ?_
    rcases wn3 a ha e with f | rfl | rfl
    · obtain ⟨y1, y2⟩ := isF_t f
      have hf := hF f
      have cs := hs.2.1 _ hf
      have co : coN s a = s.2.1 (a - 65) := by unfold coN; rw [if_pos f]
      have ix : (1 : Int32) + nI a - (65 : Int32) = nI (1 + a - 65) := by
        rw [show (1 : Int32) + nI a = nI (1 + a) from nI_add 1 a]
        exact nI_sub (b := 65) (by omega)
      have vv : h 38 (1 + a - 65) = nI (s.2.1 (a - 65)) := by
        have := hS.2.2 _ hf
        rw [show 0 + 1 + (a - 65) = 1 + a - 65 by omega] at this
        exact this
      have n63 : ¬ nI a = (63 : Int32) := fun w => by
        have := (nI_eq (b := 63) (by omega) (by decide)).mp w
        omega
      have n109 : ¬ nI a = (109 : Int32) := fun w => by
        have := (nI_eq (b := 109) (by omega) (by decide)).mp w
        omega
      unfold Jm_byThree
      rw [if_neg n63, if_neg n109, ix, ib_nI (by omega) (by omega), cond_true, nI_clamp (by omega), vv, Jm_putOn_at (by omega) (by omega) (by omega) (by omega), bd_some, co]
    · exact congrArg some (sg_if b1)
    · exact congrArg some (sg_maj b1 b2)
