/-! Formulas: the first fault. -/
def wN (a : Nat) : Nat := if 65 ≤ a ∧ a ≤ 70 then 3 else if a = 33 then 1 else if a = 38 ∨ a = 61 ∨ a = 62 ∨ a = 94 ∨ a = 124 then 2 else if a = 48 ∨ a = 49 ∨ a = 97 ∨ a = 98 ∨ a = 99 then 0 else if a = 63 ∨ a = 109 then 3 else 9
def isF (a : Nat) : Bool := Nat.ble 65 a && Nat.ble a 70
def weC (a : Nat) : Bool := decide (Jfm_bound (nI a) = some (if wN a = 9 then -1 else nI (wN a))) && decide (Jm_wants (nI a) = some (if wN a = 9 then -1 else nI (wN a))) && decide (Jfm_isFunction (nI a) = some (nI (if isF a = true then 1 else 0))) && decide (Jm_in (Int32.toInt64 (nI a)) 65 70 = some (nI (if isF a = true then 1 else 0))) && (Nat.ble (wN a) 3 || Nat.beq (wN a) 9) && (!(isF a) || Nat.beq (wN a) 3)
theorem we_ok : ((List.range 256).all weC) = true := by decide +kernel
theorem isF_t {a : Nat} (h : isF a = true) : 65 ≤ a ∧ a ≤ 70 := by
  unfold isF at h
  rw [Bool.and_eq_true] at h
  exact ⟨Nat.le_of_ble_eq_true h.1, Nat.le_of_ble_eq_true h.2⟩
theorem we_at {a : Nat} (ha : a < 256) : Jfm_bound (nI a) = some (if wN a = 9 then -1 else nI (wN a)) ∧ Jm_wants (nI a) = some (if wN a = 9 then -1 else nI (wN a)) ∧ Jfm_isFunction (nI a) = some (nI (if isF a = true then 1 else 0)) ∧ Jm_in (Int32.toInt64 (nI a)) 65 70 = some (nI (if isF a = true then 1 else 0)) ∧ (wN a ≤ 3 ∨ wN a = 9) ∧ (isF a = true → wN a = 3) := by
  have w := al we_ok ha
  unfold weC at w
  simp only [Bool.and_eq_true, Bool.or_eq_true, Bool.not_eq_true'] at w
  obtain ⟨⟨⟨⟨⟨w1, w2⟩, w3⟩, w4⟩, w5⟩, w6⟩ := w
  refine ⟨of_decide_eq_true w1, of_decide_eq_true w2, of_decide_eq_true w3, of_decide_eq_true w4, ?_, fun h => ?_⟩
  · rcases w5 with w5 | w5
    · exact Or.inl (Nat.le_of_ble_eq_true w5)
    · exact Or.inr (Nat.eq_of_beq_eq_true w5)
  · rcases w6 with w6 | w6
    · rw [h] at w6; cases w6
    · exact Nat.eq_of_beq_eq_true w6
def opN (T : Nat → Nat) : Nat → Nat
  | 0 => 1
  | i + 1 => opN T i + wN (T i) - 1
def faN (T : Nat → Nat) (z k : Nat) : Nat := if opN T k = 0 then 3 else if wN (T k) = 9 then 1 else if isF (T k) = true ∧ z ≤ T k - 65 then 2 else 0
def FR (T : Nat → Nat) (z m r p : Nat) : Prop := (∃ k, k < m ∧ faN T z k = r ∧ r ≠ 0 ∧ p = k ∧ ∀ j, j < k → faN T z j = 0) ∨ ((∀ j, j < m → faN T z j = 0) ∧ p = m ∧ r = if 0 < opN T m then 4 else 0)
theorem FR_uniq {T : Nat → Nat} {z m r p r' p' : Nat} (h : FR T z m r p) (h' : FR T z m r' p') : r = r' ∧ p = p' := by
  rcases h with ⟨k, a1, a2, a3, a4, a5⟩ | ⟨a1, a2, a3⟩
  · rcases h' with ⟨k', b1, b2, b3, b4, b5⟩ | ⟨b1, b2, b3⟩
    · have e : k = k' := by
        rcases Nat.lt_trichotomy k k' with q | q | q
        · exact absurd ((b5 k q).symm.trans a2) (fun w => a3 w.symm)
        · exact q
        · exact absurd ((a5 k' q).symm.trans b2) (fun w => b3 w.symm)
      subst e
      exact ⟨a2.symm.trans b2, a4.trans b4.symm⟩
    · exact absurd ((b1 k a1).symm.trans a2) (fun w => a3 w.symm)
  · rcases h' with ⟨k', b1, b2, b3, b4, b5⟩ | ⟨b1, b2, b3⟩
    · exact absurd ((a1 k' b1).symm.trans b2) (fun w => b3 w.symm)
    · exact ⟨a3.trans b3.symm, a2.trans b2.symm⟩
theorem op_le (T : Nat → Nat) : ∀ i, opN T i ≤ 9 * i + 1
  | 0 => Nat.le_refl 1
  | i + 1 => by
    have := op_le T i
    have w : wN (T i) ≤ 9 := by
      unfold wN
      repeat' split
      all_goals decide
    show opN T i + wN (T i) - 1 ≤ _
    omega
theorem fa_le (T : Nat → Nat) (z k : Nat) : faN T z k ≤ 3 := by
  unfold faN
  repeat' split
  all_goals decide
theorem op_add {o w : Nat} (ho : 0 < o) : nI o + (nI w - (1 : Int32)) = nI (o + w - 1) := by
  rw [Int32.sub_eq_add_neg, ← Int32.add_assoc, ← Int32.sub_eq_add_neg, nI_add]
  exact nI_sub (b := 1) (by omega)
theorem fa_0 {T : Nat → Nat} {z k : Nat} (h1 : opN T k ≠ 0) (h2 : wN (T k) ≠ 9) (h3 : ¬ (isF (T k) = true ∧ z ≤ T k - 65)) : faN T z k = 0 := by
  unfold faN
  rw [if_neg h1, if_neg h2, if_neg h3]
theorem ofC_at {a z : Nat} (ha : a < 256) (hz : z ≤ 6) : Jfm_faultOf (nI a) (nI z) = some (nI (if wN a = 9 then 1 else if isF a = true ∧ z ≤ a - 65 then 2 else 0)) := by
  obtain ⟨w1, w2, w3, w4, w5, w6⟩ := we_at ha
  unfold Jfm_faultOf
  rw [w1, bd_some]
  by_cases w9 : wN a = 9
  · rw [if_pos w9, if_pos rfl, if_pos w9]
    rfl
  have bn : ¬ nI (wN a) = (-1 : Int32) := fun w => nI_pos (n := wN a) (by omega) (by rw [w]; decide)
  rw [if_neg w9, if_neg bn, w3, bd_some, if_neg w9]
  cases ef : isF a with
  | false =>
    rw [b01_f, if_pos n0_0, if_neg (fun w => by cases w.1)]
    rfl
  | true =>
    obtain ⟨y1, y2⟩ := isF_t ef
    have sb : nI a - (65 : Int32) = nI (a - 65) := nI_sub (b := 65) y1
    rw [b01_t, if_neg n1_0, sb]
    by_cases y3 : z ≤ a - 65
    · rw [if_neg (nI_nlt y3 (by omega)), if_pos ⟨rfl, y3⟩]
      rfl
    · rw [if_pos (nI_lt (by omega) (by omega)), if_neg (fun w => y3 w.2)]
      rfl
theorem fa_of {T : Nat → Nat} {z k : Nat} (h1 : opN T k ≠ 0) : faN T z k = if wN (T k) = 9 then 1 else if isF (T k) = true ∧ z ≤ T k - 65 then 2 else 0 := by
  unfold faN
  rw [if_neg h1]
theorem faultC_at {h : Hp} {z m : Nat} {T : Nat → Nat} (ht : txC h m T) (hm : m ≤ 60) (hT : ∀ i, i < m → T i < 256) (hz : z ≤ 6) : ∃ r p h', Jfm_firstFault (nI z) h = some (nI r, h') ∧ FR T z m r p ∧ r ≤ 4 ∧ p ≤ 60 ∧ h' 1 4 = nI p ∧ ∀ q k, ¬ (q = 1 ∧ k = 4) → h' q k = h q k := by
  have fs : ∀ v q k, ¬ (q = 1 ∧ k = 4) → (hset h 1 4 v) q k = h q k := fun v q k w => by rw [hset_if, if_neg w]
  obtain ⟨r, l1, l2⟩ := loop_cnt (fun s => Jfm_firstFault_L4 (nI z) h s.1 s.2) (fun i x => x = (nI (opN T i), nI i) ∧ (∀ j, j < i → faN T z j = 0)) (fun r => (r = Sum.inl (nI (opN T m), nI m) ∧ (∀ j, j < m → faN T z j = 0)) ∨ ∃ k, r = Sum.inr (nI (faN T z k), hset h 1 4 (nI k)) ∧ k < m ∧ faN T z k ≠ 0 ∧ (∀ j, j < k → faN T z j = 0)) m (fun i x hi hx => by
    obtain ⟨rfl, g2⟩ := hx
    have le : h 2 i = nI (T i) := ht.2 i hi
    have hl := hT i hi
    have ob := op_le T i
    have fl := fa_le T z i
    obtain ⟨w1, w2, w3, w4, w5, w6⟩ := we_at hl
    have ib : ibB (nI i) 60 = true := ib_nI (by omega) (by omega)
    have S : Jfm_firstFault_L4 (nI z) h (nI (opN T i)) (nI i) = (if nI (opN T i) = 0 then some (.inr (.inr (3, hset h 1 4 (nI i)))) else bd (Jfm_faultOf (nI (T i)) (nI z)) fun c3 => if c3 = 0 then bd (Jfm_bound (nI (T i))) fun c4 => some (.inl (nI (opN T i) + (c4 - (1 : Int32)), nI (i + 1))) else some (.inr (.inr (c3, hset h 1 4 (nI i))))) := by
      unfold Jfm_firstFault_L4 Jfm_firstFault_J36
      rw [ht.1, if_pos (nI_lt hi (by omega)), if_pos (show nI i < (60 : Int32) from nI_lt (b := 60) (by omega) (by decide)), ib, cond_true, nI_clamp (by omega), le, show nI i + (1 : Int32) = nI (i + 1) from nI_add i 1, if_neg (show ¬ (3 : Int32) = 0 by decide), lt_of']
      rfl
    have bad : faN T z i ≠ 0 → Jfm_firstFault_L4 (nI z) h (nI (opN T i)) (nI i) = some (.inr (.inr (nI (faN T z i), hset h 1 4 (nI i)))) → ∃ o, Jfm_firstFault_L4 (nI z) h (nI (opN T i), nI i).1 (nI (opN T i), nI i).2 = some (.inr o) ∧ ((o = Sum.inl (nI (opN T m), nI m) ∧ (∀ j, j < m → faN T z j = 0)) ∨ ∃ k, o = Sum.inr (nI (faN T z k), hset h 1 4 (nI k)) ∧ k < m ∧ faN T z k ≠ 0 ∧ (∀ j, j < k → faN T z j = 0)) := fun f0 run => ⟨_, run, Or.inr ⟨i, rfl, hi, f0, g2⟩⟩
    by_cases o0 : opN T i = 0
    · have f3 : faN T z i = 3 := by unfold faN; rw [if_pos o0]
      refine Or.inr (bad (by rw [f3]; decide) ?_)
      rw [S, if_pos (by rw [o0]; rfl), f3]
      rfl
    have o1 : ¬ nI (opN T i) = 0 := fun w => o0 ((nI_eq (b := 0) (by omega) (by decide)).mp w)
    have F : Jfm_faultOf (nI (T i)) (nI z) = some (nI (faN T z i)) := by rw [ofC_at hl hz, fa_of o0]
    by_cases f0 : faN T z i = 0
    · left
      have w9 : ¬ wN (T i) = 9 := fun w => by rw [fa_of o0, if_pos w] at f0; cases f0
      refine ⟨(nI (opN T (i + 1)), nI (i + 1)), ?_, rfl, fun j hj => ?_⟩
      · show Jfm_firstFault_L4 (nI z) h (nI (opN T i)) (nI i) = _
        rw [S, if_neg o1, F, bd_some, f0, if_pos n0_0, w1, if_neg w9, bd_some, op_add (by omega)]
        rfl
      · by_cases y : j = i
        · rw [y]; exact f0
        · exact g2 j (by omega)
    · have f1 : ¬ nI (faN T z i) = 0 := fun w => f0 ((nI_eq (b := 0) (by omega) (by decide)).mp w)
      refine Or.inr (bad f0 ?_)
      rw [S, if_neg o1, F, bd_some, if_neg f1]) (fun x hx => by
    obtain ⟨rfl, g2⟩ := hx
    refine ⟨.inl (nI (opN T m), nI m), ?_, Or.inl ⟨rfl, g2⟩⟩
    show Jfm_firstFault_L4 (nI z) h (nI (opN T m)) (nI m) = _
    unfold Jfm_firstFault_L4
    rw [ht.1, if_neg (nI_nlt (Nat.le_refl m) (by omega))]) (F := 1000000) (by omega) (a := 0) (Nat.zero_le m) (s := (1, 0)) ⟨rfl, fun j hj => absurd hj (Nat.not_lt_zero j)⟩
  have run : Jfm_firstFault (nI z) h = bd (some r) fun (t6x : (Int32 × Int32) ⊕ (Int32 × Hp)) => sm t6x (fun t6 => lt (hset h 1 4 (h 1 2)) fun h7 => if 0 < t6.1 then some (4, h7) else some (0, h7)) (fun r7 => some r7) := by
    unfold Jfm_firstFault
    rw [l1]
  rcases l2 with ⟨rfl, b3⟩ | ⟨k, rfl, b1, b2, b3⟩
  · refine ⟨if 0 < opN T m then 4 else 0, m, hset h 1 4 (nI m), ?_, Or.inr ⟨b3, rfl, rfl⟩, by split <;> decide, hm, hset_at, fun q k w => fs _ q k w⟩
    have ob := op_le T m
    rw [run, bd_some, sm_l, lt_of', ht.1]
    by_cases q : 0 < opN T m
    · rw [if_pos q, if_pos (show (0 : Int32) < nI (opN T m) from nI_lt (a := 0) q (by omega))]
      rfl
    · rw [if_neg q, if_neg (show ¬ (0 : Int32) < nI (opN T m) from nI_nlt (a := 0) (by omega) (by decide))]
      rfl
  · have := fa_le T z k
    refine ⟨faN T z k, k, hset h 1 4 (nI k), ?_, Or.inl ⟨k, b1, rfl, b2, rfl, b3⟩, by omega, by omega, hset_at, fun q k' w => fs _ q k' w⟩
    rw [run, bd_some, sm_r]
theorem faultM_at {h : Hp} {z m : Nat} {T : Nat → Nat} (ht : txM h m T) (hm : m ≤ 60) (hT : ∀ i, i < m → T i < 256) (hz : z ≤ 6) (hs : h 38 0 = nI z) : ∃ r p, Jm_faultOf h = some (nI r, hset h 37 7 (if r = 0 then -1 else nI p)) ∧ FR T z m r p := by
  obtain ⟨r, l1, l2⟩ := loop_cnt (fun s => Jm_faultOf_L4 h s.1 s.2) (fun i x => x = (nI (opN T i), nI i) ∧ (∀ j, j < i → faN T z j = 0)) (fun r => (r = Sum.inl (nI (opN T m), nI m) ∧ (∀ j, j < m → faN T z j = 0)) ∨ ∃ k, r = Sum.inr (nI (faN T z k), hset h 37 7 (nI k)) ∧ k < m ∧ faN T z k ≠ 0 ∧ (∀ j, j < k → faN T z j = 0)) m (fun i x hi hx => by
    obtain ⟨rfl, g2⟩ := hx
    have le : h 40 i = nI (T i) := ht.2 i hi
    have hl := hT i hi
    have ob := op_le T i
    obtain ⟨w1, w2, w3, w4, w5, w6⟩ := we_at hl
    have ib : ibB (nI i) 60 = true := ib_nI (by omega) (by omega)
    have S : Jm_faultOf_L4 h (nI (opN T i)) (nI i) = (bd (Jm_wants (nI (T i))) fun c1 => if nI (opN T i) = 0 then Jm_faultOf_J80 (nI (opN T i)) (nI i) c1 3 h else if c1 < 0 then Jm_faultOf_J80 (nI (opN T i)) (nI i) c1 1 h else bd (Jm_in (Int32.toInt64 (nI (T i))) 65 70) fun c3 => if c3 = 0 then Jm_faultOf_J80 (nI (opN T i)) (nI i) c1 0 h else if nI (T i) - (65 : Int32) < nI z then Jm_faultOf_J80 (nI (opN T i)) (nI i) c1 0 h else Jm_faultOf_J80 (nI (opN T i)) (nI i) c1 2 h) := by
      unfold Jm_faultOf_L4
      rw [ht.1, if_pos (nI_lt hi (by omega)), ib, cond_true, nI_clamp (by omega), le, hs]
      rfl
    have J : ∀ c f, 0 < f → f ≤ 3 → Jm_faultOf_J80 (nI (opN T i)) (nI i) c (nI f) h = some (.inr (.inr (nI f, hset h 37 7 (nI i)))) := fun c f f0 f3 => by
      unfold Jm_faultOf_J80
      rw [if_pos (show (0 : Int32) < nI f from nI_lt (a := 0) f0 (by omega)), lt_of']
    have J0 : ∀ w, 0 < opN T i → Jm_faultOf_J80 (nI (opN T i)) (nI i) (nI w) 0 h = some (.inl (nI (opN T i + w - 1), nI (i + 1))) := fun w o => by
      unfold Jm_faultOf_J80
      rw [if_neg (show ¬ (0 : Int32) < 0 by decide), op_add o, show nI i + (1 : Int32) = nI (i + 1) from nI_add i 1]
    by_cases o0 : opN T i = 0
    · have f3 : faN T z i = 3 := by unfold faN; rw [if_pos o0]
      refine Or.inr ⟨.inr (nI (faN T z i), hset h 37 7 (nI i)), ?_, Or.inr ⟨i, rfl, hi, by rw [f3]; decide, g2⟩⟩
      show Jm_faultOf_L4 h (nI (opN T i)) (nI i) = _
      rw [S, w2, bd_some, if_pos (by rw [o0]; rfl), f3]
      exact J _ 3 (by decide) (by decide)
    have o1 : ¬ nI (opN T i) = 0 := fun w => o0 ((nI_eq (b := 0) (by omega) (by decide)).mp w)
    by_cases w9 : wN (T i) = 9
    · have f1 : faN T z i = 1 := by unfold faN; rw [if_neg o0, if_pos w9]
      refine Or.inr ⟨.inr (nI (faN T z i), hset h 37 7 (nI i)), ?_, Or.inr ⟨i, rfl, hi, by rw [f1]; decide, g2⟩⟩
      show Jm_faultOf_L4 h (nI (opN T i)) (nI i) = _
      rw [S, w2, bd_some, if_neg o1, if_pos w9, if_pos (show (-1 : Int32) < 0 by decide), f1]
      exact J _ 1 (by decide) (by decide)
    have b1 : Jm_wants (nI (T i)) = some (nI (wN (T i))) := by rw [w2, if_neg w9]
    have bn : ¬ nI (wN (T i)) < (0 : Int32) := nI_pos (by omega)
    have go : faN T z i = 0 → Jm_faultOf_L4 h (nI (opN T i)) (nI i) = some (.inl (nI (opN T (i + 1)), nI (i + 1))) → (∃ s', Jm_faultOf_L4 h (nI (opN T i), nI i).1 (nI (opN T i), nI i).2 = some (.inl s') ∧ (s' = (nI (opN T (i + 1)), nI (i + 1)) ∧ (∀ j, j < i + 1 → faN T z j = 0))) := fun f0 run => by
      refine ⟨_, run, rfl, fun j hj => ?_⟩
      by_cases y : j = i
      · rw [y]; exact f0
      · exact g2 j (by omega)
    cases ef : isF (T i) with
    | false =>
      left
      refine go (fa_0 o0 w9 (fun w => by rw [ef] at w; cases w.1)) ?_
      rw [S, b1, bd_some, if_neg o1, if_neg bn, w4, bd_some, ef, b01_f, if_pos n0_0]
      exact J0 _ (by omega)
    | true =>
      obtain ⟨y1, y2⟩ := isF_t ef
      have sb : nI (T i) - (65 : Int32) = nI (T i - 65) := nI_sub (b := 65) y1
      by_cases y3 : z ≤ T i - 65
      · have f2 : faN T z i = 2 := by unfold faN; rw [if_neg o0, if_neg w9, if_pos ⟨ef, y3⟩]
        refine Or.inr ⟨.inr (nI (faN T z i), hset h 37 7 (nI i)), ?_, Or.inr ⟨i, rfl, hi, by rw [f2]; decide, g2⟩⟩
        show Jm_faultOf_L4 h (nI (opN T i)) (nI i) = _
        rw [S, b1, bd_some, if_neg o1, if_neg bn, w4, bd_some, ef, b01_t, if_neg n1_0, sb, if_neg (nI_nlt y3 (by omega)), f2]
        exact J _ 2 (by decide) (by decide)
      · left
        refine go (fa_0 o0 w9 (fun w => y3 w.2)) ?_
        rw [S, b1, bd_some, if_neg o1, if_neg bn, w4, bd_some, ef, b01_t, if_neg n1_0, sb, if_pos (nI_lt (by omega) (by omega))]
        exact J0 _ (by omega)) (fun x hx => by
    obtain ⟨rfl, g2⟩ := hx
    refine ⟨.inl (nI (opN T m), nI m), ?_, Or.inl ⟨rfl, g2⟩⟩
    show Jm_faultOf_L4 h (nI (opN T m)) (nI m) = _
    unfold Jm_faultOf_L4
    rw [ht.1, if_neg (nI_nlt (Nat.le_refl m) (by omega))]) (F := 1000000) (by omega) (a := 0) (Nat.zero_le m) (s := (1, 0)) ⟨rfl, fun j hj => absurd hj (Nat.not_lt_zero j)⟩
  unfold Jm_faultOf
  rw [l1, bd_some]
  rcases l2 with ⟨rfl, b3⟩ | ⟨k, rfl, b1, b2, b3⟩
  · refine ⟨if 0 < opN T m then 4 else 0, m, ?_, Or.inr ⟨b3, rfl, rfl⟩⟩
    have ob := op_le T m
    rw [sm_l]
    dsimp only
    by_cases q : 0 < opN T m
    · rw [if_pos q, if_pos (show (0 : Int32) < nI (opN T m) from nI_lt (a := 0) q (by omega)), lt_of', if_pos (show (0 : Int32) < nI (opN T m) from nI_lt (a := 0) q (by omega)), ht.1]
      rfl
    · rw [if_neg q, if_neg (show ¬ (0 : Int32) < nI (opN T m) from nI_nlt (a := 0) (by omega) (by decide)), lt_of', if_neg (show ¬ (0 : Int32) < nI (opN T m) from nI_nlt (a := 0) (by omega) (by decide))]
      rfl
  · refine ⟨faN T z k, k, ?_, Or.inl ⟨k, b1, rfl, b2, rfl, b3⟩⟩
    rw [sm_r, if_neg b2]
