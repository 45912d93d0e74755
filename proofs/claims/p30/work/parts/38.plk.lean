/-! Places: neighbours and counts of the class. -/
theorem isZ_01 (b : Bool) : isZ (nI (if b = true then 1 else 0)) = true := by cases b <;> rfl
def nxT (up : Bool) (k l : Nat) : Bool := if up = true then jaT l k 46 else jaT k l 46
theorem isNext_at {h : Hp} (H : CP h) (up : Bool) {k l : Nat} (hk : k < 46) (hl : l < 46) : Jpl_isNext (nI k) (nI l) (nI (if up = true then 1 else 0)) h = some (nI (if nxT up k l = true then 1 else 0)) := by
  unfold Jpl_isNext
  cases up with
  | true =>
    rw [if_neg (by decide)]
    refine (bd_of (isJustC_at H hl hk)).trans ?_
    rw [isZ_01]
    rfl
  | false =>
    rw [if_pos (by decide)]
    refine (bd_of (isJustC_at H hk hl)).trans ?_
    rw [isZ_01]
    rfl
def cntT (f : Nat → Bool) (n : Nat) : Nat := (List.range n).foldl (fun a i => bif f i then a + 1 else a) 0
theorem cntT_succ (f : Nat → Bool) (n : Nat) : cntT f (n + 1) = bif f n then cntT f n + 1 else cntT f n := by
  simp [cntT, List.range_succ, List.foldl_append]
theorem cntT_le (f : Nat → Bool) : ∀ n, cntT f n ≤ n
  | 0 => by simp [cntT]
  | n + 1 => by
    rw [cntT_succ]
    have := cntT_le f n
    cases f n <;> simp <;> omega
theorem countNext_at {h : Hp} (H : CP h) (up : Bool) {k : Nat} (hk : k < 46) : Jpl_countNext (nI k) (nI (if up = true then 1 else 0)) h = some (nI (cntT (nxT up k) 46)) := by
  have h4 := H.2.1
  obtain ⟨r, e1, e2⟩ := loop_cnt (fun s => Jpl_countNext_L5 (nI k) (nI (if up = true then 1 else 0)) h s.1 s.2) (fun i s => s = (nI (cntT (nxT up k) i), nI i)) (fun r => r.1 = nI (cntT (nxT up k) 46)) 46 (fun i s hi hs => by
    subst hs
    have a1 := isNext_at H up hk hi
    refine Or.inl ⟨_, ?_, rfl⟩
    rw [cntT_succ]
    cases b1 : nxT up k i with
    | false =>
      rw [b1] at a1
      simp (disch := omega) only [Jpl_countNext_L5, h4, a1, bd_some, lt_of', sm_l, sm_r, lit, lN_n, hset_if, nI_ltP, nI_eqI, nI_add, nI_sub, nI_clamp, ib_nI, cond_true, if_pos, if_neg, and_self, and_true, true_and, false_and, and_false, ↓reduceIte, eq_self, nI_m1]
      simp
    | true =>
      rw [b1] at a1
      simp (disch := omega) only [Jpl_countNext_L5, h4, a1, bd_some, lt_of', sm_l, sm_r, lit, lN_n, hset_if, nI_ltP, nI_eqI, nI_add, nI_sub, nI_clamp, ib_nI, cond_true, if_pos, if_neg, and_self, and_true, true_and, false_and, and_false, ↓reduceIte, eq_self, nI_m1]) (fun s hs => by
    subst hs
    exact ⟨(nI (cntT (nxT up k) 46), nI 46), by simp (disch := omega) only [Jpl_countNext_L5, h4, bd_some, lt_of', sm_l, sm_r, lit, lN_n, hset_if, nI_ltP, nI_eqI, nI_add, nI_sub, nI_clamp, ib_nI, cond_true, if_pos, if_neg, and_self, and_true, true_and, false_and, and_false, ↓reduceIte, eq_self, nI_m1], rfl⟩) (F := 1000000) (by omega) (a := 0) (by omega) (s := (0, 0)) rfl
  unfold Jpl_countNext
  exact (bd_of e1).trans (by rw [e2])
/-- the i-th of those that are so: -1, if there are not so many -/
def nthT (f : Nat → Bool) (v : Int32) : Nat → Nat → Nat → Int32
  | 0, _, _ => -1
  | n + 1, l, c => bif f l then (if nI c = v then nI l else nthT f v n (l + 1) (c + 1)) else nthT f v n (l + 1) c
theorem nthT_one (f : Nat → Bool) (v : Int32) (n l c : Nat) : nthT f v (n + 1) l c = bif f l then (if nI c = v then nI l else nthT f v n (l + 1) (c + 1)) else nthT f v n (l + 1) c := rfl
theorem next_at {h : Hp} (H : CP h) (up : Bool) {k : Nat} (hk : k < 46) (v : Int32) : Jpl_next (nI k) v (nI (if up = true then 1 else 0)) h = some (nthT (nxT up k) v 46 0 0) := by
  have h4 := H.2.1
  have hf : ∀ l, l < 46 → Jpl_isNext (nI k) (nI l) (nI (if up = true then 1 else 0)) h = some (nI (if nxT up k l = true then 1 else 0)) := fun l hl => isNext_at H up hk hl
  generalize nxT up k = f at hf ⊢
  obtain ⟨Z, hZ⟩ : ∃ Z, Z = nthT f v 46 0 0 := ⟨_, rfl⟩
  obtain ⟨r, e1, e2⟩ := loop_cnt (fun s => Jpl_next_L6 (nI k) v (nI (if up = true then 1 else 0)) h s.1 s.2) (fun i s => ∃ c, c ≤ i ∧ s = (nI c, nI i) ∧ nthT f v (46 - i) i c = Z) (fun r => sm r (fun _ => Z = -1) (fun x => Z = x)) 46 (fun i s hi hs => by
    obtain ⟨c, hc, rfl, g⟩ := hs
    have a1 := hf i hi
    rw [show 46 - i = (46 - (i + 1)) + 1 by omega, nthT_one] at g
    generalize 46 - (i + 1) = n at g ⊢
    cases b1 : f i with
    | false =>
      simp only [b1, cond_false] at a1 g
      refine Or.inl ⟨(nI c, nI (i + 1)), ?_, c, by omega, rfl, g⟩
      simp (disch := omega) only [Jpl_next_L6, h4, a1, bd_some, lt_of', sm_l, sm_r, lit, lN_n, hset_if, nI_ltP, nI_eqI, nI_add, nI_sub, nI_clamp, ib_nI, cond_true, if_pos, if_neg, and_self, and_true, true_and, false_and, and_false, ↓reduceIte, eq_self, nI_m1]
      simp
    | true =>
      simp only [b1, cond_true] at a1 g
      by_cases q : nI c = v
      · rw [if_pos q] at g
        refine Or.inr ⟨.inr (nI i), ?_, g.symm⟩
        simp (disch := omega) only [Jpl_next_L6, h4, a1, q, bd_some, lt_of', sm_l, sm_r, lit, lN_n, hset_if, nI_ltP, nI_eqI, nI_add, nI_sub, nI_clamp, ib_nI, cond_true, if_pos, if_neg, and_self, and_true, true_and, false_and, and_false, ↓reduceIte, eq_self, nI_m1]
      · rw [if_neg q] at g
        refine Or.inl ⟨(nI (c + 1), nI (i + 1)), ?_, c + 1, by omega, rfl, g⟩
        simp (disch := omega) only [Jpl_next_L6, h4, a1, q, bd_some, lt_of', sm_l, sm_r, lit, lN_n, hset_if, nI_ltP, nI_eqI, nI_add, nI_sub, nI_clamp, ib_nI, cond_true, if_pos, if_neg, and_self, and_true, true_and, false_and, and_false, ↓reduceIte, eq_self, nI_m1]) (fun s hs => by
    obtain ⟨c, hc, rfl, g⟩ := hs
    exact ⟨.inl (nI c, nI 46), by simp (disch := omega) only [Jpl_next_L6, h4, bd_some, lt_of', sm_l, sm_r, lit, lN_n, hset_if, nI_ltP, nI_eqI, nI_add, nI_sub, nI_clamp, ib_nI, cond_true, if_pos, if_neg, and_self, and_true, true_and, false_and, and_false, ↓reduceIte, eq_self, nI_m1], g.symm⟩) (F := 1000000) (by omega) (a := 0) (by omega) (s := (0, 0)) ⟨0, by omega, rfl, hZ.symm⟩
  unfold Jpl_next
  refine (bd_of e1).trans ?_
  rw [← hZ]
  cases r with
  | inl t => rw [show Z = -1 from e2]; rfl
  | inr x => rw [show Z = x from e2]; rfl
def inT (s c : Nat) : Bool := Nat.beq (trN c &&& s) s
theorem inT_e {s c : Nat} (h : inT s c = true) : trN c &&& s = s := Nat.eq_of_beq_eq_true h
theorem inT_n {s c : Nat} (h : inT s c = false) : ¬ trN c &&& s = s := fun q => by
  unfold inT at h
  rw [q, Nat.beq_refl] at h
  cases h
theorem isIn_at {h : Hp} (H : CP h) {s c : Nat} (hs : s < 4096) (hc : c < 256) : Jpl_isIn (nI c) (nI s) h = some (nI (if inT s c = true then 1 else 0)) := by
  unfold Jpl_isIn
  refine (bd_of (traitsOf_at H hc)).trans ?_
  have h1 : trN c < 4096 := (ta_at hc).1
  have h2 : trN c &&& s < 4096 := and_lt4 h1
  rw [nI_and]
  cases b : inT s c with
  | true => rw [if_pos (by rw [inT_e b]), if_pos rfl]; rfl
  | false => rw [if_neg (fun q => inT_n b ((nI_eq (by omega) (by omega)).mp q)), if_neg (by decide)]; rfl
theorem countIn_at {h : Hp} (H : CP h) {s : Nat} (hs : s < 4096) : Jpl_countIn (nI s) h = some (nI (cntT (inT s) 256)) := by
  obtain ⟨r, e1, e2⟩ := loop_cnt (fun x => Jpl_countIn_L4 (nI s) h x.1 x.2) (fun i x => x = (nI (cntT (inT s) i), nI i)) (fun r => r.1 = nI (cntT (inT s) 256)) 256 (fun i x hi hx => by
    subst hx
    have a1 := isIn_at H hs hi
    refine Or.inl ⟨_, ?_, rfl⟩
    rw [cntT_succ]
    cases b1 : inT s i with
    | false =>
      rw [b1] at a1
      simp (disch := omega) only [Jpl_countIn_L4, a1, bd_some, lt_of', sm_l, sm_r, lit, lN_n, hset_if, nI_ltP, nI_eqI, nI_add, nI_sub, nI_clamp, ib_nI, cond_true, if_pos, if_neg, and_self, and_true, true_and, false_and, and_false, ↓reduceIte, eq_self, nI_m1]
      simp
    | true =>
      rw [b1] at a1
      simp (disch := omega) only [Jpl_countIn_L4, a1, bd_some, lt_of', sm_l, sm_r, lit, lN_n, hset_if, nI_ltP, nI_eqI, nI_add, nI_sub, nI_clamp, ib_nI, cond_true, if_pos, if_neg, and_self, and_true, true_and, false_and, and_false, ↓reduceIte, eq_self, nI_m1]) (fun x hx => by
    subst hx
    exact ⟨(nI (cntT (inT s) 256), nI 256), by simp (disch := omega) only [Jpl_countIn_L4, bd_some, lt_of', sm_l, sm_r, lit, lN_n, hset_if, nI_ltP, nI_eqI, nI_add, nI_sub, nI_clamp, ib_nI, cond_true, if_pos, if_neg, and_self, and_true, true_and, false_and, and_false, ↓reduceIte, eq_self, nI_m1], rfl⟩) (F := 1000000) (by omega) (a := 0) (by omega) (s := (0, 0)) rfl
  unfold Jpl_countIn
  exact (bd_of e1).trans (by rw [e2])
theorem rankC_at {h : Hp} (H : CP h) {k : Nat} (hk : k < 46) : Jpl_rankOf (nI k) h = some (nI (rkS (plN k))) := by
  obtain ⟨b1, b2, -⟩ := pcB_at hk
  have h1 := H.2.2.2 _ b1
  rw [if_pos b2] at h1
  have h2 := and4095 b1
  unfold Jpl_rankOf
  refine (bd_of (setOf_at H hk)).trans ?_
  simp (disch := omega) only [nI_and, h2, h1, bd_some, lt_of', sm_l, sm_r, lit, lN_n, hset_if, nI_ltP, nI_eqI, nI_add, nI_sub, nI_clamp, ib_nI, cond_true, if_pos, if_neg, and_self, and_true, true_and, false_and, and_false, ↓reduceIte, eq_self, nI_m1]
theorem shF_lt (s : Nat) : ∀ (l : List Nat) (a : Nat), a < 4096 → shF s l a < 4096
  | [], a, h => h
  | x :: l, a, h => by
    simp only [shF, List.foldl_cons]
    refine shF_lt s l _ ?_
    cases Nat.beq (x &&& s) s
    · exact h
    · exact and_lt4 h
theorem shF_app (s : Nat) (l1 l2 : List Nat) (a : Nat) : shF s (l1 ++ l2) a = shF s l2 (shF s l1 a) := by
  simp [shF, List.foldl_append]
def clT (s n : Nat) : Nat := shF s ((List.range n).map plN) 4095
theorem clT_succ (s n : Nat) : clT s (n + 1) = bif Nat.beq (plN n &&& s) s then clT s n &&& plN n else clT s n := by
  simp [clT, List.range_succ, shF]
theorem clT_46 : (List.range 46).map plN = PLl := by decide +kernel
theorem closure_at {h : Hp} (H : CP h) {s : Nat} (hs : s < 4096) : Jpl_closureOf (nI s) h = some (nI (clN s)) := by
  have h4 := H.2.1
  have cl4 : ∀ n, clT s n < 4096 := fun n => shF_lt s _ _ (by decide)
  obtain ⟨r, e1, e2⟩ := loop_cnt (fun x => Jpl_closureOf_L6 (nI s) h x.1 x.2) (fun i x => x = (nI (clT s i), nI i)) (fun r => r.1 = nI (clT s 46)) 46 (fun i x hi hx => by
    subst hx
    have a1 := (H.2.2.1 i hi).1
    have b1 := (pcB_at hi).1
    have b2 : plN i &&& s < 4096 := and_lt4 b1
    refine Or.inl ⟨_, ?_, rfl⟩
    rw [clT_succ]
    by_cases q : plN i &&& s = s
    · have q2 : Nat.beq (plN i &&& s) s = true := by rw [q]; exact Nat.beq_refl s
      rw [q2]
      simp (disch := omega) only [Jpl_closureOf_L6, h4, a1, nI_and, bd_some, lt_of', sm_l, sm_r, lit, lN_n, hset_if, nI_ltP, nI_eqI, nI_add, nI_sub, nI_clamp, ib_nI, cond_true, if_pos, if_neg, and_self, and_true, true_and, false_and, and_false, ↓reduceIte, eq_self, nI_m1]
    · have q2 : Nat.beq (plN i &&& s) s = false := by
        cases hb : Nat.beq (plN i &&& s) s with
        | true => exact absurd (Nat.eq_of_beq_eq_true hb) q
        | false => rfl
      rw [q2]
      simp (disch := omega) only [Jpl_closureOf_L6, h4, a1, nI_and, bd_some, lt_of', sm_l, sm_r, lit, lN_n, hset_if, nI_ltP, nI_eqI, nI_add, nI_sub, nI_clamp, ib_nI, cond_true, if_pos, if_neg, and_self, and_true, true_and, false_and, and_false, ↓reduceIte, eq_self, nI_m1]
      simp) (fun x hx => by
    subst hx
    exact ⟨(nI (clT s 46), nI 46), by simp (disch := omega) only [Jpl_closureOf_L6, h4, bd_some, lt_of', sm_l, sm_r, lit, lN_n, hset_if, nI_ltP, nI_eqI, nI_add, nI_sub, nI_clamp, ib_nI, cond_true, if_pos, if_neg, and_self, and_true, true_and, false_and, and_false, ↓reduceIte, eq_self, nI_m1], rfl⟩) (F := 1000000) (by omega) (a := 0) (by omega) (s := (4095, 0)) rfl
  unfold Jpl_closureOf
  refine (bd_of e1).trans ?_
  rw [e2]
  unfold clT clN
  rw [clT_46]
