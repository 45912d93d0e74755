/-! The state, and the small methods. -/
theorem sm_l {α β γ : Type} {a : α} {f : α → γ} {g : β → γ} : sm (.inl a) f g = f a := rfl
theorem sm_r {α β γ : Type} {b : β} {f : α → γ} {g : β → γ} : sm (.inr b) f g = g b := rfl
theorem nI_eqI {a b : Nat} (ha : a < 2 ^ 31) (hb : b < 2 ^ 31) : (nI a = nI b) = (a = b) := propext (nI_eq ha hb)
theorem nI_ltP {a b : Nat} (ha : a < 2 ^ 31) (hb : b < 2 ^ 31) : (nI a < nI b) = (a < b) := propext (nI_ltI ha hb)
theorem in_at (a b c : Int64) : Jm_in a b c = some (if a < b then 0 else if c < a then 0 else 1) := by
  unfold Jm_in
  by_cases h1 : a < b
  · rw [if_pos ((lg_cmp_lt a b).mpr h1), if_pos h1]
  · rw [if_neg (fun q => h1 ((lg_cmp_lt a b).mp q)), if_neg h1]
    by_cases h2 : c < a
    · rw [if_pos ((lg_cmp_gt a c).mpr h2), if_pos h2]
    · rw [if_neg (fun q => h2 ((lg_cmp_gt a c).mp q)), if_neg h2]
theorem lN_n (n : Nat) : (@OfNat.ofNat Int64 n Int64.instOfNat) = lN n := rfl
theorem neg_l {x : Int32} (h : x < 0) {n : Nat} (hn : n < 2 ^ 31) : Int32.toInt64 x < lN n := by
  rw [Int64.lt_iff_toInt_lt, Int32.toInt_toInt64, lN_toInt hn]
  rw [Int32.lt_iff_toInt_lt] at h
  have : (0 : Int32).toInt = 0 := rfl
  omega
/-- between two numbers: yes -/
theorem in_yes {k a b : Nat} (ha : a ≤ k) (hb : k ≤ b) (h : b < 2 ^ 31) : Jm_in (Int32.toInt64 (nI k)) (lN a) (lN b) = some 1 := by
  rw [in_at, nI_l (by omega), if_neg (fun q => by rw [lN_lt (by omega) (by omega)] at q; omega), if_neg (fun q => by rw [lN_lt (by omega) (by omega)] at q; omega)]
theorem in_neg {x : Int32} (hx : x < 0) {a : Nat} (h : a < 2 ^ 31) (c : Int64) : Jm_in (Int32.toInt64 x) (lN a) c = some 0 := by
  rw [in_at, if_pos (neg_l hx h)]
theorem in_low {k a : Nat} (hk : k < a) (h : a < 2 ^ 31) (c : Int64) : Jm_in (Int32.toInt64 (nI k)) (lN a) c = some 0 := by
  rw [in_at, nI_l (by omega), if_pos ((lN_lt (by omega) h).mpr hk)]
theorem in_high {k b : Nat} (a : Nat) (hk : b < k) (h : k < 2 ^ 31) (ha : a < 2 ^ 31) : Jm_in (Int32.toInt64 (nI k)) (lN a) (lN b) = some 0 := by
  rw [in_at, nI_l h]
  by_cases q : lN k < lN a
  · rw [if_pos q]
  · rw [if_neg q, if_pos ((lN_lt (by omega) h).mpr hk)]
abbrev Sh : Type := Nat × (Nat → Nat) × Nat
def okS (s : Sh) : Prop := s.1 ≤ 6 ∧ (∀ i, i < s.1 → s.2.1 i < 256) ∧ s.2.2 < 2 ^ s.1
def shC (h : Hp) (s : Sh) : Prop := h 29 1 = nI s.1 ∧ h 29 2 = nI s.2.2 ∧ ∀ i, i < s.1 → h 30 i = nI (s.2.1 i)
def rowM (h : Hp) (o : Nat) (s : Sh) : Prop := h 38 o = nI s.1 ∧ h 38 (o + 7) = nI s.2.2 ∧ ∀ i, i < s.1 → h 38 (o + 1 + i) = nI (s.2.1 i)
def slotC (h : Hp) (k : Nat) (s : Sh) : Prop := h 32 k = nI s.1 ∧ h 33 k = nI s.2.2 ∧ ∀ i, i < s.1 → h 34 (6 * k + i) = nI (s.2.1 i)
def txC (h : Hp) (m : Nat) (T : Nat → Nat) : Prop := h 1 2 = nI m ∧ ∀ i, i < m → h 2 i = nI (T i)
def txM (h : Hp) (m : Nat) (T : Nat → Nat) : Prop := h 37 6 = nI m ∧ ∀ i, i < m → h 40 i = nI (T i)
theorem feed_C {h : Hp} {m : Nat} {T : Nat → Nat} (hT : txC h m T) (hm : m < 60) {k : Nat} (hk : k < 256) : Jyn_feed (nI k) h = some (nI (m + 1), hset (hset h 2 m (nI k)) 1 2 (nI (m + 1))) := by
  obtain ⟨h1, h2⟩ := hT
  simp (disch := omega) only [Jyn_feed, Jfm_type, Jfm_size, h1, bd_some, lt_of', sm_l, sm_r, lit, lN_n, hset_if, nI_ltP, nI_eqI, nI_add, nI_sub, nI_clamp, ib_nI, cond_true, if_pos, if_neg, and_self, and_true, true_and, false_and, and_false, ↓reduceIte]
theorem feed_M {h : Hp} {m : Nat} {T : Nat → Nat} (hT : txM h m T) (hm : m < 60) {k : Nat} (hk : k < 256) : Jm_feed (nI k) h = some (nI (m + 1), hset (hset h 40 m (nI k)) 37 6 (nI (m + 1))) := by
  obtain ⟨h1, h2⟩ := hT
  simp (disch := omega) only [Jm_feed, in_yes, h1, bd_some, lt_of', sm_l, sm_r, lit, lN_n, hset_if, nI_ltP, nI_eqI, nI_add, nI_sub, nI_clamp, ib_nI, cond_true, if_pos, if_neg, and_self, and_true, true_and, false_and, and_false, ↓reduceIte]
theorem holds_yes {h : Hp} {s : Sh} (hS : shC h s) (hn : s.1 ≤ 6) {k : Nat} (hk : k < s.1) : Jsh_holds (nI k) h = some 1 := by
  obtain ⟨h1, -, -⟩ := hS
  simp (disch := omega) only [Jsh_holds, h1, bd_some, lt_of', sm_l, sm_r, lit, lN_n, hset_if, nI_ltP, nI_eqI, nI_add, nI_sub, nI_clamp, ib_nI, cond_true, if_pos, if_neg, and_self, and_true, true_and, false_and, and_false, ↓reduceIte]
theorem holds_no {h : Hp} {s : Sh} (hS : shC h s) (hn : s.1 ≤ 6) {v : Int32} (hv : v < 0 ∨ nI s.1 ≤ v) : Jsh_holds v h = some 0 := by
  obtain ⟨h1, -, -⟩ := hS
  unfold Jsh_holds
  rcases hv with hv | hv
  · rw [if_pos hv]
  · by_cases q : v < 0
    · rw [if_pos q]
    · rw [if_neg q, h1, if_neg (Int32.not_lt.mpr hv)]
theorem codeAt_at {h : Hp} {s : Sh} (hS : shC h s) (hn : s.1 ≤ 6) {k : Nat} (hk : k < 6) : Jsh_codeAt (nI k) h = some (nI (if k < s.1 then s.2.1 k else 0)) := by
  obtain ⟨h1, -, h3⟩ := hS
  by_cases q : k < s.1
  · have h3 := h3 k q
    simp (disch := omega) only [Jsh_codeAt, Jsh_holds, h1, h3, bd_some, lt_of', sm_l, sm_r, lit, lN_n, hset_if, nI_ltP, nI_eqI, nI_add, nI_sub, nI_clamp, ib_nI, cond_true, if_pos, if_neg, and_self, and_true, true_and, false_and, and_false, ↓reduceIte]
  · simp (disch := omega) only [Jsh_codeAt, Jsh_holds, h1, bd_some, lt_of', sm_l, sm_r, lit, lN_n, hset_if, nI_ltP, nI_eqI, nI_add, nI_sub, nI_clamp, ib_nI, cond_true, if_pos, if_neg, and_self, and_true, true_and, false_and, and_false, ↓reduceIte]
theorem codeAt_in {h : Hp} {s : Sh} (hS : shC h s) (hn : s.1 ≤ 6) {k : Nat} (hk : k < s.1) : Jsh_codeAt (nI k) h = some (nI (s.2.1 k)) := by
  rw [codeAt_at hS hn (by omega), if_pos hk]
theorem isFull_at {h : Hp} {s : Sh} (hS : shC h s) (hn : s.1 ≤ 6) : Jsh_isFull h = some (nI (if s.1 < 6 then 0 else 1)) := by
  obtain ⟨h1, -, -⟩ := hS
  by_cases q : s.1 < 6
  · simp (disch := omega) only [Jsh_isFull, h1, bd_some, lt_of', sm_l, sm_r, lit, lN_n, hset_if, nI_ltP, nI_eqI, nI_add, nI_sub, nI_clamp, ib_nI, cond_true, if_pos, if_neg, and_self, and_true, true_and, false_and, and_false, ↓reduceIte]
  · simp (disch := omega) only [Jsh_isFull, h1, bd_some, lt_of', sm_l, sm_r, lit, lN_n, hset_if, nI_ltP, nI_eqI, nI_add, nI_sub, nI_clamp, ib_nI, cond_true, if_pos, if_neg, and_self, and_true, true_and, false_and, and_false, ↓reduceIte]
theorem add_at {h : Hp} {s : Sh} (hS : shC h s) (hn : s.1 < 6) (v : Nat) : Jsh_add (nI v) h = some (nI s.1, hset (hset h 30 s.1 (nI v)) 29 1 (nI (s.1 + 1))) := by
  obtain ⟨h1, -, -⟩ := hS
  simp (disch := omega) only [Jsh_add, Jsh_isFull, h1, bd_some, lt_of', sm_l, sm_r, lit, lN_n, hset_if, nI_ltP, nI_eqI, nI_add, nI_sub, nI_clamp, ib_nI, cond_true, if_pos, if_neg, and_self, and_true, true_and, false_and, and_false, ↓reduceIte]
  rfl
def addS (s : Sh) (v : Nat) : Sh := (s.1 + 1, fun i => if i = s.1 then v else s.2.1 i, s.2.2)
theorem add_sh {h : Hp} {s : Sh} (hS : shC h s) (v : Nat) : shC (hset (hset h 30 s.1 (nI v)) 29 1 (nI (s.1 + 1))) (addS s v) := by
  obtain ⟨h1, h2, h3⟩ := hS
  refine ⟨by simp [hset_if, addS], by simp [hset_if, addS, h2], fun i hi => ?_⟩
  simp only [addS] at hi ⊢
  by_cases q : i = s.1
  · simp [hset_if, q]
  · simp [hset_if, q, h3 i (by omega)]
theorem add_ok {s : Sh} (hs : okS s) (hn : s.1 < 6) {v : Nat} (hv : v < 256) : okS (addS s v) := by
  obtain ⟨h1, h2, h3⟩ := hs
  refine ⟨hn, fun i hi => ?_, Nat.lt_trans h3 (Nat.pow_lt_pow_succ (by decide))⟩
  simp only [addS] at hi ⊢
  by_cases q : i = s.1
  · rw [if_pos q]; exact hv
  · rw [if_neg q]; exact h2 i (by omega)
theorem shC_fr {h h' : Hp} {s : Sh} (a : h' 29 = h 29) (b : h' 30 = h 30) (hS : shC h s) : shC h' s := by
  obtain ⟨h1, h2, h3⟩ := hS
  exact ⟨by rw [a]; exact h1, by rw [a]; exact h2, fun i hi => by rw [b]; exact h3 i hi⟩
theorem rowM_fr {h h' : Hp} {o : Nat} {s : Sh} (a : h' 38 = h 38) (hS : rowM h o s) : rowM h' o s := by
  obtain ⟨h1, h2, h3⟩ := hS
  exact ⟨by rw [a]; exact h1, by rw [a]; exact h2, fun i hi => by rw [a]; exact h3 i hi⟩
theorem slotC_fr {h h' : Hp} {k : Nat} {s : Sh} (a : h' 32 = h 32) (b : h' 33 = h 33) (c : h' 34 = h 34) (hS : slotC h k s) : slotC h' k s := by
  obtain ⟨h1, h2, h3⟩ := hS
  exact ⟨by rw [a]; exact h1, by rw [b]; exact h2, fun i hi => by rw [c]; exact h3 i hi⟩
/-- Past.save -/
theorem save_at {h : Hp} {s : Sh} (hS : shC h s) (hn : s.1 ≤ 6) {k : Nat} (hk : k < 18) : ∃ h', Jpa_save (nI k) h = some h' ∧ slotC h' k s ∧ ∀ j s', j ≠ k → s'.1 ≤ 6 → slotC h j s' → slotC h' j s' := by
  obtain ⟨h1, h2, h3⟩ := id hS
  let h2' := hset (hset h 32 k (nI s.1)) 33 k (nI s.2.2)
  obtain ⟨r, e1, e2⟩ := loop_cnt (fun x => Jpa_save_L33 (nI k) x.1 x.2) (fun i x => x.1 = nI i ∧ (∀ j, j < i → x.2 34 (6 * k + j) = nI (if j < s.1 then s.2.1 j else 0)) ∧ (∀ j, (j < 6 * k ∨ 6 * k + 6 ≤ j) → x.2 34 j = h 34 j) ∧ ∀ p, p ≠ 34 → x.2 p = h2' p) (fun r => (∀ j, j < 6 → r.2 34 (6 * k + j) = nI (if j < s.1 then s.2.1 j else 0)) ∧ (∀ j, (j < 6 * k ∨ 6 * k + 6 ≤ j) → r.2 34 j = h 34 j) ∧ ∀ p, p ≠ 34 → r.2 p = h2' p) 6 (fun i x hi hx => by
    obtain ⟨a, x⟩ := x
    obtain ⟨rfl, g1, g2, g3⟩ := hx
    simp only at g1 g2 g3
    have hS' : shC x s := shC_fr (h := h) (by rw [g3 29 (by decide)]; rfl) (by rw [g3 30 (by decide)]; rfl) hS
    have hc := codeAt_at hS' hn hi
    refine Or.inl ⟨(nI (i + 1), hset x 34 (k * 6 + i) (nI (if i < s.1 then s.2.1 i else 0))), ?_, rfl, fun j hj => ?_, fun j hj => ?_, fun p hp => ?_⟩
    · simp (disch := omega) only [Jpa_save_L33, hc, nI_mul, bd_some, lt_of', sm_l, sm_r, lit, lN_n, hset_if, nI_ltP, nI_eqI, nI_add, nI_sub, nI_clamp, ib_nI, cond_true, if_pos, if_neg, and_self, and_true, true_and, false_and, and_false, ↓reduceIte]
    · simp only [hset_if]
      by_cases q : j = i
      · subst q; rw [if_pos ⟨trivial, by omega⟩]
      · rw [if_neg (by omega)]; exact g1 j (by omega)
    · simp only [hset_if]
      rw [if_neg (by omega)]; exact g2 j hj
    · show hset x 34 _ _ p = _
      rw [hset_ne hp]; exact g3 p hp) (fun x hx => by
    obtain ⟨a, x⟩ := x
    obtain ⟨rfl, g1, g2, g3⟩ := hx
    exact ⟨(nI 6, x), by simp (disch := omega) only [Jpa_save_L33, bd_some, lt_of', sm_l, sm_r, lit, lN_n, hset_if, nI_ltP, nI_eqI, nI_add, nI_sub, nI_clamp, ib_nI, cond_true, if_pos, if_neg, and_self, and_true, true_and, false_and, and_false, ↓reduceIte], g1, g2, g3⟩) (F := 1000000) (by omega) (a := 0) (by omega) (s := (0, h2')) ⟨rfl, fun j hj => absurd hj (Nat.not_lt_zero j), fun j hj => by simp [h2', hset_if], fun p hp => rfl⟩
  obtain ⟨r1, r⟩ := r
  obtain ⟨g1, g2, g3⟩ := e2
  simp only at g1 g2 g3
  refine ⟨r, ?_, ⟨?_, ?_, fun i hi => ?_⟩, fun j s' hj hs' hq => ?_⟩
  · simp (disch := omega) only [Jpa_save, Jsh_size, Jsh_chosenSet, h1, h2, bd_some, lt_of', sm_l, sm_r, lit, lN_n, hset_if, nI_ltP, nI_eqI, nI_add, nI_sub, nI_clamp, ib_nI, cond_true, if_pos, if_neg, and_self, and_true, true_and, false_and, and_false, ↓reduceIte]
    exact (bd_of e1).trans rfl
  · rw [g3 32 (by decide)]; simp [h2', hset_if]
  · rw [g3 33 (by decide)]; simp [h2', hset_if]
  · rw [g1 i (by omega), if_pos hi]
  · obtain ⟨q1, q2, q3⟩ := hq
    refine ⟨?_, ?_, fun i hi => ?_⟩
    · rw [g3 32 (by decide)]; simp [h2', hset_if, hj, q1]
    · rw [g3 33 (by decide)]; simp [h2', hset_if, hj, q2]
    · rw [g2 _ (by omega)]; exact q3 i hi
