/-! The class's costs are these. -/
def chsB (s : Sh) (k : Nat) : Bool := Nat.ble (k + 1) s.1 && Nat.beq (tl s.2.2 k) 1
theorem chsB_iff {s : Sh} {k : Nat} : chsB s k = true ↔ chs s k := by
  unfold chsB chs
  rw [Bool.and_eq_true]
  constructor
  · intro ⟨a, b⟩; exact ⟨Nat.le_of_ble_eq_true a, Nat.eq_of_beq_eq_true b⟩
  · intro ⟨a, b⟩; exact ⟨ble_e a, beq_e b⟩
theorem base_lt {s : Sh} (hs : okS s) : s.2.2 < 64 := Nat.lt_of_lt_of_le hs.2.2 (pw_le (m := 6) hs.1)
theorem isChosen_at {h : Hp} {s : Sh} (hS : shC h s) (hs : okS s) {k : Nat} (hk : k < 6) : Jsh_isChosen (nI k) h = some (nI (if chsB s k = true then 1 else 0)) := by
  have hb := base_lt hs
  unfold Jsh_isChosen
  by_cases q : k < s.1
  · refine (bd_of (holds_yes hS hs.1 q)).trans ?_
    rw [if_neg (by decide), hS.2.1, nI_shr (by omega) (by omega), lit 1, nI_and]
    unfold chsB
    rw [ble_e (show k + 1 ≤ s.1 from q), Bool.true_and]
    show (if nI (tl s.2.2 k) = 0 then _ else _) = _
    rcases t01 (tl_le s.2.2 k) with w | w <;> rw [w] <;> rfl
  · refine (bd_of (holds_no hS hs.1 (Or.inr (Int32.not_lt.mp (fun w => q ((nI_ltI (by omega) (by have := hs.1; omega)).mp w)))))).trans ?_
    have : chsB s k = false := by
      cases b : chsB s k with
      | false => rfl
      | true => exact absurd (chsB_iff.mp b).1 q
    rw [this]
    rfl
/-- for which base the costs were reckoned -/
def RB (h : Hp) (s : Sh) : Prop := h 10 8 = nI s.2.2 ∧ ∀ f, chs s f → h 17 f = nI (s.2.1 f)
theorem CR_fr {h h' : Hp} {s : Sh} {C : Nat → Option Nat} (a : ∀ k, h' 11 k = h 11 k) (b : ∀ k, h' 12 k = h 12 k) (H : CR h s C) : CR h' s C := by
  intro c hc
  rw [a, b]
  exact H c hc
def RK (h h' : Hp) : Prop := ∀ p k, (p < 10 ∨ 19 < p) → h' p k = h p k
theorem RK_tr {h h1 h2 : Hp} (a : RK h h1) (b : RK h1 h2) : RK h h2 := fun p k q => (b p k q).trans (a p k q)
theorem shC_RK {h h' : Hp} {s : Sh} (r : RK h h') (H : shC h s) : shC h' s := ⟨(r 29 1 (Or.inr (by decide))).trans H.1, (r 29 2 (Or.inr (by decide))).trans H.2.1, fun i hi => (r 30 i (Or.inr (by decide))).trans (H.2.2 i hi)⟩
theorem CP_RK {h h' : Hp} (r : RK h h') (H : CP h) : CP h' := CP_fr (funext fun k => r 4 k (Or.inl (by decide))) (funext fun k => r 5 k (Or.inl (by decide))) (funext fun k => r 6 k (Or.inl (by decide))) (funext fun k => r 7 k (Or.inl (by decide))) (funext fun k => r 8 k (Or.inl (by decide))) H
theorem start_at {h : Hp} {s : Sh} (hS : shC h s) (hs : okS s) : ∃ h', Jcs_start h = some h' ∧ RB h' s ∧ CR h' s (LV s 0) ∧ h' 10 9 = nI 0 ∧ h' 10 12 = nI 0 ∧ h' 10 13 = nI 0 ∧ RK h h' := by
  have h6 := hs.1
  obtain ⟨r, l1, l2, l3⟩ := loop_cnt (fun t => Jcs_start_L10 t.1 t.2) (fun i t => t.1 = nI i ∧ (∀ f, f < i → t.2 17 f = nI (if f < s.1 then s.2.1 f else 0)) ∧ ∀ p k, p ≠ 17 → t.2 p k = (hset h 10 8 (nI s.2.2)) p k) (fun r => (∀ f, f < 6 → r.2 17 f = nI (if f < s.1 then s.2.1 f else 0)) ∧ ∀ p k, p ≠ 17 → r.2 p k = (hset h 10 8 (nI s.2.2)) p k) 6 (fun i t hi ht => by
      obtain ⟨i', hh⟩ := t
      obtain ⟨e1, h1, h2⟩ := ht
      replace e1 : i' = nI i := e1
      subst e1
      replace h1 : ∀ f, f < i → hh 17 f = nI (if f < s.1 then s.2.1 f else 0) := h1
      replace h2 : ∀ p k, p ≠ 17 → hh p k = (hset h 10 8 (nI s.2.2)) p k := h2
      have u : shC hh s := ⟨by rw [h2 29 1 (by decide), hset_if, if_neg (by decide)]; exact hS.1, by rw [h2 29 2 (by decide), hset_if, if_neg (by decide)]; exact hS.2.1, fun j hj => by rw [h2 30 j (by decide), hset_if, if_neg (by simp)]; exact hS.2.2 j hj⟩
      have a := codeAt_at u h6 hi
      refine Or.inl ⟨(nI (i + 1), hset hh 17 i (nI (if i < s.1 then s.2.1 i else 0))), ?_, rfl, fun f hf => ?_, fun p k hp => ?_⟩
      · show Jcs_start_L10 (nI i) hh = _
        unfold Jcs_start_L10
        rw [if_pos (show nI i < (6 : Int32) from (nI_ltI (b := 6) (by omega) (by omega)).mpr hi), a, bd_some, ib_nI (by omega) (by omega), cond_true, nI_clamp (by omega), lt_of', lit 1, nI_add]
      · show hset hh 17 i _ 17 f = _
        rw [hset_if]
        by_cases z : f = i
        · subst z; rw [if_pos ⟨rfl, rfl⟩]
        · rw [if_neg (by simp [z])]; exact h1 f (by omega)
      · show hset hh 17 i _ p k = _
        rw [hset_if, if_neg (fun w => hp w.1)]
        exact h2 p k hp) (fun t ht => by
      obtain ⟨i', hh⟩ := t
      obtain ⟨e1, h1⟩ := ht
      replace e1 : i' = nI 6 := e1
      subst e1
      exact ⟨(nI 6, hh), rfl, h1⟩) (F := 1000000) (by omega) (a := 0) (by omega) (s := (0, hset h 10 8 (nI s.2.2))) ⟨rfl, fun f hf => absurd hf (by omega), fun _ _ _ => rfl⟩
  obtain ⟨r2, m1, m2, m3⟩ := loop_cnt (fun t => Jcs_start_L35 t.1 t.2) (fun i t => t.1 = nI i ∧ (∀ c, c < i → t.2 11 c = -1 ∧ t.2 12 c = -1) ∧ ∀ p k, p ≠ 11 → p ≠ 12 → t.2 p k = r.2 p k) (fun t => (∀ c, c < 256 → t.2 11 c = -1 ∧ t.2 12 c = -1) ∧ ∀ p k, p ≠ 11 → p ≠ 12 → t.2 p k = r.2 p k) 256 (fun i t hi ht => by
      obtain ⟨i', hh⟩ := t
      obtain ⟨e1, h1, h2⟩ := ht
      replace e1 : i' = nI i := e1
      subst e1
      replace h1 : ∀ c, c < i → hh 11 c = -1 ∧ hh 12 c = -1 := h1
      replace h2 : ∀ p k, p ≠ 11 → p ≠ 12 → hh p k = r.2 p k := h2
      refine Or.inl ⟨(nI (i + 1), hset (hset hh 11 i (-1)) 12 i (-1)), ?_, rfl, fun c hc => ?_, fun p k w1 w2 => ?_⟩
      · simp (disch := omega) only [Jcs_start_L35, bd_some, lt_of', sm_l, sm_r, lit, lN_n, hset_if, nI_ltP, nI_eqI, nI_add, nI_sub, nI_clamp, ib_nI, cond_true, if_pos, if_neg, and_self, and_true, true_and, false_and, and_false, ↓reduceIte, eq_self, nI_m1]
      · show hset (hset hh 11 i (-1)) 12 i (-1) 11 c = -1 ∧ hset (hset hh 11 i (-1)) 12 i (-1) 12 c = -1
        simp only [hset_if]
        by_cases z : c = i
        · subst z; simp
        · have := h1 c (by omega)
          simp [z, this]
      · show hset (hset hh 11 i (-1)) 12 i (-1) p k = _
        simp only [hset_if]
        rw [if_neg (fun w => w2 w.1), if_neg (fun w => w1 w.1)]
        exact h2 p k w1 w2) (fun t ht => by
      obtain ⟨i', hh⟩ := t
      obtain ⟨e1, h1⟩ := ht
      replace e1 : i' = nI 256 := e1
      subst e1
      exact ⟨(nI 256, hh), by simp (disch := omega) only [Jcs_start_L35, bd_some, lt_of', sm_l, sm_r, lit, lN_n, hset_if, nI_ltP, nI_eqI, nI_add, nI_sub, nI_clamp, ib_nI, cond_true, if_pos, if_neg, and_self, and_true, true_and, false_and, and_false, ↓reduceIte, eq_self, nI_m1], h1⟩) (F := 1000000) (by omega) (a := 0) (by omega) (s := (0, r.2)) ⟨rfl, fun f hf => absurd hf (by omega), fun _ _ _ _ => rfl⟩
  refine ⟨hset (hset (hset (hset (hset (hset r2.2 11 240 0) 11 204 0) 11 170 0) 10 9 0) 10 12 0) 10 13 0, ?_, ⟨?_, fun f hf => ?_⟩, fun c hc => ?_, ?_, ?_, ?_, fun p k w => ?_⟩
  · unfold Jcs_start
    rw [show Jsh_chosenSet h = some (nI s.2.2) from by unfold Jsh_chosenSet; rw [hS.2.1], bd_some, lt_of', l1, bd_some, m1, bd_some]
    rfl
  · simp only [hset_if]
    rw [if_neg (by decide), if_neg (by decide), if_neg (by decide), if_neg (by decide), if_neg (by decide), if_neg (by decide), m3 10 8 (by decide) (by decide), l3 10 8 (by decide), hset_if, if_pos (by decide)]
  · simp only [hset_if]
    rw [if_neg (by simp), if_neg (by simp), if_neg (by simp), if_neg (by simp), if_neg (by simp), if_neg (by simp), m3 17 f (by decide) (by decide)]
    have := l2 f (Nat.lt_of_lt_of_le hf.1 h6)
    rw [if_pos hf.1] at this
    exact this
  · have e12 : hset (hset (hset (hset (hset (hset r2.2 11 240 0) 11 204 0) 11 170 0) 10 9 0) 10 12 0) 10 13 0 12 c = -1 := by
      simp only [hset_if]
      rw [if_neg (by simp), if_neg (by simp), if_neg (by simp), if_neg (by simp), if_neg (by simp), if_neg (by simp)]
      exact (m2 c hc).2
    have e11 : (base3 c → hset (hset (hset (hset (hset (hset r2.2 11 240 0) 11 204 0) 11 170 0) 10 9 0) 10 12 0) 10 13 0 11 c = nI 0) ∧ (¬ base3 c → hset (hset (hset (hset (hset (hset r2.2 11 240 0) 11 204 0) 11 170 0) 10 9 0) 10 12 0) 10 13 0 11 c = -1) := by
      simp only [hset_if]
      rw [if_neg (by simp), if_neg (by simp), if_neg (by simp)]
      constructor
      · intro q
        rcases q with rfl | rfl | rfl <;> rfl
      · intro q
        rw [if_neg (fun w => q (Or.inl w.2)), if_neg (fun w => q (Or.inr (Or.inl w.2))), if_neg (fun w => q (Or.inr (Or.inr w.2)))]
        exact (m2 c hc).1
    rw [e12]
    by_cases q : base3 c
    · rw [e11.1 q, (LV_0 s c).mpr q]
      refine ⟨fun k e => ?_, fun w => by cases w⟩
      cases e
      exact ⟨rfl, fun _ => rfl, fun w => absurd w (by omega)⟩
    · rw [e11.2 q, (LV_0n s c).mpr q]
      exact ⟨fun k e => (by cases e), fun _ => ⟨rfl, rfl⟩⟩
  · simp [hset_if]; rfl
  · simp [hset_if]; rfl
  · simp [hset_if]; rfl
  · simp only [hset_if]
    rw [if_neg (by omega), if_neg (by omega), if_neg (by omega), if_neg (by omega), if_neg (by omega), if_neg (by omega), m3 p k (by omega) (by omega), l3 p k (by omega), hset_if, if_neg (by omega)]
theorem miss_at {h : Hp} {S : Nat} (hP : CP h) (hS : S < 4096) : ∃ h', Jcs_miss (nI S) h = some h' ∧ MS h' S ∧ ∀ p k, p ≠ 15 → ¬ (p = 10 ∧ k = 10) → h' p k = h p k := by
  obtain ⟨r, l1, l2⟩ := loop_cnt (fun t => Jcs_miss_L7 (nI S) t.1 t.2) (fun i t => t.1 = nI i ∧ (∃ (a : Nat) (ai : Nat → Nat), t.2 10 10 = nI a ∧ a ≤ i ∧ (∀ j, j < a → t.2 15 j = nI (ai j) ∧ ai j < 256) ∧ ∀ c, c < i → h 11 c = -1 → inT S c = true → ∃ l, l < a ∧ ai l = c) ∧ ∀ p k, p ≠ 15 → ¬ (p = 10 ∧ k = 10) → t.2 p k = h p k) (fun r => MS r.2 S ∧ ∀ p k, p ≠ 15 → ¬ (p = 10 ∧ k = 10) → r.2 p k = h p k) 256 (fun i t hi ht => by
      obtain ⟨i', hh⟩ := t
      obtain ⟨e1, ⟨a, ai, a1, a2, a3, a4⟩, fr⟩ := ht
      replace e1 : i' = nI i := e1
      subst e1
      replace a1 : hh 10 10 = nI a := a1
      replace a3 : ∀ j, j < a → hh 15 j = nI (ai j) ∧ ai j < 256 := a3
      replace fr : ∀ p k, p ≠ 15 → ¬ (p = 10 ∧ k = 10) → hh p k = h p k := fr
      have hP' : CP hh := CP_fr (funext fun k => fr 4 k (by decide) (by simp)) (funext fun k => fr 5 k (by decide) (by simp)) (funext fun k => fr 6 k (by decide) (by simp)) (funext fun k => fr 7 k (by decide) (by simp)) (funext fun k => fr 8 k (by decide) (by simp)) hP
      have v := isIn_at hP' hS hi
      have e11 := fr 11 i (by decide) (by simp)
      have keep : ¬ (h 11 i = -1 ∧ inT S i = true) → ∀ c, c < i + 1 → h 11 c = -1 → inT S c = true → ∃ l, l < a ∧ ai l = c := fun w c c1 c2 c3 => by
        by_cases z : c = i
        · subst z; exact absurd ⟨c2, c3⟩ w
        · exact a4 c (by omega) c2 c3
      by_cases b : h 11 i = -1
      · have e11' : hh 11 i = -nI 1 := e11.trans b
        by_cases b2 : inT S i = true
        · rw [if_pos b2] at v
          refine Or.inl ⟨(nI (i + 1), hset (hset hh 15 a (nI i)) 10 10 (nI (a + 1))), ?_, rfl, ⟨a + 1, fun l => if l = a then i else ai l, ?_, by omega, fun j hj => ?_, fun c c1 c2 c3 => ?_⟩, fun p k w1 w2 => ?_⟩
          · simp (disch := omega) only [Jcs_miss_L7, e11', v, a1, bd_some, lt_of', sm_l, sm_r, lit, lN_n, hset_if, nI_ltP, nI_eqI, nI_add, nI_sub, nI_clamp, ib_nI, cond_true, if_pos, if_neg, and_self, and_true, true_and, false_and, and_false, ↓reduceIte, eq_self, nI_m1]
            all_goals simp
          · show hset (hset hh 15 a (nI i)) 10 10 (nI (a + 1)) 10 10 = _
            rw [hset_if, if_pos (by decide)]
          · show hset (hset hh 15 a (nI i)) 10 10 (nI (a + 1)) 15 j = _ ∧ _
            rw [hset_if, if_neg (by simp), hset_if]
            by_cases z : j = a
            · subst z; simp [hi]
            · have := a3 j (by omega)
              simp [z, this]
          · by_cases z : c = i
            · subst z; exact ⟨a, by omega, if_pos rfl⟩
            · obtain ⟨l, k1, k2⟩ := a4 c (by omega) c2 c3
              exact ⟨l, by omega, (if_neg (show ¬ l = a by omega)).trans k2⟩
          · show hset (hset hh 15 a (nI i)) 10 10 (nI (a + 1)) p k = _
            rw [hset_if, if_neg w2, hset_if, if_neg (fun w => w1 w.1)]
            exact fr p k w1 w2
        · rw [if_neg b2] at v
          refine Or.inl ⟨(nI (i + 1), hh), ?_, rfl, ⟨a, ai, a1, by omega, a3, keep (fun w => b2 w.2)⟩, fr⟩
          simp (disch := omega) only [Jcs_miss_L7, e11', v, a1, bd_some, lt_of', sm_l, sm_r, lit, lN_n, hset_if, nI_ltP, nI_eqI, nI_add, nI_sub, nI_clamp, ib_nI, cond_true, if_pos, if_neg, and_self, and_true, true_and, false_and, and_false, ↓reduceIte, eq_self, nI_m1]
          all_goals simp
      · have e11' : ¬ hh 11 i = -nI 1 := fun w => b (e11.symm.trans w)
        refine Or.inl ⟨(nI (i + 1), hh), ?_, rfl, ⟨a, ai, a1, by omega, a3, keep (fun w => b w.1)⟩, fr⟩
        simp (disch := omega) only [Jcs_miss_L7, e11', a1, bd_some, lt_of', sm_l, sm_r, lit, lN_n, hset_if, nI_ltP, nI_eqI, nI_add, nI_sub, nI_clamp, ib_nI, cond_true, if_pos, if_neg, and_self, and_true, true_and, false_and, and_false, ↓reduceIte, eq_self, nI_m1]
        all_goals simp) (fun t ht => by
      obtain ⟨i', hh⟩ := t
      obtain ⟨e1, ⟨a, ai, a1, a2, a3, a4⟩, fr⟩ := ht
      replace e1 : i' = nI 256 := e1
      subst e1
      replace fr : ∀ p k, p ≠ 15 → ¬ (p = 10 ∧ k = 10) → hh p k = h p k := fr
      refine ⟨(nI 256, hh), by simp (disch := omega) only [Jcs_miss_L7, bd_some, lt_of', sm_l, sm_r, lit, lN_n, hset_if, nI_ltP, nI_eqI, nI_add, nI_sub, nI_clamp, ib_nI, cond_true, if_pos, if_neg, and_self, and_true, true_and, false_and, and_false, ↓reduceIte, eq_self, nI_m1], ⟨a, ai, a1, a2, a3, fun c hc u w => a4 c hc ((fr 11 c (by decide) (by simp)).symm.trans u) w⟩, fr⟩) (F := 1000000) (by omega) (a := 0) (by omega) (s := (0, hset h 10 10 0)) ⟨rfl, ⟨0, fun _ => 0, by
        show hset h 10 10 0 10 10 = _
        rw [hset_if, if_pos (by decide)]; rfl, Nat.le_refl 0, fun j hj => absurd hj (by omega), fun j hj => absurd hj (by omega)⟩, fun p k w1 w2 => by
        show hset h 10 10 0 p k = _
        rw [hset_if, if_neg w2]⟩
  refine ⟨r.2, ?_, l2⟩
  unfold Jcs_miss
  rw [lt_of']
  exact bd_of l1
