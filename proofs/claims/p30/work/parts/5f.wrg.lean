/-! What is written in the book, and the first that is wrong. -/
def bkC (h : Hp) (n : Nat) (K : Nat → Nat) (V : Nat → Int32) : Prop := h 26 2 = nI n ∧ ∀ i, i < n → h 27 i = nI (K i) ∧ h 28 i = V i
def bkM (h : Hp) (n : Nat) (K : Nat → Nat) (V : Nat → Int32) : Prop := h 37 10 = nI n ∧ ∀ i, i < n → h 41 i = nI (K i) ∧ h 42 i = V i
def okB (n : Nat) (K : Nat → Nat) : Prop := n ≤ 20 ∧ ∀ i, i < n → K i < 256
def WR (f : Nat → Int32) (n : Nat) (K : Nat → Nat) (V : Nat → Int32) (r : Int32) : Prop := (∃ i, i < n ∧ r = nI i ∧ f (K i) ≠ V i ∧ ∀ j, j < i → f (K j) = V j) ∨ (r = -1 ∧ ∀ j, j < n → f (K j) = V j)
theorem WR_uniq {f f' : Nat → Int32} {n : Nat} {K : Nat → Nat} {V : Nat → Int32} {r r' : Int32} (e : ∀ i, i < n → f (K i) = f' (K i)) (h : WR f n K V r) (h' : WR f' n K V r') : r = r' := by
  rcases h with ⟨i, i1, rfl, i2, i3⟩ | ⟨rfl, i3⟩ <;> rcases h' with ⟨j, j1, rfl, j2, j3⟩ | ⟨rfl, j3⟩
  · rcases Nat.lt_trichotomy i j with w | w | w
    · exact absurd ((e i i1).trans (j3 i w)) i2
    · rw [w]
    · exact absurd ((e j j1).symm.trans (i3 j w)) j2
  · exact absurd ((e i i1).trans (j3 i i1)) i2
  · exact absurd ((e j j1).symm.trans (i3 j j1)) j2
  · rfl
theorem wrongC_at {h : Hp} {n : Nat} {K : Nat → Nat} {V : Nat → Int32} (H : bkC h n K V) (ok : okB n K) : ∃ r, Jbk_firstWrong h = some r ∧ WR (fun c => h 11 c) n K V r := by
  obtain ⟨o1, o2⟩ := ok
  obtain ⟨r, l1, l2⟩ := loop_cnt (fun t => Jbk_firstWrong_L2 h t) (fun i t => t = nI i ∧ ∀ j, j < i → h 11 (K j) = V j) (fun r => sm r (fun _ => ∀ j, j < n → h 11 (K j) = V j) (fun v => ∃ i, i < n ∧ v = nI i ∧ h 11 (K i) ≠ V i ∧ ∀ j, j < i → h 11 (K j) = V j)) n (fun i t hi ht => by
      obtain ⟨rfl, ih⟩ := ht
      obtain ⟨e1, e2⟩ := H.2 i hi
      have run : Jbk_firstWrong_L2 h (nI i) = if h 11 (K i) = V i then some (.inl (nI (i + 1))) else some (.inr (.inr (nI i))) := by
        unfold Jbk_firstWrong_L2
        rw [H.1, if_pos ((nI_ltI (by omega) (by omega)).mpr hi), if_pos (show nI i < (20 : Int32) from (nI_ltI (b := 20) (by omega) (by omega)).mpr (by omega)), ib_nI (by omega) (by omega), cond_true, nI_clamp (by omega), e1, costOf_at (o2 i hi), bd_some, cond_true, e2, lit 1, nI_add]
      by_cases q : h 11 (K i) = V i
      · refine Or.inl ⟨nI (i + 1), by rw [run, if_pos q], rfl, fun j hj => ?_⟩
        by_cases z : j = i
        · rw [z]; exact q
        · exact ih j (by omega)
      · exact Or.inr ⟨.inr (nI i), by rw [run, if_neg q], i, hi, rfl, q, ih⟩) (fun t ht => by
      obtain ⟨rfl, ih⟩ := ht
      refine ⟨.inl (nI n), ?_, ih⟩
      unfold Jbk_firstWrong_L2
      rw [H.1, if_neg (fun w => absurd ((nI_ltI (by omega) (by omega)).mp w) (by omega))]) (F := 1000000) (by omega) (a := 0) (by omega) (s := 0) ⟨rfl, fun j hj => absurd hj (Nat.not_lt_zero j)⟩
  unfold Jbk_firstWrong
  cases r with
  | inl t => exact ⟨-1, bd_of l1, Or.inr ⟨rfl, l2⟩⟩
  | inr v => exact ⟨v, bd_of l1, Or.inl l2⟩
theorem wrongM_at {h : Hp} {s : Sh} {n : Nat} {K : Nat → Nat} {V : Nat → Int32} (hs : okS s) (M : mdS h s) (H : bkM h n K V) (ok : okB n K) : ∃ r h', Jm_wrong h = some (r, h') ∧ WR (fun c => h' 46 c) n K V r ∧ mdS h' s ∧ MF h' s ∧ RMM h h' := by
  obtain ⟨o1, o2⟩ := ok
  obtain ⟨h', a1, a2, a3, a4⟩ := mdS_lay hs M
  have H1 : h' 37 10 = nI n := (a4 37 10 (by simp) (Or.inl (by decide))).trans H.1
  have H2 : ∀ i, i < n → h' 41 i = nI (K i) ∧ h' 42 i = V i := fun i hi => ⟨(a4 41 i (by simp) (Or.inl (by decide))).trans (H.2 i hi).1, (a4 42 i (by simp) (Or.inl (by decide))).trans (H.2 i hi).2⟩
  obtain ⟨r, l1, l2⟩ := loop_cnt (fun t => Jm_wrong_L6 h' t) (fun i t => t = nI i ∧ ∀ j, j < i → h' 46 (K j) = V j) (fun r => sm r (fun _ => ∀ j, j < n → h' 46 (K j) = V j) (fun v => v.2 = h' ∧ ∃ i, i < n ∧ v.1 = nI i ∧ h' 46 (K i) ≠ V i ∧ ∀ j, j < i → h' 46 (K j) = V j)) n (fun i t hi ht => by
      obtain ⟨rfl, ih⟩ := ht
      obtain ⟨e1, e2⟩ := H2 i hi
      have run : Jm_wrong_L6 h' (nI i) = if h' 46 (K i) = V i then some (.inl (nI (i + 1))) else some (.inr (.inr (nI i, h'))) := by
        unfold Jm_wrong_L6
        rw [H1, if_pos ((nI_ltI (by omega) (by omega)).mpr hi), ib_nI (by omega) (by omega), cond_true, nI_clamp (by omega), e1, ib_nI (o2 i hi) (by have := o2 i hi; omega), cond_true, nI_clamp (by have := o2 i hi; omega), cond_true, e2, lit 1, nI_add]
      by_cases q : h' 46 (K i) = V i
      · refine Or.inl ⟨nI (i + 1), by rw [run, if_pos q], rfl, fun j hj => ?_⟩
        by_cases z : j = i
        · rw [z]; exact q
        · exact ih j (by omega)
      · exact Or.inr ⟨.inr (nI i, h'), by rw [run, if_neg q], rfl, i, hi, rfl, q, ih⟩) (fun t ht => by
      obtain ⟨rfl, ih⟩ := ht
      refine ⟨.inl (nI n), ?_, ih⟩
      unfold Jm_wrong_L6
      rw [H1, if_neg (fun w => absurd ((nI_ltI (by omega) (by omega)).mp w) (by omega))]) (F := 1000000) (by omega) (a := 0) (by omega) (s := 0) ⟨rfl, fun j hj => absurd hj (Nat.not_lt_zero j)⟩
  unfold Jm_wrong
  rw [a1, bd_some]
  cases r with
  | inl t => exact ⟨-1, h', bd_of l1, Or.inr ⟨rfl, l2⟩, a3, a2, a4⟩
  | inr v =>
    obtain ⟨v1, v2⟩ := v
    obtain ⟨w1, w2⟩ := l2
    replace w1 : v2 = h' := w1
    subst w1
    exact ⟨v1, v2, bd_of l1, Or.inl w2, a3, a2, a4⟩
