/-! The common traits; whether the costs still hold; the class's reckoning. -/
def cmX (s : Sh) (B k : Nat) : Nat → Nat
  | 0 => 4095
  | i + 1 => if tl B i = 1 ∧ i ≠ k then cmX s B k i &&& trN (s.2.1 i) else cmX s B k i
theorem cmX_lt (s : Sh) (B k : Nat) : ∀ i, cmX s B k i < 4096
  | 0 => by rw [cmX]; omega
  | i + 1 => by
    rw [cmX]
    by_cases q : tl B i = 1 ∧ i ≠ k
    · rw [if_pos q]; exact and_lt4 (cmX_lt s B k i)
    · rw [if_neg q]; exact cmX_lt s B k i
theorem isP_4095 : isP 4095 = true := by decide +kernel
theorem cmX_isP {s : Sh} (hs : okS s) (B k : Nat) : ∀ i, i ≤ s.1 → isP (cmX s B k i) = true
  | 0, _ => isP_4095
  | i + 1, hi => by
    have ih := cmX_isP hs B k i (by omega)
    rw [cmX]
    by_cases q : tl B i = 1 ∧ i ≠ k
    · rw [if_pos q]
      obtain ⟨h1, h2⟩ := isP_ix (cmX_lt s B k i) ih
      have := ((pcE_at (hs.2.1 i (by omega))).2.2 _ h1).1
      rw [h2] at this
      exact this
    · rw [if_neg q]; exact ih
theorem and_sub {a b c : Nat} (h : a &&& c = c) : (a &&& b) &&& (c &&& b) = c &&& b := by
  have : (a &&& b) &&& (c &&& b) = (a &&& c) &&& b := by
    refine Nat.eq_of_testBit_eq fun i => ?_
    simp only [Nat.testBit_and]
    cases a.testBit i <;> cases b.testBit i <;> cases c.testBit i <;> rfl
  rw [this, h]
theorem cmX_sub {s : Sh} {B k : Nat} : ∀ {n g : Nat}, g < n → tl B g = 1 → g ≠ k → trN (s.2.1 g) &&& cmX s B k n = cmX s B k n
  | 0, g, h, _, _ => absurd h (Nat.not_lt_zero g)
  | n + 1, g, h, e, hk => by
    rw [cmX]
    by_cases z : g = n
    · subst z
      rw [if_pos ⟨e, hk⟩, ← Nat.and_assoc, Nat.and_comm (trN (s.2.1 g)), Nat.and_assoc, Nat.and_self]
    · have ih := cmX_sub (s := s) (k := k) (n := n) (by omega) e hk
      by_cases q : tl B n = 1 ∧ n ≠ k
      · rw [if_pos q, ← Nat.and_assoc, ih]
      · rw [if_neg q]; exact ih
/-- the common traits of the base -/
def cmS (s : Sh) : Nat := cmX s s.2.2 99 s.1
theorem cmS_lt (s : Sh) : cmS s < 4096 := cmX_lt _ _ _ _
theorem cmS_in {s : Sh} (hs : okS s) : ∀ g, chs s g → inT (cmS s) (s.2.1 g) = true := fun g hg => beq_e (cmX_sub hg.1 hg.2 (by have := hg.1; have := hs.1; omega))
theorem cmS_isP {s : Sh} (hs : okS s) : isP (cmS s) = true := cmX_isP hs _ _ _ (Nat.le_refl _)
theorem size_at {h : Hp} {s : Sh} (hS : shC h s) : Jsh_size h = some (nI s.1) := by unfold Jsh_size; rw [hS.1]
theorem chosen_at {h : Hp} {s : Sh} (hS : shC h s) : Jsh_chosenSet h = some (nI s.2.2) := by unfold Jsh_chosenSet; rw [hS.2.1]
theorem cmX_eq {s : Sh} {B B' k k' : Nat} : ∀ {n : Nat}, (∀ i, i < n → ((tl B i = 1 ∧ i ≠ k) ↔ (tl B' i = 1 ∧ i ≠ k'))) → cmX s B k n = cmX s B' k' n
  | 0, _ => rfl
  | n + 1, h => by
    rw [cmX, cmX, cmX_eq fun i hi => h i (by omega)]
    by_cases q : tl B n = 1 ∧ n ≠ k
    · rw [if_pos q, if_pos ((h n (by omega)).mp q)]
    · rw [if_neg q, if_neg (fun w => q ((h n (by omega)).mpr w))]
theorem commonOf_at {h : Hp} {s : Sh} (hS : shC h s) (hs : okS s) (hP : CP h) {B : Nat} (hB : B < 2 ^ 31) : Jyn_commonOf (nI B) h = some (nI (cmX s B 99 s.1)) := by
  have h6 := hs.1
  obtain ⟨r, l1, l2⟩ := loop_cnt (fun t => Jyn_commonOf_L6 (nI B) h t.1 t.2) (fun i t => t = (nI (cmX s B 99 i), nI i)) (fun r => r.1 = nI (cmX s B 99 s.1)) s.1 (fun i t hi ht => by
      subst ht
      refine Or.inl ⟨(nI (cmX s B 99 (i + 1)), nI (i + 1)), ?_, rfl⟩
      have a1 := size_at hS
      have a2 := codeAt_in hS h6 hi
      have a3 := traitsOf_at hP (hs.2.1 i hi)
      have a4 : (nI B >>> (nI i &&& 31) : Int32) &&& (1 : Int32) = nI (tl B i) := tl_e hB (by omega)
      show Jyn_commonOf_L6 (nI B) h (nI (cmX s B 99 i)) (nI i) = _
      unfold Jyn_commonOf_L6
      rw [a1, bd_some, if_pos ((nI_ltI (by omega) (by omega)).mpr hi), a4, cmX]
      rcases t01 (tl_le B i) with q | q
      · rw [q, if_pos (show nI 0 = (0 : Int32) from rfl), if_neg (by omega), lit 1, nI_add]
      · rw [q, if_neg (by decide), if_pos ⟨rfl, by omega⟩, a2, bd_some, a3, bd_some, nI_and, lit 1, nI_add]) (fun t ht => by
      subst ht
      refine ⟨(nI (cmX s B 99 s.1), nI s.1), ?_, rfl⟩
      have a1 := size_at hS
      show Jyn_commonOf_L6 (nI B) h (nI (cmX s B 99 s.1)) (nI s.1) = _
      unfold Jyn_commonOf_L6
      rw [a1, bd_some, if_neg (fun w => absurd ((nI_ltI (by omega) (by omega)).mp w) (by omega))]) (F := 1000000) (by omega) (a := 0) (by omega) (s := (4095, 0)) rfl
  unfold Jyn_commonOf
  exact (bd_of l1).trans (by rw [l2])
theorem commonC_at {h : Hp} {s : Sh} (hS : shC h s) (hs : okS s) (hP : CP h) : Jyn_common h = some (nI (cmS s)) := by
  have := base_lt hs
  unfold Jyn_common
  rw [chosen_at hS, bd_some, commonOf_at hS hs hP (by omega), bd_some]
  rfl
/-- the model's common traits; k is the function that is left out -/
theorem commonM_at {h : Hp} {s : Sh} {k : Nat} {v : Int32} (hv : v = nI k ∨ (k = 99 ∧ v = -1)) (hk : k < 100) (hS : rowM h 0 s) (hs : okS s) (H : tRaw h ∨ tLaid h) : ∃ h', Jm_common v h = some (nI (cmX s s.2.2 k s.1), h') ∧ tLaid h' ∧ (∀ j, j ≠ 12 → h' 37 j = h 37 j) ∧ ∀ p, p ≠ 37 → p ≠ 43 → h' p = h p := by
  have h6 := hs.1
  have hb := base_lt hs
  obtain ⟨h', a1, a2, a3, a4⟩ := layTraits_at H
  have e38 := a4 38 (by decide) (by decide)
  have s0 : h' 38 0 = nI s.1 := by rw [e38]; exact hS.1
  have s7 : h' 38 7 = nI s.2.2 := by rw [e38]; exact hS.2.1
  obtain ⟨r, l1, l2⟩ := loop_cnt (fun t => Jm_common_L10 v h' t.1 t.2) (fun i t => t = (nI (cmX s s.2.2 k i), nI i)) (fun r => r.1 = nI (cmX s s.2.2 k s.1)) s.1 (fun i t hi ht => by
      subst ht
      refine Or.inl ⟨(nI (cmX s s.2.2 k (i + 1)), nI (i + 1)), ?_, rfl⟩
      have b1 := has_tl (b := s.2.2) (t := i) (by omega) (by omega)
      have hc := hs.2.1 i hi
      have b2 : h' 38 (1 + i) = nI (s.2.1 i) := by
        rw [e38]
        have := hS.2.2 i hi
        rw [Nat.zero_add] at this
        exact this
      have b3 := a2.2 _ hc
      have b4 := cmX_lt s s.2.2 k i
      have skip : (nI (cmX s s.2.2 k i) &&& (4095 : Int32)) = nI (cmX s s.2.2 k i) := by
        rw [lit 4095, nI_and, and4095 b4]
      show Jm_common_L10 v h' (nI (cmX s s.2.2 k i)) (nI i) = _
      unfold Jm_common_L10
      rw [s0, if_pos ((nI_ltI (by omega) (by omega)).mpr hi), s7, b1, bd_some, skip, cmX]
      rcases t01 (tl_le s.2.2 i) with q | q
      · rw [q, if_pos (show nI 0 = (0 : Int32) from rfl), if_neg (by omega), lit 1, nI_add]
      · rw [q, if_neg (by decide)]
        by_cases z : i = k
        · have zv : nI i = v := by
            rcases hv with hv | hv
            · rw [hv, z]
            · omega
          rw [if_pos zv, if_neg (by omega), lit 1, nI_add]
        · have zv : ¬ nI i = v := by
            rcases hv with hv | hv
            · rw [hv]
              exact fun w => z ((nI_eq (by omega) (by omega)).mp w)
            · rw [hv.2]
              exact nI_ne1 (by omega)
          rw [if_neg zv, if_pos ⟨rfl, z⟩, lit 1, nI_add, ib_nI (by omega) (by omega), cond_true, nI_clamp (by omega), b2, ib_nI (by omega) (by omega), cond_true, nI_clamp (by omega), b3, nI_and, nI_add]) (fun t ht => by
      subst ht
      refine ⟨(nI (cmX s s.2.2 k s.1), nI s.1), ?_, rfl⟩
      show Jm_common_L10 v h' (nI (cmX s s.2.2 k s.1)) (nI s.1) = _
      unfold Jm_common_L10
      rw [s0, if_neg (fun w => absurd ((nI_ltI (by omega) (by omega)).mp w) (by omega))]) (F := 1000000) (by omega) (a := 0) (by omega) (s := (4095, 0)) rfl
  refine ⟨h', ?_, a2, a3, a4⟩
  unfold Jm_common
  rw [a1, bd_some]
  exact (bd_of l1).trans (by rw [l2])
/-- the same base -/
def Same (s s0 : Sh) : Prop := s.2.2 = s0.2.2 ∧ ∀ f, chs s f → s.2.1 f = s0.2.1 f
theorem chs_bit {s : Sh} (hs : okS s) {f : Nat} : chs s f ↔ tl s.2.2 f = 1 := by
  constructor
  · intro h; exact h.2
  · intro h
    refine ⟨?_, h⟩
    refine Nat.not_le.mp fun q => ?_
    rw [tl_big hs.2.2 q] at h
    cases h
theorem Same_chs {s s0 : Sh} (hs : okS s) (hs0 : okS s0) (h : Same s s0) {f : Nat} : chs s f ↔ chs s0 f := by
  rw [chs_bit hs, chs_bit hs0, h.1]
theorem Same_LV {s s0 : Sh} (hs : okS s) (hs0 : okS s0) (h : Same s s0) : ∀ n, LV s n = LV s0 n
  | 0 => rfl
  | n + 1 => by
    have ih := Same_LV hs hs0 h n
    have iff : ∀ c, (∃ f, chs s f ∧ WayE (LV s n) (s.2.1 f) (n + 1) c) ↔ ∃ f, chs s0 f ∧ WayE (LV s0 n) (s0.2.1 f) (n + 1) c := fun c => by
      constructor
      · intro ⟨f, h1, h2⟩
        refine ⟨f, (Same_chs hs hs0 h).mp h1, ?_⟩
        rw [← h.2 f h1, ← ih]
        exact h2
      · intro ⟨f, h1, h2⟩
        have h1' := (Same_chs hs hs0 h).mpr h1
        refine ⟨f, h1', ?_⟩
        rw [h.2 f h1', ih]
        exact h2
    funext c
    cases q : LV s n c with
    | some k =>
      rw [LV_keep q, LV_keep (s := s0) (by rw [← ih]; exact q)]
    | none =>
      have q' : LV s0 n c = none := by rw [← ih]; exact q
      by_cases w : ∃ f, chs s f ∧ WayE (LV s n) (s.2.1 f) (n + 1) c
      · rw [LV_new q w, LV_new q' ((iff c).mp w)]
      · rw [LV_not q w, LV_not q' (fun v => w ((iff c).mpr v))]
theorem Same_FC {s s0 : Sh} (hs : okS s) (hs0 : okS s0) (h : Same s s0) : FC s = FC s0 := by
  rw [FC_is s (n := 9999) rfl, FC_is s0 (n := 9999) rfl, Same_LV hs hs0 h]
theorem Same_way {s s0 : Sh} (hs : okS s) (hs0 : okS s0) (h : Same s s0) {g k c : Nat} : (chs s g ∧ WayE (LV s (k - 1)) (s.2.1 g) k c) ↔ (chs s0 g ∧ WayE (LV s0 (k - 1)) (s0.2.1 g) k c) := by
  constructor
  · intro ⟨h1, h2⟩
    refine ⟨(Same_chs hs hs0 h).mp h1, ?_⟩
    rw [← h.2 g h1, ← Same_LV hs hs0 h]
    exact h2
  · intro ⟨h1, h2⟩
    have h1' := (Same_chs hs hs0 h).mpr h1
    refine ⟨h1', ?_⟩
    rw [h.2 g h1', Same_LV hs hs0 h]
    exact h2
theorem Same_top {s s0 : Sh} (hs : okS s) (hs0 : okS s0) (h : Same s s0) {k c g : Nat} : isTop s k c g ↔ isTop s0 k c g := by
  unfold isTop
  rw [← and_assoc, ← and_assoc, Same_way hs hs0 h]
  constructor
  · intro ⟨a, b⟩; exact ⟨a, fun g' w v => b g' w ((Same_way hs hs0 h).mpr v)⟩
  · intro ⟨a, b⟩; exact ⟨a, fun g' w v => b g' w ((Same_way hs hs0 h).mp v)⟩
theorem Same_pts {s s0 : Sh} (hs : okS s) (hs0 : okS s0) (h : Same s s0) {k c g x y z : Nat} (hg : chs s g) : isPts s k c g x y z ↔ isPts s0 k c g x y z := by
  unfold isPts
  rw [h.2 g hg, Same_LV hs hs0 h]
theorem CR_same {h : Hp} {s s0 : Sh} (hs : okS s) (hs0 : okS s0) (hm : Same s s0) {C : Nat → Option Nat} (H : CR h s0 C) : CR h s C := by
  intro c hc
  obtain ⟨a, b⟩ := H c hc
  refine ⟨fun k e => ?_, b⟩
  obtain ⟨a1, a2, a3⟩ := a k e
  refine ⟨a1, a2, fun q => ?_⟩
  obtain ⟨g, g1, g2⟩ := a3 q
  exact ⟨g, (Same_top hs hs0 hm).mpr g1, g2⟩
theorem drN_same {s s0 : Sh} (hs : okS s) (hs0 : okS s0) (hm : Same s s0) (n : Nat) : drN s n = drN s0 n := by
  obtain ⟨c, c1, c2⟩ := drN_is s n
  obtain ⟨d, d1, d2⟩ := drN_is s0 n
  have e1 := drN_max (s := s0) (n := n) c1 (by rw [← Same_LV hs hs0 hm]; exact c2)
  have e2 := drN_max (s := s) (n := n) d1 (by rw [Same_LV hs hs0 hm]; exact d2)
  omega
theorem CF_same {h : Hp} {s s0 : Sh} (hs : okS s) (hs0 : okS s0) (hm : Same s s0) (H : CF h s0) : CF h s := by
  obtain ⟨a, b, c, n, bc, st, d1, d2, d3, d4, d5⟩ := H
  have fc := Same_FC hs hs0 hm
  unfold CF
  rw [fc, show gr s = gr s0 from drN_same hs hs0 hm 9999]
  exact ⟨CR_same hs hs0 hm a, ⟨by rw [hm.1]; exact b.1, fun f hf => by rw [hm.2 f hf]; exact b.2 f ((Same_chs hs hs0 hm).mp hf)⟩, c, n, bc, st, d1, d2, d3, d4, d5⟩
theorem areOf_no {h : Hp} {s : Sh} (hS : shC h s) (hs : okS s) (H : h 10 8 = -1) : Jcs_areOf h = some 0 := by
  have hb := base_lt hs
  unfold Jcs_areOf
  rw [chosen_at hS, bd_some, H, if_neg (nI_ne1 (by omega))]
theorem areOf_at {h : Hp} {s s0 : Sh} (hS : shC h s) (hs : okS s) (ok0 : okS s0) (H : CF h s0) : Jcs_areOf h = some 0 ∨ (Jcs_areOf h = some 1 ∧ Same s s0) := by
  have hb := base_lt hs
  unfold Jcs_areOf
  rw [chosen_at hS, bd_some]
  · obtain ⟨r1, r2⟩ := H.2.1
    have hb0 := base_lt ok0
    rw [r1]
    by_cases q : s.2.2 = s0.2.2
    · rw [if_pos (by rw [q])]
      have ch : ∀ f, chs s f ↔ chs s0 f := fun f => by rw [chs_bit hs, chs_bit ok0, q]
      obtain ⟨r, l1, l2⟩ := loop_cnt (fun t => Jcs_areOf_L15 h t) (fun i t => t = nI i ∧ ∀ f, f < i → chs s f → s.2.1 f = s0.2.1 f) (fun r => sm r (fun _ => ∀ f, f < 6 → chs s f → s.2.1 f = s0.2.1 f) (fun x => x = (0 : Int32))) 6 (fun i t hi ht => by
          obtain ⟨rfl, ih⟩ := ht
          have a1 := isChosen_at hS hs hi
          have hlt : nI i < (6 : Int32) := (nI_ltI (b := 6) (by omega) (by omega)).mpr hi
          by_cases b : chsB s i = true
          · have bi := chsB_iff.mp b
            have a2 := codeAt_in hS hs.1 bi.1
            have a3 := r2 i ((ch i).mp bi)
            have v1 := hs.2.1 i bi.1
            have v2 := ok0.2.1 i ((ch i).mp bi).1
            rw [if_pos b] at a1
            by_cases z : s.2.1 i = s0.2.1 i
            · refine Or.inl ⟨nI (i + 1), ?_, rfl, fun f hf w => ?_⟩
              · unfold Jcs_areOf_L15
                rw [if_pos hlt, a1, bd_some, if_neg (by decide), a2, bd_some, ib_nI hi (by omega), cond_true, nI_clamp (by omega), a3, if_pos (by rw [z]), lit 1, nI_add]
              · by_cases e : f = i
                · rw [e]; exact z
                · exact ih f (by omega) w
            · refine Or.inr ⟨.inr 0, ?_, rfl⟩
              unfold Jcs_areOf_L15
              rw [if_pos hlt, a1, bd_some, if_neg (by decide), a2, bd_some, ib_nI hi (by omega), cond_true, nI_clamp (by omega), a3, if_neg (fun w => z ((nI_eq (by omega) (by omega)).mp w))]
          · rw [if_neg b] at a1
            refine Or.inl ⟨nI (i + 1), ?_, rfl, fun f hf w => ?_⟩
            · unfold Jcs_areOf_L15
              rw [if_pos hlt, a1, bd_some, if_pos (show nI 0 = (0 : Int32) from rfl), lit 1, nI_add]
            · by_cases e : f = i
              · rw [e] at w; exact absurd (chsB_iff.mpr w) b
              · exact ih f (by omega) w) (fun t ht => by
          obtain ⟨rfl, ih⟩ := ht
          exact ⟨.inl (nI 6), rfl, ih⟩) (F := 1000000) (by omega) (a := 0) (by omega) (s := 0) ⟨rfl, fun f hf => absurd hf (Nat.not_lt_zero f)⟩
      cases r with
      | inl t =>
        right
        refine ⟨bd_of l1, q, fun f hf => l2 f (by have := hf.1; have := hs.1; omega) hf⟩
      | inr x =>
        left
        refine (bd_of l1).trans ?_
        show some x = some 0
        rw [show x = 0 from l2]
    · left
      rw [if_neg (fun w => q ((nI_eq (by omega) (by omega)).mp w))]
