/-! The class measures. -/
theorem pt_low {s : Sh} {k c g x y z : Nat} (hk : k ≤ 9999) (w : WayP (LV s (k - 1)) (s.2.1 g) k c x y z) {i : Nat} (hi : i < 3) (ha : i < arN (s.2.1 g)) : pt x y z i < 256 ∧ ∃ j, FC s (pt x y z i) = some j ∧ j < k := by
  obtain ⟨p1, p2, p3, -⟩ := pts_low hk w
  rcases (show i = 0 ∨ i = 1 ∨ i = 2 by omega) with rfl | rfl | rfl
  · exact p1 ha
  · exact p2 ha
  · exact p3 ha
theorem PAR_low {s : Sh} {d e k : Nat} (h : PAR s d e) (ek : FC s d = some k) : e < 256 ∧ ∃ j, FC s e = some j ∧ j < k := by
  obtain ⟨k', g, x, y, z, a, b, c, d', i, i1, i2, rfl⟩ := h
  rw [ek] at a
  cases a
  exact pt_low (FC_le ek) d'.1 i1 i2
theorem KN_pt {h : Hp} {s : Sh} {d : Nat} (H : KN h s d) : ∃ k g x y z, FC s d = some k ∧ 0 < k ∧ isTop s k d g ∧ isPts s k d g x y z ∧ ∀ i, i < 3 → h 22 (3 * d + i) = pv (arN (s.2.1 g)) i (pt x y z i) := by
  obtain ⟨k, g, x, y, z, a, b, c, d', e1, e2, e3⟩ := H
  refine ⟨k, g, x, y, z, a, b, c, d', fun i hi => ?_⟩
  rcases (show i = 0 ∨ i = 1 ∨ i = 2 by omega) with rfl | rfl | rfl
  · exact e1
  · exact e2
  · exact e3
theorem knownPart_at {h : Hp} {d i : Nat} (hd : d < 256) (hi : i < 3) : Jwy_knownPart (nI d) (nI i) h = some (if h 23 d = 0 then -1 else h 22 (3 * d + i)) := by
  unfold Jwy_knownPart
  rw [isCode_at hd, bd_some, if_neg (by decide), ib_nI (by omega) (by omega), cond_true, nI_clamp (by omega)]
  by_cases q : h 23 d = 0
  · rw [if_pos q, if_pos q]
  · rw [if_neg q, if_neg q, if_neg (nI_pos (by omega)), if_pos (show nI i < (3 : Int32) from (nI_ltI (b := 3) (by omega) (by omega)).mpr hi), lit 3, nI_mul, nI_add, ib_nI (by omega) (by omega), cond_true, nI_clamp (by omega)]
theorem isCode_no : Jyn_isCode (-1) = some 0 := by decide
/-- parts of a known code -/
theorem knownPt_at {h : Hp} {s : Sh} {ln : Nat → Nat} {d i k : Nat} (W : WF h s ln) (hd : d < 256) (hi : i < 3) (e : FC s d = some k) (kn : k = 0 ∨ h 23 d = nI 1) : (Jwy_knownPart (nI d) (nI i) h = some (-1) ∧ ∀ g x y z, 0 < k → isTop s k d g → isPts s k d g x y z → ¬ i < arN (s.2.1 g)) ∨ (∃ g x y z, Jwy_knownPart (nI d) (nI i) h = some (nI (pt x y z i)) ∧ 0 < k ∧ isTop s k d g ∧ isPts s k d g x y z ∧ i < arN (s.2.1 g) ∧ pt x y z i < 256) := by
  rw [knownPart_at hd hi]
  rcases kn with kn | kn
  · left
    rcases W.1 d hd with w | ⟨-, w⟩
    · rw [if_pos (show h 23 d = 0 from w)]
      exact ⟨rfl, fun g x y z q => by omega⟩
    · obtain ⟨k', g, x, y, z, a, b, -⟩ := w
      rw [e] at a
      cases a
      omega
  · rcases W.1 d hd with w | ⟨-, w⟩
    · rw [w] at kn
      exact absurd kn (by decide)
    · obtain ⟨k', g, x, y, z, a, b, c, d', ep⟩ := KN_pt w
      rw [e] at a
      cases a
      rw [if_neg (by rw [kn]; decide), ep i hi]
      unfold pv
      by_cases q : i < arN (s.2.1 g)
      · right
        rw [if_pos q]
        exact ⟨g, x, y, z, rfl, b, c, d', q, (pt_low (FC_le e) d'.1 hi q).1⟩
      · left
        rw [if_neg q]
        refine ⟨rfl, fun g' x' y' z' _ t' _ => ?_⟩
        rw [← isTop_uniq c t']
        exact q
def FW (h h' : Hp) : Prop := ∀ p k, p ≠ 20 → p ≠ 21 → p ≠ 22 → p ≠ 23 → p ≠ 24 → h' p k = h p k
theorem CF_FW {h h' : Hp} {s : Sh} (f : ∀ p k, p < 18 → h' p k = h p k) (H : CF h s) : CF h' s := CF_fr (f 10 8 (by decide)) (f 10 9 (by decide)) (f 10 12 (by decide)) (f 10 13 (by decide)) (fun k => f 11 k (by decide)) (fun k => f 12 k (by decide)) (fun k => f 13 k (by decide)) (fun k => f 14 k (by decide)) (fun k => f 17 k (by decide)) H
theorem need24 {h : Hp} {s : Sh} {ln : Nat → Nat} {d k : Nat} (W : WF h s ln) (hd : d < 256) (e : FC s d = some k) (kn : k = 0 ∨ h 23 d = nI 1) : ∃ o : Int32 × Hp, loopN 1000000 (fun t => Jwy_needParts_L24 (nI d) t.1 t.2) (0, h) = some o ∧ (∀ e, (h 24 e ≠ 0 → o.2 24 e ≠ 0) ∧ (o.2 24 e ≠ 0 → h 24 e ≠ 0 ∨ PAR s d e)) ∧ (∀ e, PAR s d e → o.2 24 e ≠ 0) ∧ ∀ p j, p ≠ 24 → o.2 p j = h p j := by
  obtain ⟨r, l1, l2⟩ := loop_cnt (fun t => Jwy_needParts_L24 (nI d) t.1 t.2) (fun i t => t.1 = nI i ∧ (∀ e, (h 24 e ≠ 0 → t.2 24 e ≠ 0) ∧ (t.2 24 e ≠ 0 → h 24 e ≠ 0 ∨ PAR s d e)) ∧ (∀ g x y z j, j < i → j < 3 → 0 < k → isTop s k d g → isPts s k d g x y z → j < arN (s.2.1 g) → t.2 24 (pt x y z j) ≠ 0) ∧ ∀ p j, p ≠ 24 → t.2 p j = h p j) (fun t => (∀ e, (h 24 e ≠ 0 → t.2 24 e ≠ 0) ∧ (t.2 24 e ≠ 0 → h 24 e ≠ 0 ∨ PAR s d e)) ∧ (∀ g x y z j, j < 3 → 0 < k → isTop s k d g → isPts s k d g x y z → j < arN (s.2.1 g) → t.2 24 (pt x y z j) ≠ 0) ∧ ∀ p j, p ≠ 24 → t.2 p j = h p j) 3 (fun i t hi ht => by
      obtain ⟨i', hh⟩ := t
      obtain ⟨e1, h1, h2, fr⟩ := ht
      replace e1 : i' = nI i := e1
      subst e1
      replace h1 : ∀ e, (h 24 e ≠ 0 → hh 24 e ≠ 0) ∧ (hh 24 e ≠ 0 → h 24 e ≠ 0 ∨ PAR s d e) := h1
      replace h2 : ∀ g x y z j, j < i → j < 3 → 0 < k → isTop s k d g → isPts s k d g x y z → j < arN (s.2.1 g) → hh 24 (pt x y z j) ≠ 0 := h2
      replace fr : ∀ p j, p ≠ 24 → hh p j = h p j := fr
      have W' : WF hh s ln := WF_fr (fun k => fr 22 k (by decide)) (fun k => fr 23 k (by decide)) (fun k => fr 25 k (by decide)) W
      have lt : nI i < (3 : Int32) := (nI_ltI (b := 3) (by omega) (by omega)).mpr hi
      rcases knownPt_at W' hd hi e (by rw [fr 23 d (by decide)]; exact kn) with ⟨a1, a2⟩ | ⟨g, x, y, z, a1, a2, a3, a4, a5, a6⟩
      · refine Or.inl ⟨(nI (i + 1), hh), ?_, rfl, h1, fun g x y z j j1 j2 j3 j4 j5 j6 => ?_, fr⟩
        · show Jwy_needParts_L24 (nI d) (nI i) hh = _
          unfold Jwy_needParts_L24
          rw [if_pos lt, a1, bd_some, isCode_no, bd_some, if_pos rfl, lit 1, nI_add]
        · by_cases q : j = i
          · subst q
            exact absurd j6 (a2 g x y z j3 j4 j5)
          · exact h2 g x y z j (by omega) j2 j3 j4 j5 j6
      · have nar : vp_nar .boolean 1 = nI 1 := rfl
        have h24 : ∀ e, hset hh 24 (pt x y z i) (nI 1) 24 e = if e = pt x y z i then nI 1 else hh 24 e := fun e => by
          rw [hset_if]
          by_cases q : e = pt x y z i
          · rw [if_pos ⟨rfl, q⟩, if_pos q]
          · rw [if_neg (fun w => q w.2), if_neg q]
        refine Or.inl ⟨(nI (i + 1), hset hh 24 (pt x y z i) (nI 1)), ?_, rfl, fun e' => ?_, fun g' x' y' z' j j1 j2 j3 j4 j5 j6 => ?_, fun p j hp => ?_⟩
        · show Jwy_needParts_L24 (nI d) (nI i) hh = _
          unfold Jwy_needParts_L24
          rw [if_pos lt, a1, bd_some, isCode_at a6, bd_some, if_neg (by decide), ib_nI a6 (by omega), cond_true, nI_clamp (by omega), nar, lt_of', lit 1, nI_add]
        · show (_ → hset hh 24 (pt x y z i) (nI 1) 24 e' ≠ 0) ∧ (hset hh 24 (pt x y z i) (nI 1) 24 e' ≠ 0 → _)
          rw [h24]
          by_cases q : e' = pt x y z i
          · rw [if_pos q]
            exact ⟨fun _ => by decide, fun _ => Or.inr ⟨k, g, x, y, z, e, a2, a3, a4, i, hi, a5, q⟩⟩
          · rw [if_neg q]
            exact h1 e'
        · show hset hh 24 (pt x y z i) (nI 1) 24 (pt x' y' z' j) ≠ 0
          rw [h24]
          by_cases q : pt x' y' z' j = pt x y z i
          · rw [if_pos q]; decide
          · rw [if_neg q]
            by_cases w : j = i
            · subst w
              have := isTop_uniq a3 j4
              subst this
              obtain ⟨rfl, rfl, rfl⟩ := isPts_uniq a4 j5
              exact absurd rfl q
            · exact h2 g' x' y' z' j (by omega) j2 j3 j4 j5 j6
        · show hset hh 24 (pt x y z i) (nI 1) p j = _
          rw [hset_if, if_neg (fun w => hp w.1)]
          exact fr p j hp) (fun t ht => by
      obtain ⟨i', hh⟩ := t
      obtain ⟨e1, h1, h2, fr⟩ := ht
      replace e1 : i' = nI 3 := e1
      subst e1
      exact ⟨(nI 3, hh), rfl, h1, fun g x y z j j1 => h2 g x y z j j1 j1, fr⟩) (F := 1000000) (by omega) (a := 0) (by omega) (s := (0, h)) ⟨rfl, fun e => ⟨id, Or.inl⟩, fun g x y z j j1 => absurd j1 (Nat.not_lt_zero j), fun _ _ _ => rfl⟩
  refine ⟨r, l1, l2.1, fun e' q => ?_, l2.2.2⟩
  obtain ⟨k', g, x, y, z, a, b, c, d', i, i1, i2, rfl⟩ := q
  rw [e] at a
  cases a
  exact l2.2.1 g x y z i i1 b c d' i2
theorem needParts_at {h : Hp} {s : Sh} {ln : Nat → Nat} {d k : Nat} (hs : okS s) (H : CF h s) (W : WF h s ln) (hd : d < 256) (e : FC s d = some k) : ∃ h', Jwy_needParts (nI d) h = some h' ∧ WF h' s ln ∧ (∀ e, h 24 e ≠ 0 → h' 24 e ≠ 0) ∧ (∀ e, h' 24 e ≠ 0 → h 24 e ≠ 0 ∨ PAR s d e) ∧ (h 24 d ≠ 0 → (0 < k → h' 23 d = nI 1) ∧ ∀ e, PAR s d e → h' 24 e ≠ 0) ∧ (∀ j, h 23 j = nI 1 → h' 23 j = nI 1) ∧ FW h h' := by
  have start : Jwy_needParts (nI d) h = if h 24 d = 0 then some h else bd (Jwy_lookFor (nI d) h) fun c2 => bd (loopN 1000000 (fun s => Jwy_needParts_L24 (nI d) s.1 s.2) (0, c2)) fun (t6 : Int32 × Hp) => some t6.2 := by
    unfold Jwy_needParts
    rw [isCode_at hd, bd_some, if_neg (by decide), ib_nI hd (by omega), cond_true, nI_clamp (by omega)]
  by_cases q : h 24 d = 0
  · exact ⟨h, by rw [start, if_pos q], W, fun _ => id, fun _ => Or.inl, fun w => absurd q w, fun _ => id, fun _ _ _ _ _ _ _ => rfl⟩
  · rw [if_neg q] at start
    have look : ∃ h1, Jwy_lookFor (nI d) h = some h1 ∧ (k = 0 ∨ h1 23 d = nI 1) ∧ WF h1 s ln ∧ (∀ j, h 23 j = nI 1 → h1 23 j = nI 1) ∧ ∀ p k, p ≠ 20 → p ≠ 21 → p ≠ 22 → p ≠ 23 → h1 p k = h p k := by
      rcases Nat.eq_zero_or_pos k with z | z
      · subst z
        exact ⟨h, lookFor_no H.1 hd (Or.inr e), Or.inl rfl, W, fun _ => id, fun _ _ _ _ _ _ => rfl⟩
      · obtain ⟨h1, a1, a2, -, a4, a5, a6⟩ := lookFor_at hs H W hd e z
        refine ⟨h1, a1, Or.inr a2, a4, fun j w => ?_, a6⟩
        by_cases v : j = d
        · rw [v]; exact a2
        · rw [a5 j v]; exact w
    obtain ⟨h1, a1, a2, a3, a4, a5⟩ := look
    obtain ⟨o, b1, b2, b3, b4⟩ := need24 a3 hd e a2
    have e24 : ∀ j, h1 24 j = h 24 j := fun j => a5 24 j (by decide) (by decide) (by decide) (by decide)
    refine ⟨o.2, ?_, WF_fr (fun k => b4 22 k (by decide)) (fun k => b4 23 k (by decide)) (fun k => b4 25 k (by decide)) a3, fun j w => (b2 j).1 (by rw [e24]; exact w), fun j w => ?_, fun _ => ⟨fun z => ?_, b3⟩, fun j w => ?_, fun p j w1 w2 w3 w4 w5 => (b4 p j w5).trans (a5 p j w1 w2 w3 w4)⟩
    · rw [start, a1, bd_some, b1, bd_some]
    · have := (b2 j).2 w
      rw [e24] at this
      exact this
    · rw [b4 23 d (by decide)]
      rcases a2 with a2 | a2
      · omega
      · exact a2
    · rw [b4 23 j (by decide)]
      exact a4 j w
