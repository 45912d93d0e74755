/-! Lengths; the class's cache. -/
def lp (ln : Nat → Nat) (a i x : Nat) : Nat := if i < a then ln x else 0
def lnOK (s : Sh) (ln : Nat → Nat) : Prop := ∀ c, c < 256 → ∀ k, FC s c = some k → (k = 0 → ln c = 1) ∧ ∀ g x y z, 0 < k → isTop s k c g → isPts s k c g x y z → ln c = 1 + lp ln (arN (s.2.1 g)) 0 x + lp ln (arN (s.2.1 g)) 1 y + lp ln (arN (s.2.1 g)) 2 z
theorem isTop_uniq {s : Sh} {k c g g' : Nat} (h : isTop s k c g) (h' : isTop s k c g') : g = g' := by
  obtain ⟨a1, a2, a3⟩ := h
  obtain ⟨b1, b2, b3⟩ := h'
  rcases Nat.lt_or_ge g g' with q | q
  · exact absurd ⟨a1, a2⟩ (b3 g q)
  · rcases Nat.lt_or_ge g' g with r | r
    · exact absurd ⟨b1, b2⟩ (a3 g' r)
    · omega
theorem isPts_uniq {s : Sh} {k c g x y z x' y' z' : Nat} (h : isPts s k c g x y z) (h' : isPts s k c g x' y' z') : x = x' ∧ y = y' ∧ z = z' := by
  have a := h.2 _ _ _ h'.1
  have b := h'.2 _ _ _ h.1
  unfold lex at a b
  omega
theorem FC_LV {s : Sh} {c k : Nat} (h : FC s c = some k) : LV s 9999 c = some k := by
  rw [FC_is s (n := 9999) rfl] at h
  exact h
theorem FC_low {s : Sh} {n c k : Nat} (hn : n ≤ 9999) (h : LV s n c = some k) : FC s c = some k := by
  rw [FC_is s (n := 9999) rfl]
  exact LV_mono hn h
theorem FC_le {s : Sh} {c k : Nat} (h : FC s c = some k) : k ≤ 9999 := (LV_at (FC_LV h)).1
/-- the parts of what is made cost less -/
theorem pts_low {s : Sh} {k c g x y z : Nat} (hk : k ≤ 9999) (w : WayP (LV s (k - 1)) (s.2.1 g) k c x y z) : (0 < arN (s.2.1 g) → x < 256 ∧ ∃ i, FC s x = some i ∧ i < k) ∧ (1 < arN (s.2.1 g) → y < 256 ∧ ∃ i, FC s y = some i ∧ i < k) ∧ (2 < arN (s.2.1 g) → z < 256 ∧ ∃ i, FC s z = some i ∧ i < k) ∧ ∃ i j l, (0 < arN (s.2.1 g) → FC s x = some i) ∧ (1 < arN (s.2.1 g) → FC s y = some j) ∧ (2 < arN (s.2.1 g) → FC s z = some l) ∧ i + j + l + 1 = k := by
  have hp := WayP_pos w
  have F : ∀ {d i : Nat}, LV s (k - 1) d = some i → FC s d = some i := fun e => FC_low (by omega) e
  rcases w with ⟨a, e, -⟩ | ⟨a, ⟨i, e1, e⟩, -, hx, -⟩ | ⟨a, ⟨i, j, e1, e2, e⟩, -, hx, hy, -⟩ | ⟨a, ⟨i, j, l, e1, e2, e3, e⟩, -, hx, hy, hz⟩ <;> rw [a]
  · exact ⟨fun q => absurd q (by decide), fun q => absurd q (by decide), fun q => absurd q (by decide), 0, 0, 0, fun q => absurd q (by decide), fun q => absurd q (by decide), fun q => absurd q (by decide), by omega⟩
  · exact ⟨fun _ => ⟨hx, i, F e1, by omega⟩, fun q => absurd q (by decide), fun q => absurd q (by decide), i, 0, 0, fun _ => F e1, fun q => absurd q (by decide), fun q => absurd q (by decide), by omega⟩
  · exact ⟨fun _ => ⟨hx, i, F e1, by omega⟩, fun _ => ⟨hy, j, F e2, by omega⟩, fun q => absurd q (by decide), i, j, 0, fun _ => F e1, fun _ => F e2, fun q => absurd q (by decide), by omega⟩
  · exact ⟨fun _ => ⟨hx, i, F e1, by omega⟩, fun _ => ⟨hy, j, F e2, by omega⟩, fun _ => ⟨hz, l, F e3, by omega⟩, i, j, l, fun _ => F e1, fun _ => F e2, fun _ => F e3, by omega⟩
theorem MF_len {h : Hp} {s : Sh} (H : MF h s) : ∀ (k c : Nat), c < 256 → FC s c = some k → ∃ l, h 49 c = nI l ∧ l ≤ 3 * k + 1 := by
  intro k
  induction k using Nat.strongRecOn with
  | ind k ih =>
    intro c hc e
    obtain ⟨-, a2, a3⟩ := (H.1 c hc).1 k e
    rcases Nat.eq_zero_or_pos k with z | z
    · exact ⟨1, a2 z, by omega⟩
    · obtain ⟨g, x, y, w, -, p, -, -, -, -, e7⟩ := a3 z
      obtain ⟨p1, p2, p3, i, j, l, q1, q2, q3, q4⟩ := pts_low (FC_le e) p.1
      have one : ∀ {a b d m : Nat}, (b < a → d < 256 ∧ ∃ i, FC s d = some i ∧ i < k) → (b < a → FC s d = some m) → ∃ v, pl h a b d = nI v ∧ v ≤ 3 * m + 1 := by
        intro a b d m r1 r2
        unfold pl
        by_cases v : b < a
        · rw [if_pos v]
          obtain ⟨w1, i', w2, w3⟩ := r1 v
          have := r2 v
          rw [w2] at this
          cases this
          exact ih m w3 d w1 w2
        · rw [if_neg v]
          exact ⟨0, rfl, by omega⟩
      obtain ⟨v1, v2, v3⟩ := one p1 q1
      obtain ⟨w1, w2, w3⟩ := one p2 q2
      obtain ⟨u1, u2, u3⟩ := one p3 q3
      refine ⟨1 + v1 + w1 + u1, ?_, by omega⟩
      rw [e7, v2, w2, u2, nI_add, nI_add, nI_add]
theorem MF_ln {h : Hp} {s : Sh} (H : MF h s) : lnOK s (fun c => (h 49 c).toNatClampNeg) ∧ ∀ c k, c < 256 → FC s c = some k → h 49 c = nI ((h 49 c).toNatClampNeg) ∧ (h 49 c).toNatClampNeg ≤ 3 * k + 1 := by
  have L : ∀ c k, c < 256 → FC s c = some k → h 49 c = nI ((h 49 c).toNatClampNeg) ∧ (h 49 c).toNatClampNeg ≤ 3 * k + 1 := fun c k hc e => by
    obtain ⟨l, l1, l2⟩ := MF_len H k c hc e
    have := FC_le e
    rw [l1, nI_clamp (by omega)]
    exact ⟨rfl, l2⟩
  refine ⟨fun c hc k e => ?_, L⟩
  obtain ⟨-, a2, a3⟩ := (H.1 c hc).1 k e
  refine ⟨fun z => ?_, fun g x y z hk ht hp => ?_⟩
  · show (h 49 c).toNatClampNeg = 1
    rw [a2 z, nI_clamp (by omega)]
  · obtain ⟨g', x', y', z', t', p', -, -, -, -, e7⟩ := a3 hk
    have := isTop_uniq ht t'
    subst this
    obtain ⟨rfl, rfl, rfl⟩ := isPts_uniq hp p'
    have kl := FC_le e
    obtain ⟨p1, p2, p3, i, j, l, q1, q2, q3, q4⟩ := pts_low kl hp.1
    have one : ∀ {a b d m : Nat}, (b < a → d < 256 ∧ ∃ i, FC s d = some i ∧ i < k) → (b < a → FC s d = some m) → pl h a b d = nI (lp (fun c => (h 49 c).toNatClampNeg) a b d) ∧ lp (fun c => (h 49 c).toNatClampNeg) a b d ≤ 3 * m + 1 := by
      intro a b d m r1 r2
      unfold pl lp
      by_cases v : b < a
      · rw [if_pos v, if_pos v]
        exact L d m (r1 v).1 (r2 v)
      · rw [if_neg v, if_neg v]
        exact ⟨rfl, by omega⟩
    obtain ⟨v2, v3⟩ := one p1 q1
    obtain ⟨w2, w3⟩ := one p2 q2
    obtain ⟨u2, u3⟩ := one p3 q3
    show (h 49 c).toNatClampNeg = _
    rw [e7, v2, w2, u2, nI_add, nI_add, nI_add, nI_clamp (by omega)]
/-- a heap with this shelf and nothing laid -/
def hpS (s : Sh) : Hp := fun p k => if p = 38 then (if k = 0 then nI s.1 else if k = 7 then nI s.2.2 else nI (s.2.1 (k - 1))) else 0
theorem MF_ex {s : Sh} (hs : okS s) : ∃ h, MF h s := by
  have r : rowM (hpS s) 0 s := ⟨rfl, rfl, fun i hi => by
    have := hs.1
    unfold hpS
    rw [if_pos rfl, if_neg (by omega), if_neg (by omega), show 0 + 1 + i - 1 = i by omega]⟩
  obtain ⟨h', -, m, -⟩ := layCosts_at r hs (Or.inl rfl)
  exact ⟨h', m⟩
theorem ln_ex {s : Sh} (hs : okS s) : ∃ ln, lnOK s ln := by
  obtain ⟨h, m⟩ := MF_ex hs
  exact ⟨_, (MF_ln m).1⟩
theorem pts_ex {s : Sh} (hs : okS s) {c k : Nat} (hc : c < 256) (e : FC s c = some k) (hk : 0 < k) : ∃ g x y z, isTop s k c g ∧ isPts s k c g x y z := by
  obtain ⟨h, m⟩ := MF_ex hs
  obtain ⟨g, x, y, z, a, b, -⟩ := ((m.1 c hc).1 k e).2.2 hk
  exact ⟨g, x, y, z, a, b⟩
theorem ln_le {s : Sh} (hs : okS s) {ln : Nat → Nat} (H : lnOK s ln) : ∀ (k c : Nat), c < 256 → FC s c = some k → 1 ≤ ln c ∧ ln c ≤ 3 * k + 1 := by
  intro k
  induction k using Nat.strongRecOn with
  | ind k ih =>
    intro c hc e
    obtain ⟨a1, a2⟩ := H c hc k e
    rcases Nat.eq_zero_or_pos k with z | z
    · rw [a1 z]; omega
    · obtain ⟨g, x, y, w, t, p⟩ := pts_ex hs hc e z
      rw [a2 g x y w z t p]
      obtain ⟨p1, p2, p3, i, j, l, q1, q2, q3, q4⟩ := pts_low (FC_le e) p.1
      have one : ∀ {a b d m : Nat}, (b < a → d < 256 ∧ ∃ i, FC s d = some i ∧ i < k) → (b < a → FC s d = some m) → lp ln a b d ≤ 3 * m + 1 := by
        intro a b d m r1 r2
        unfold lp
        by_cases v : b < a
        · rw [if_pos v]
          obtain ⟨w1, i', w2, w3⟩ := r1 v
          have := r2 v
          rw [w2] at this
          cases this
          exact (ih m w3 d w1 w2).2
        · rw [if_neg v]; omega
      have v3 := one p1 q1
      have w3 := one p2 q2
      have u3 := one p3 q3
      omega
theorem ln_uniq {s : Sh} (hs : okS s) {ln ln' : Nat → Nat} (H : lnOK s ln) (H' : lnOK s ln') : ∀ (k c : Nat), c < 256 → FC s c = some k → ln c = ln' c := by
  intro k
  induction k using Nat.strongRecOn with
  | ind k ih =>
    intro c hc e
    obtain ⟨a1, a2⟩ := H c hc k e
    obtain ⟨b1, b2⟩ := H' c hc k e
    rcases Nat.eq_zero_or_pos k with z | z
    · rw [a1 z, b1 z]
    · obtain ⟨g, x, y, w, t, p⟩ := pts_ex hs hc e z
      rw [a2 g x y w z t p, b2 g x y w z t p]
      obtain ⟨p1, p2, p3, -⟩ := pts_low (FC_le e) p.1
      have one : ∀ {a b d : Nat}, (b < a → d < 256 ∧ ∃ i, FC s d = some i ∧ i < k) → lp ln a b d = lp ln' a b d := by
        intro a b d r1
        unfold lp
        by_cases v : b < a
        · rw [if_pos v, if_pos v]
          obtain ⟨w1, i', w2, w3⟩ := r1 v
          exact ih i' w3 d w1 w2
        · rw [if_neg v, if_neg v]
      rw [one p1, one p2, one p3]
theorem ln_same {s s0 : Sh} (hs : okS s) (hs0 : okS s0) (hm : Same s s0) {ln : Nat → Nat} (H : lnOK s0 ln) : lnOK s ln := by
  intro c hc k e
  rw [Same_FC hs hs0 hm] at e
  obtain ⟨a, b⟩ := H c hc k e
  refine ⟨a, fun g x y z hk ht hp => ?_⟩
  rw [hm.2 g ht.1]
  exact b g x y z hk ((Same_top hs hs0 hm).mp ht) ((Same_pts hs hs0 hm ht.1).mp hp)
/-- the parts and lengths that the class knows -/
def KN (h : Hp) (s : Sh) (c : Nat) : Prop := ∃ k g x y z, FC s c = some k ∧ 0 < k ∧ isTop s k c g ∧ isPts s k c g x y z ∧ h 22 (3 * c) = pv (arN (s.2.1 g)) 0 x ∧ h 22 (3 * c + 1) = pv (arN (s.2.1 g)) 1 y ∧ h 22 (3 * c + 2) = pv (arN (s.2.1 g)) 2 z
def pt (x y z i : Nat) : Nat := if i = 0 then x else if i = 1 then y else z
def PAR (s : Sh) (d e : Nat) : Prop := ∃ k g x y z, FC s d = some k ∧ 0 < k ∧ isTop s k d g ∧ isPts s k d g x y z ∧ ∃ i, i < 3 ∧ i < arN (s.2.1 g) ∧ e = pt x y z i
theorem PAR_same {s s0 : Sh} (hs : okS s) (hs0 : okS s0) (hm : Same s s0) {d e : Nat} (h : PAR s d e) : PAR s0 d e := by
  obtain ⟨k, g, x, y, z, a, b, t, p, i, i1, i2, i3⟩ := h
  refine ⟨k, g, x, y, z, by rw [← Same_FC hs hs0 hm]; exact a, b, (Same_top hs hs0 hm).mp t, (Same_pts hs hs0 hm t.1).mp p, i, i1, ?_, i3⟩
  rw [← hm.2 g t.1]
  exact i2
def WF (h : Hp) (s : Sh) (ln : Nat → Nat) : Prop := (∀ c, c < 256 → h 23 c = nI 0 ∨ (h 23 c = nI 1 ∧ KN h s c)) ∧ (∀ c, c < 256 → h 25 c = nI 0 ∨ ∃ k, FC s c = some k ∧ h 25 c = nI (ln c)) ∧ ∀ c, c < 256 → h 25 c ≠ nI 0 → (FC s c = some 0 ∨ h 23 c = nI 1) ∧ ∀ e, PAR s c e → h 25 e ≠ nI 0
theorem KN_fr {h h' : Hp} {s : Sh} {c : Nat} (e : ∀ i, i < 3 → h' 22 (3 * c + i) = h 22 (3 * c + i)) (H : KN h s c) : KN h' s c := by
  obtain ⟨k, g, x, y, z, a, b, d, f, e1, e2, e3⟩ := H
  exact ⟨k, g, x, y, z, a, b, d, f, (e 0 (by decide)).trans e1, (e 1 (by decide)).trans e2, (e 2 (by decide)).trans e3⟩
theorem WF_fr {h h' : Hp} {s : Sh} {ln : Nat → Nat} (a : ∀ k, h' 22 k = h 22 k) (b : ∀ k, h' 23 k = h 23 k) (c : ∀ k, h' 25 k = h 25 k) (H : WF h s ln) : WF h' s ln := by
  refine ⟨fun d hd => ?_, fun d hd => ?_, fun d hd => ?_⟩
  · rw [b]
    rcases H.1 d hd with w | ⟨w1, w2⟩
    · exact Or.inl w
    · exact Or.inr ⟨w1, KN_fr (fun i _ => a _) w2⟩
  · rw [c]
    exact H.2.1 d hd
  · rw [b, c]
    intro w
    obtain ⟨w1, w2⟩ := H.2.2 d hd w
    exact ⟨w1, fun e he => by rw [c]; exact w2 e he⟩
theorem WF_same {h : Hp} {s s0 : Sh} (hs : okS s) (hs0 : okS s0) (hm : Same s s0) {ln : Nat → Nat} (H : WF h s0 ln) : WF h s ln := by
  have fc := Same_FC hs hs0 hm
  refine ⟨fun c hc => ?_, fun c hc => ?_, fun c hc w => ?_⟩
  · rcases H.1 c hc with w | ⟨w1, k, g, x, y, z, a, b, d, f, e⟩
    · exact Or.inl w
    · have hg := (Same_top hs hs0 hm).mpr d
      refine Or.inr ⟨w1, k, g, x, y, z, by rw [fc]; exact a, b, hg, (Same_pts hs hs0 hm hg.1).mpr f, ?_⟩
      rw [hm.2 g hg.1]
      exact e
  · rw [fc]
    exact H.2.1 c hc
  · rw [fc]
    obtain ⟨w1, w2⟩ := H.2.2 c hc w
    exact ⟨w1, fun e he => w2 e (PAR_same hs hs0 hm he)⟩
def CW (h : Hp) : Prop := h 10 8 = -1 ∨ ∃ s0 ln, okS s0 ∧ CF h s0 ∧ lnOK s0 ln ∧ WF h s0 ln
theorem forget_at (h : Hp) : ∃ h', Jwy_forget h = some h' ∧ (∀ c, c < 256 → h' 23 c = nI 0 ∧ h' 25 c = nI 0) ∧ ∀ p k, p ≠ 23 → p ≠ 25 → h' p k = h p k := by
  obtain ⟨r, l1, l2⟩ := loop_cnt (fun t => Jwy_forget_L2 t.1 t.2) (fun i t => t.1 = nI i ∧ (∀ c, c < i → t.2 23 c = nI 0 ∧ t.2 25 c = nI 0) ∧ ∀ p k, p ≠ 23 → p ≠ 25 → t.2 p k = h p k) (fun t => (∀ c, c < 256 → t.2 23 c = nI 0 ∧ t.2 25 c = nI 0) ∧ ∀ p k, p ≠ 23 → p ≠ 25 → t.2 p k = h p k) 256 (fun i t hi ht => by
      obtain ⟨i', hh⟩ := t
      obtain ⟨e1, h1, h2⟩ := ht
      replace e1 : i' = nI i := e1
      subst e1
      replace h1 : ∀ c, c < i → hh 23 c = nI 0 ∧ hh 25 c = nI 0 := h1
      replace h2 : ∀ p k, p ≠ 23 → p ≠ 25 → hh p k = h p k := h2
      have nar : vp_nar .boolean 0 = nI 0 := rfl
      refine Or.inl ⟨(nI (i + 1), hset (hset hh 23 i (nI 0)) 25 i (nI 0)), ?_, rfl, fun c hc => ?_, fun p k w1 w2 => ?_⟩
      · show Jwy_forget_L2 (nI i) hh = _
        unfold Jwy_forget_L2
        rw [nar, if_pos (show nI i < (256 : Int32) from (nI_ltI (b := 256) (by omega) (by omega)).mpr hi), ib_nI (by omega) (by omega), cond_true, nI_clamp (by omega), lt_of', cond_true, lt_of', lit 1, nI_add]
        rfl
      · show hset (hset hh 23 i (nI 0)) 25 i (nI 0) 23 c = nI 0 ∧ hset (hset hh 23 i (nI 0)) 25 i (nI 0) 25 c = nI 0
        simp only [hset_if]
        by_cases z : c = i
        · subst z; simp
        · have := h1 c (by omega)
          simp [z, this]
      · show hset (hset hh 23 i (nI 0)) 25 i (nI 0) p k = _
        rw [hset_if, if_neg (fun w => w2 w.1), hset_if, if_neg (fun w => w1 w.1)]
        exact h2 p k w1 w2) (fun t ht => by
      obtain ⟨i', hh⟩ := t
      obtain ⟨e1, h1⟩ := ht
      replace e1 : i' = nI 256 := e1
      subst e1
      exact ⟨(nI 256, hh), by simp (disch := omega) only [Jwy_forget_L2, bd_some, lt_of', sm_l, sm_r, lit, lN_n, hset_if, nI_ltP, nI_eqI, nI_add, nI_sub, nI_clamp, ib_nI, cond_true, if_pos, if_neg, and_self, and_true, true_and, false_and, and_false, ↓reduceIte, eq_self, nI_m1], h1⟩) (F := 1000000) (by omega) (a := 0) (by omega) (s := (0, h)) ⟨rfl, fun f hf => absurd hf (by omega), fun _ _ _ _ => rfl⟩
  refine ⟨r.2, ?_, l2⟩
  unfold Jwy_forget
  exact bd_of l1
def RCW (h h' : Hp) : Prop := ∀ p k, (p < 10 ∨ (19 < p ∧ p ≠ 23 ∧ p ≠ 25)) → h' p k = h p k
theorem reckoned_at {h : Hp} {s : Sh} (hS : shC h s) (hs : okS s) (hP : CP h) (H : CW h) : ∃ h' ln, Jyn_reckoned h = some h' ∧ CF h' s ∧ lnOK s ln ∧ WF h' s ln ∧ RCW h h' := by
  unfold Jyn_reckoned
  rw [show Jwy_costs h = some () from rfl, bd_some]
  have again : Jcs_areOf h = some 0 → ∃ h' ln, (bd (Jcs_areOf h) fun c2 => if c2 = 0 then bd (Jyn_common h) fun c3 => bd (Jcs_reckon c3 h) fun c4 => bd (Jwy_forget c4) fun c5 => some c5 else some h) = some h' ∧ CF h' s ∧ lnOK s ln ∧ WF h' s ln ∧ RCW h h' := fun q => by
    obtain ⟨h1, b1, b2, b3⟩ := reckon_at hS hs hP (cmS_lt s) (cmS_in hs)
    obtain ⟨h2, c1, c2, c3⟩ := forget_at h1
    obtain ⟨ln, l⟩ := ln_ex hs
    refine ⟨h2, ln, ?_, CF_fr (c3 10 8 (by decide) (by decide)) (c3 10 9 (by decide) (by decide)) (c3 10 12 (by decide) (by decide)) (c3 10 13 (by decide) (by decide)) (fun k => c3 11 k (by decide) (by decide)) (fun k => c3 12 k (by decide) (by decide)) (fun k => c3 13 k (by decide) (by decide)) (fun k => c3 14 k (by decide) (by decide)) (fun k => c3 17 k (by decide) (by decide)) b2, l, ⟨fun c hc => Or.inl (c2 c hc).1, fun c hc => Or.inl (c2 c hc).2, fun c hc w => absurd (c2 c hc).2 w⟩, fun p k w => (c3 p k (by omega) (by omega)).trans (b3 p k (by omega))⟩
    rw [q, bd_some, if_pos rfl, commonC_at hS hs hP, bd_some, b1, bd_some, c1, bd_some]
  rcases H with H | ⟨s0, ln, k1, k2, k3, k4⟩
  · exact again (areOf_no hS hs H)
  · rcases areOf_at hS hs k1 k2 with a | ⟨a, m⟩
    · exact again a
    · refine ⟨h, ln, ?_, CF_same hs k1 m k2, ln_same hs k1 m k3, WF_same hs k1 m k4, fun _ _ _ => rfl⟩
      rw [a, bd_some, if_neg (by decide)]
