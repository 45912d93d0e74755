/-! Two objects: what one call does. -/
abbrev St2 : Type := Sh × Nat × (Nat → Sh) × Nat × (Nat → Nat)
def cS (h : Hp) (t : St2) : Prop := cI h t.1 t.2.1 t.2.2.1 t.2.2.2.1 t.2.2.2.2
def W2 (a b : St2) (w : Wd) : Prop := cS w.2 a ∧ cS (fun p => w.2 (p + 37)) b
/-- only the state may have changed -/
def Nx (a b : St2) (w w' : Wd) : Prop := W2 a b w' ∧ w'.1 = w.1 ∧ ∀ p, 74 ≤ p → w'.2 p = w.2 p
theorem Nx_tr {a b a' b' : St2} {w w1 w2 : Wd} (x : Nx a b w w1) (y : Nx a' b' w1 w2) : Nx a' b' w w2 := ⟨y.1, y.2.1.trans x.2.1, fun p hp => (y.2.2 p hp).trans (x.2.2 p hp)⟩
theorem hB_in {h g : Hp} {p : Nat} (hp : p < 37) : hB 0 37 g h p = h p := by
  show (if 0 ≤ p ∧ p < 0 + 37 then h (p - 0) else g p) = h p
  rw [if_pos ⟨Nat.zero_le p, by omega⟩]
  rfl
theorem hB_out {h g : Hp} {p : Nat} (hp : 37 ≤ p) : hB 0 37 g h p = g p := by
  show (if 0 ≤ p ∧ p < 0 + 37 then h (p - 0) else g p) = g p
  rw [if_neg (by omega)]
theorem hB_qin {h g : Hp} {p : Nat} (hp : p < 37) : hB 37 37 g h (p + 37) = h p := hB_at hp
theorem hB_qout {h g : Hp} {p : Nat} (hp : p < 37 ∨ 74 ≤ p) : hB 37 37 g h p = g p := by
  show (if 37 ≤ p ∧ p < 37 + 37 then h (p - 37) else g p) = g p
  rw [if_neg (by omega)]
theorem Oo_at {f : Hp → Option (Int32 × Hp)} {a b a' : St2} {w : Wd} {r : Int32} {h' : Hp} (I : W2 a b w) (e : f w.2 = some (r, h')) (c : cS h' a') : ∃ w', Oo f w = some (r, w') ∧ Nx a' b w w' := by
  refine ⟨(w.1, hB 0 37 w.2 h'), ?_, ⟨?_, ?_⟩, rfl, fun p hp => hB_out (by omega)⟩
  · unfold Oo
    rw [e]
    rfl
  · exact cI_M (fun p hp => hB_in hp) c
  · exact cI_M (fun p hp => hB_out (h := h') (g := w.2) (p := p + 37) (by omega)) I.2
theorem Oq_at {f : Hp → Option (Int32 × Hp)} {a b b' : St2} {w : Wd} {r : Int32} {h' : Hp} (I : W2 a b w) (e : f (fun p => w.2 (p + 37)) = some (r, h')) (c : cS h' b') : ∃ w', Oq f w = some (r, w') ∧ Nx a b' w w' := by
  refine ⟨(w.1, hB 37 37 w.2 h'), ?_, ⟨?_, ?_⟩, rfl, fun p hp => hB_qout (Or.inr hp)⟩
  · unfold Oq
    rw [e]
    rfl
  · exact cI_M (fun p hp => hB_qout (Or.inl hp)) I.1
  · exact cI_M (fun p hp => hB_qin hp) c
section CALLS
variable {s s' : Sh} {u u' m m' : Nat} {U U' : Nat → Sh} {T T' : Nat → Nat} {w : Wd} {a b : St2}
theorem oc_0 (I : W2 (s, u, U, m, T) b w) {c : Nat} (hc : c < 256) : ∃ w', Oo_cost (nI c) 0 w = some (coV s c, w') ∧ Nx (s, u, U, m, T) b w w' := by
  obtain ⟨h', e, k⟩ := cost_0 I.1 hc
  exact Oo_at I e k
theorem oc_1 (I : W2 (s, u, U, m, T) b w) {c : Nat} (hc : c < 256) : ∃ r w', Oo_cost (nI c) 1 w = some (r, w') ∧ Nx (s, u, U, m, T) b w w' ∧ ((FC s c = none ∨ FC s c = some 0) → r = -1) ∧ ∀ k, FC s c = some k → 0 < k → ∃ g, isTop s k c g ∧ r = nI g := by
  obtain ⟨r, h', e, k, p⟩ := cost_1 I.1 hc
  obtain ⟨w', x, y⟩ := Oo_at (a' := (s, u, U, m, T)) I e k
  exact ⟨r, w', x, y, p⟩
theorem oc_p (I : W2 (s, u, U, m, T) b w) {c i : Nat} (hc : c < 256) (hi : i < 3) : ∃ r w', Oo_cost (nI c) (nI (2 + i)) w = some (r, w') ∧ Nx (s, u, U, m, T) b w w' ∧ ((FC s c = none ∨ FC s c = some 0) → r = -1) ∧ ∀ k g x y z, FC s c = some k → 0 < k → isTop s k c g → isPts s k c g x y z → r = pv (arN (s.2.1 g)) i (pt x y z i) := by
  obtain ⟨r, h', e, k, p⟩ := cost_p I.1 hc hi
  obtain ⟨w', x, y⟩ := Oo_at (a' := (s, u, U, m, T)) I e k
  exact ⟨r, w', x, y, p⟩
theorem oc_5 (I : W2 (s, u, U, m, T) b w) {c : Nat} (hc : c < 256) : ∃ ln r w', lnOK s ln ∧ Oo_cost (nI c) 5 w = some (r, w') ∧ Nx (s, u, U, m, T) b w w' ∧ (FC s c = none → r = -1) ∧ ∀ k, FC s c = some k → r = nI (ln c) := by
  obtain ⟨ln, r, h', l, e, k, p⟩ := cost_5 I.1 hc
  obtain ⟨w', x, y⟩ := Oo_at (a' := (s, u, U, m, T)) I e k
  exact ⟨ln, r, w', l, x, y, p⟩
theorem o_fun (I : W2 (s, u, U, m, T) b w) {k : Nat} (hk : k < s.1) : (∃ w', Oo_function (nI k) 0 w = some (nI (s.2.1 k), w') ∧ Nx (s, u, U, m, T) b w w') ∧ ∃ w', Oo_function (nI k) 2 w = some (nI (arN (s.2.1 k)), w') ∧ Nx (s, u, U, m, T) b w w' := by
  obtain ⟨e1, e2⟩ := cI_fun I.1 hk
  exact ⟨Oo_at (a' := (s, u, U, m, T)) I e1 I.1, Oo_at (a' := (s, u, U, m, T)) I e2 I.1⟩
theorem q_fun (I : W2 a (s, u, U, m, T) w) {k : Nat} (hk : k < s.1) : ∃ w', Oq_function (nI k) 0 w = some (nI (s.2.1 k), w') ∧ Nx a (s, u, U, m, T) w w' := by
  obtain ⟨e1, e2⟩ := cI_fun I.2 hk
  exact Oq_at (b' := (s, u, U, m, T)) I e1 I.2
theorem o_told (I : W2 (s, u, U, m, T) b w) : (∃ w', Oo_told 0 w = some (nI s.1, w') ∧ Nx (s, u, U, m, T) b w w') ∧ (∃ w', Oo_told 2 w = some (nI s.2.2, w') ∧ Nx (s, u, U, m, T) b w w') ∧ ∃ w', Oo_told 12 w = some (nI u, w') ∧ Nx (s, u, U, m, T) b w w' := by
  obtain ⟨e1, e2, e3⟩ := cI_told I.1
  exact ⟨Oo_at (a' := (s, u, U, m, T)) I e1 I.1, Oo_at (a' := (s, u, U, m, T)) I e2 I.1, Oo_at (a' := (s, u, U, m, T)) I e3 I.1⟩
theorem q_told (I : W2 a (s, u, U, m, T) w) : (∃ w', Oq_told 2 w = some (nI s.2.2, w') ∧ Nx a (s, u, U, m, T) w w') ∧ ∃ w', Oq_told 12 w = some (nI u, w') ∧ Nx a (s, u, U, m, T) w w' := by
  obtain ⟨e1, e2, e3⟩ := cI_told I.2
  exact ⟨Oq_at (b' := (s, u, U, m, T)) I e2 I.2, Oq_at (b' := (s, u, U, m, T)) I e3 I.2⟩
theorem o_told5 (I : W2 (s, u, U, m, T) b w) : ∃ w', Oo_told 5 w = some (nI (cntT (isM s) 256), w') ∧ Nx (s, u, U, m, T) b w w' := by
  obtain ⟨h', e, k⟩ := told_5 I.1
  exact Oo_at I e k
theorem o_told6 (I : W2 (s, u, U, m, T) b w) : ∃ w', Oo_told 6 w = some (nI (gr s), w') ∧ Nx (s, u, U, m, T) b w w' := by
  obtain ⟨h', e, k⟩ := told_6 I.1
  exact Oo_at I e k
theorem o_told7 (I : W2 (s, u, U, m, T) b w) : ∃ c w', Oo_told 7 w = some (nI c, w') ∧ isDear s c ∧ Nx (s, u, U, m, T) b w w' := by
  obtain ⟨c, h', e, d, k⟩ := told_7 I.1
  obtain ⟨w', x, y⟩ := Oo_at (a' := (s, u, U, m, T)) I e k
  exact ⟨c, w', x, d, y⟩
theorem o_base (I : W2 (s, u, U, m, T) b w) {B : Nat} (hB : B < 2 ^ s.1) : ∃ w', Oo_base (nI B) w = some (nI (cmS (s.1, s.2.1, B)), w') ∧ Nx ((s.1, s.2.1, B), pushN u, pushU s U, m, T) b w w' := by
  obtain ⟨h', e, k⟩ := cI_base I.1 hB
  exact Oo_at I e k
theorem q_base (I : W2 a (s, u, U, m, T) w) {B : Nat} (hB : B < 2 ^ s.1) : ∃ w', Oq_base (nI B) w = some (nI (cmS (s.1, s.2.1, B)), w') ∧ Nx a ((s.1, s.2.1, B), pushN u, pushU s U, m, T) w w' := by
  obtain ⟨h', e, k⟩ := cI_base I.2 hB
  exact Oq_at I e k
theorem o_put (I : W2 (s, u, U, m, T) b w) (h0 : 0 < s.1) (hl : s.1 < 6) : ∃ w' v, Oo_put 0 0 0 0 w = some (nI s.1, w') ∧ Nx (addS s v, pushN u, pushU s U, m, T) b w w' := by
  obtain ⟨h', v, e, -, k⟩ := cI_put I.1 h0 hl
  obtain ⟨w', x, y⟩ := Oo_at (a' := (addS s v, pushN u, pushU s U, m, T)) I e k
  exact ⟨w', v, x, y⟩
theorem q_put (I : W2 a (s, u, U, m, T) w) (h0 : 0 < s.1) (hl : s.1 < 6) : ∃ w' v, Oq_put 0 0 0 0 w = some (nI s.1, w') ∧ Nx a (addS s v, pushN u, pushU s U, m, T) w w' := by
  obtain ⟨h', v, e, -, k⟩ := cI_put I.2 h0 hl
  obtain ⟨w', x, y⟩ := Oq_at (b' := (addS s v, pushN u, pushU s U, m, T)) I e k
  exact ⟨w', v, x, y⟩
theorem o_turn (I : W2 (s, u, U, m, T) b w) (h0 : 0 < s.1) : ∃ w' v, Oo_turn 0 w = some (nI (tnN (s.2.1 0)), w') ∧ Nx (chgS s 0 v, pushN u, pushU s U, m, T) b w w' := by
  obtain ⟨h', v, e, -, k⟩ := cI_turn I.1 h0
  obtain ⟨w', x, y⟩ := Oo_at (a' := (chgS s 0 v, pushN u, pushU s U, m, T)) I e k
  exact ⟨w', v, x, y⟩
theorem q_turn (I : W2 a (s, u, U, m, T) w) (h0 : 0 < s.1) : ∃ w' v, Oq_turn 0 w = some (nI (tnN (s.2.1 0)), w') ∧ Nx a (chgS s 0 v, pushN u, pushU s U, m, T) w w' := by
  obtain ⟨h', v, e, -, k⟩ := cI_turn I.2 h0
  obtain ⟨w', x, y⟩ := Oq_at (b' := (chgS s 0 v, pushN u, pushU s U, m, T)) I e k
  exact ⟨w', v, x, y⟩
theorem o_undo (I : W2 (s, u, U, m, T) b w) (hu : 2 ≤ u) : ∃ w', Oo_undo 2 w = some (nI (U 1).1, w') ∧ Nx (U 1, u - 2, fun j => U (2 + j), m, T) b w w' := by
  obtain ⟨h', e, k⟩ := cI_undo2 I.1 hu
  exact Oo_at I e k
theorem q_undo (I : W2 a (s, u, U, m, T) w) (hu : 2 ≤ u) : ∃ w', Oq_undo 2 w = some (nI (U 1).1, w') ∧ Nx a (U 1, u - 2, fun j => U (2 + j), m, T) w w' := by
  obtain ⟨h', e, k⟩ := cI_undo2 I.2 hu
  exact Oq_at I e k
theorem o_spell (I : W2 (s, u, U, m, T) b w) {c k : Nat} (hc : c < 256) (e : FC s c = some k) (pos : 0 < k) : ∃ g w', isTop s k c g ∧ Oo_spell (nI c) 0 w = some ((65 : Int32) + nI g, w') ∧ Nx (s, u, U, m, T) b w w' := by
  obtain ⟨⟨g, h', t, e1, k1⟩, -⟩ := spell_at I.1 hc e pos
  obtain ⟨w', x, y⟩ := Oo_at (a' := (s, u, U, m, T)) I e1 k1
  exact ⟨g, w', t, x, y⟩
theorem o_spelN (I : W2 (s, u, U, m, T) b w) {c k : Nat} (hc : c < 256) (e : FC s c = some k) (pos : 0 < k) {ln : Nat → Nat} (L : lnOK s ln) : ∃ w', Oo_spell (nI c) (nI (ln c)) w = some (-1, w') ∧ Nx (s, u, U, m, T) b w w' := by
  obtain ⟨-, q⟩ := spell_at I.1 hc e pos
  obtain ⟨h', e1, k1⟩ := q ln L
  exact Oo_at I e1 k1
theorem o_tell (I : W2 (s, u, U, m, T) b w) (hl : s.1 < 6) (hf : ∀ j, j < m → faN T s.1 j = 0) (h0 : opN T m = 0) (pos : 0 < m) : ∃ w', Oo_tell w = some (nI s.1, w') ∧ Nx (addS s (stT s T m m 0), pushN u, pushU s U, 0, T) b w w' := by
  obtain ⟨h', e, k⟩ := cI_tell I.1 hl hf h0 pos
  exact Oo_at I e k
theorem q_tell (I : W2 a (s, u, U, m, T) w) (hl : s.1 < 6) (hf : ∀ j, j < m → faN T s.1 j = 0) (h0 : opN T m = 0) (pos : 0 < m) : ∃ w', Oq_tell w = some (nI s.1, w') ∧ Nx a (addS s (stT s T m m 0), pushN u, pushU s U, 0, T) w w' := by
  obtain ⟨h', e, k⟩ := cI_tell I.2 hl hf h0 pos
  exact Oq_at I e k
theorem upd_same (T : Nat → Nat) (m : Nat) : (fun i => if i = m then T m else T i) = T := by
  funext i
  by_cases q : i = m
  · show (if i = m then T m else T i) = T i
    rw [if_pos q, q]
  · show (if i = m then T m else T i) = T i
    rw [if_neg q]
theorem o_feed (I : W2 (s, u, U, m, T) b w) (hm : m < 60) (hk : T m < 256) : ∃ w', Jw_t (nI (T m)) w = some (1, w') ∧ Nx (s, u, U, m + 1, T) b w w' := by
  obtain ⟨h', e, k⟩ := cI_feed I.1 hm hk
  rw [upd_same] at k
  obtain ⟨w', x, y⟩ := Oo_at (a' := (s, u, U, m + 1, T)) I e k
  refine ⟨w', ?_, y⟩
  have x : Oo_feed (nI (T m)) w = some (nI (m + 1), w') := x
  unfold Jw_t
  rw [x, bd_some]
  exact if_pos (nI_lt (a := 0) (by omega) (by omega))
theorem q_feed (I : W2 a (s, u, U, m, T) w) (hm : m < 60) (hk : T m < 256) : ∃ w', Jw_t_1 (nI (T m)) w = some (1, w') ∧ Nx a (s, u, U, m + 1, T) w w' := by
  obtain ⟨h', e, k⟩ := cI_feed I.2 hm hk
  rw [upd_same] at k
  obtain ⟨w', x, y⟩ := Oq_at (b' := (s, u, U, m + 1, T)) I e k
  refine ⟨w', ?_, y⟩
  have x : Oq_feed (nI (T m)) w = some (nI (m + 1), w') := x
  unfold Jw_t_1
  rw [x, bd_some]
  exact if_pos (nI_lt (a := 0) (by omega) (by omega))
theorem o_retext (I : W2 (s, u, U, 0, T) b w) (T' : Nat → Nat) : W2 (s, u, U, 0, T') b w := ⟨cI_cong (fun i hi => absurd hi (Nat.not_lt_zero i)) I.1, I.2⟩
theorem q_retext (I : W2 a (s, u, U, 0, T) w) (T' : Nat → Nat) : W2 a (s, u, U, 0, T') w := ⟨I.1, cI_cong (fun i hi => absurd hi (Nat.not_lt_zero i)) I.2⟩
end CALLS
