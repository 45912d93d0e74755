/-! Rows for the functions of the methods. -/
theorem big_up {L : Nat} {xs : Nat → Int32} : ∀ (n : Nat) {k pc : Nat} {lv : List (Nat × Value)} {st : List Value} {lay : Lay} {h : Hp} {r}, big L xs n k pc lv st lay h = some r → big L xs (n + 1) k pc lv st lay h = some r
  | 0, _, _, _, _, _, _, _, e => by cases e
  | n + 1, k, pc, lv, st, lay, h, r, e => by
    rw [big] at e
    rw [big]
    split at e
    · exact big_up n e
    · split at e
      · rename_i hb
        rw [big_up n hb]
        exact big_up n e
      · cases e
    · exact e
    · cases e
theorem big_le {L : Nat} {xs : Nat → Int32} {n m : Nat} (hm : n ≤ m) {k pc : Nat} {lv : List (Nat × Value)} {st : List Value} {lay : Lay} {h : Hp} {r} (e : big L xs n k pc lv st lay h = some r) : big L xs m k pc lv st lay h = some r := by
  induction hm with
  | refl => exact e
  | step _ ih => exact big_up _ ih
def Bg (L : Nat) (xs : Nat → Int32) (k pc : Nat) (lv : List (Nat × Value)) (st : List Value) (lay : Lay) (h : Hp) (R : List Value × Lay × Hp) : Prop := ∃ n, big L xs n k pc lv st lay h = some R
def seg (L : Nat) (xs : Nat → Int32) (k : Nat) : Nat → Nat → List (Nat × Value) → List Value → Lay → Hp → Option (Nat × List (Nat × Value) × List Value × Lay × Hp)
  | 0, pc, lv, st, lay, h => some (pc, lv, st, lay, h)
  | n + 1, pc, lv, st, lay, h => match exAt L xs k pc lv st lay h with
    | some (.inl (true, pc', lv', st', lay', h')) => seg L xs k n pc' lv' st' lay' h'
    | _ => none
theorem seg_Bg {L : Nat} {xs : Nat → Int32} {k : Nat} {R : List Value × Lay × Hp} : ∀ (n : Nat) {pc pc' : Nat} {lv lv' : List (Nat × Value)} {st st' : List Value} {lay lay' : Lay} {h h' : Hp}, seg L xs k n pc lv st lay h = some (pc', lv', st', lay', h') → Bg L xs k pc' lv' st' lay' h' R → Bg L xs k pc lv st lay h R
  | 0, _, _, _, _, _, _, _, _, _, _, e, b => by
    simp only [seg, Option.some.injEq, Prod.mk.injEq] at e
    obtain ⟨rfl, rfl, rfl, rfl, rfl⟩ := e
    exact b
  | n + 1, _, _, _, _, _, _, _, _, _, _, e, b => by
    simp only [seg] at e
    split at e
    · rename_i he
      obtain ⟨m, hm⟩ := seg_Bg n e b
      exact ⟨m + 1, by rw [big, he]; exact hm⟩
    · cases e
def loopN {σ ρ : Type} : Nat → (σ → Option (σ ⊕ ρ)) → σ → Option ρ
  | 0, _, _ => none
  | n + 1, f, s => match f s with
    | none => none
    | some (.inl s') => loopN n f s'
    | some (.inr r) => some r
def bd {α β : Type} (x : Option α) (f : α → Option β) : Option β := match x with
  | none => none
  | some a => f a
def lt {α : Type} (x : Hp) (f : Hp → α) : α := f x
def sm {α β γ : Type} (x : α ⊕ β) (f : α → γ) (g : β → γ) : γ := match x with
  | .inl a => f a
  | .inr b => g b
theorem bd_s {α β : Type} {x : Option α} {f : α → Option β} {o : β} (e : bd x f = some o) : ∃ a, x = some a ∧ f a = some o := by
  unfold bd at e
  split at e
  · cases e
  · exact ⟨_, rfl, e⟩
theorem loop_B {σ ρ : Type} (f : σ → Option (σ ⊕ ρ)) (P : σ → Prop) (C : ρ → Prop) (hf : ∀ s o, f s = some o → (match o with
    | .inl s' => P s'
    | .inr r => C r) → P s) : ∀ (n : Nat) (s : σ) (r : ρ), loopN n f s = some r → C r → P s
  | 0, _, _, e, _ => by cases e
  | n + 1, s, r, e, hC => by
    simp only [loopN] at e
    split at e
    · cases e
    · rename_i s' he
      exact hf s _ he (loop_B f P C hf n s' r e hC)
    · rename_i r' he
      cases e
      exact hf s _ he hC
section BGS
variable {L : Nat} {xs : Nat → Int32} {k pc : Nat} {lv : List (Nat × Value)} {st : List Value} {lay : Lay} {h : Hp} {R : List Value × Lay × Hp}
theorem pc_ite {ω : Type} {c : Prop} [Decidable c] {A B : Option ω} {o : ω} {a b : Nat} (e : (if c then A else B) = some o) (h1 : A = some o → Bg L xs k a lv st lay h R) (h2 : B = some o → Bg L xs k b lv st lay h R) : Bg L xs k (if c then a else b) lv st lay h R := by
  by_cases hc : c
  · rw [if_pos hc] at e ⊢; exact h1 e
  · rw [if_neg hc] at e ⊢; exact h2 e
theorem gd_Bg {ω : Type} {g : Bool} {A : Option ω} {o : ω} {pc' : Nat} {lv' : List (Nat × Value)} {st' : List Value} {lay' : Lay} {h' : Hp} (hx : exAt L xs k pc lv st lay h = some (.inl (g, pc', lv', st', lay', h'))) (e : (bif g then A else none) = some o) (h1 : A = some o → Bg L xs k pc' lv' st' lay' h' R) : Bg L xs k pc lv st lay h R := by
  cases g with
  | false => cases e
  | true =>
    obtain ⟨m, hm⟩ := h1 e
    exact ⟨m + 1, by rw [big, hx]; exact hm⟩
theorem put_Bg {ω : Type} {f : Hp → Option ω} {o : ω} {pc' : Nat} {lv' : List (Nat × Value)} {st' : List Value} {lay' : Lay} {x : Hp} (hx : exAt L xs k pc lv st lay h = some (.inl (true, pc', lv', st', lay', x))) (e : lt x f = some o) (h1 : ∀ h', f h' = some o → Bg L xs k pc' lv' st' lay' h' R) : Bg L xs k pc lv st lay h R := by
  obtain ⟨m, hm⟩ := h1 x e
  exact ⟨m + 1, by rw [big, hx]; exact hm⟩
theorem gp_Bg {ω : Type} {g : Bool} {f : Hp → Option ω} {o : ω} {pc' : Nat} {lv' : List (Nat × Value)} {st' : List Value} {lay' : Lay} {x : Hp} (hx : exAt L xs k pc lv st lay h = some (.inl (g, pc', lv', st', lay', x))) (e : (bif g then lt x f else none) = some o) (h1 : ∀ h', f h' = some o → Bg L xs k pc' lv' st' lay' h' R) : Bg L xs k pc lv st lay h R := by
  cases g with
  | false => cases e
  | true =>
    obtain ⟨m, hm⟩ := h1 x e
    exact ⟨m + 1, by rw [big, hx]; exact hm⟩
theorem ret_Bg {vs : List Value} (hx : exAt L xs k pc lv st lay h = some (.inr (.inr (true, vs)))) : Bg L xs k pc lv st lay h (vs, lay, h) := ⟨1, by rw [big, hx]⟩
theorem retZ_Bg {ω : Type} {g : Bool} {A : Option ω} {o : ω} {vs : List Value} (hx : exAt L xs k pc lv st lay h = some (.inr (.inr (g, vs)))) (e : (bif g then A else none) = some o) (h1 : A = some o → R = (vs, lay, h)) : Bg L xs k pc lv st lay h R := by
  cases g with
  | false => cases e
  | true =>
    rw [h1 e]
    exact ret_Bg hx
theorem call_Bg {α ω : Type} {x : Option α} {f : α → Option ω} {o : ω} {res : α → List Value × Lay × Hp} {a np : Nat} {la lv' : List (Nat × Value)} {rest : List Value} (hx : exAt L xs k pc lv st lay h = some (.inr (.inl (true, (a, 0, la, []), (k, np, lv', rest))))) (e : bd x f = some o) (hc : ∀ r, x = some r → Bg L xs a 0 la [] lay h (res r)) (kk : ∀ r, f r = some o → Bg L xs k np lv' ((res r).1 ++ rest) (res r).2.1 (res r).2.2 R) : Bg L xs k pc lv st lay h R := by
  obtain ⟨r, h1, h2⟩ := bd_s e
  obtain ⟨m1, hm1⟩ := hc r h1
  obtain ⟨m2, hm2⟩ := kk r h2
  refine ⟨max m1 m2 + 1, ?_⟩
  rw [big, hx]
  simp only
  rw [big_le (Nat.le_max_left m1 m2) hm1]
  exact big_le (Nat.le_max_right m1 m2) hm2
end BGS
def kAt (k pc : Nat) : Nat := match insT k pc with
  | (_, _, _, K, _, _, _, _, _, _) => K
theorem kp_kp : ∀ (K : Nat) (l : List (Nat × Value)), kp K (kp K l) = kp K l
  | _, [] => rfl
  | K, (j, u) :: r => by
    simp only [kp]
    cases hb : Nat.ble K j with
    | true => rfl
    | false =>
      simp only [cond_false, kp, hb]
      rw [kp_kp K r]
theorem kp_Bg {L : Nat} {xs : Nat → Int32} {k pc : Nat} {lv lv' : List (Nat × Value)} {st : List Value} {lay : Lay} {h : Hp} {R : List Value × Lay × Hp} (hk : Nat.beq (kAt k pc) 99 = false) (hl : kp (kAt k pc) lv = lv') (b : Bg L xs k pc lv' st lay h R) : Bg L xs k pc lv st lay h R := by
  subst hl
  have he : exAt L xs k pc (kp (kAt k pc) lv) st lay h = exAt L xs k pc lv st lay h := by
    unfold exAt
    unfold kAt at hk ⊢
    generalize insT k pc = I at hk ⊢
    obtain ⟨p0, ins, np, K, a, b, c, v, w, tbl⟩ := I
    simp only at hk ⊢
    rw [hk]
    simp only [cond_false, frc_eq, kp_kp]
  obtain ⟨n, hn⟩ := b
  refine ⟨n, ?_⟩
  cases n with
  | zero => cases hn
  | succ n =>
    rw [big] at hn ⊢
    rw [← he]
    exact hn
