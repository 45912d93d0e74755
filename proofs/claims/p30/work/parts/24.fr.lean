/-! Frames: which places a function leaves as they were. -/
def Fm (S : List Nat) (h h' : Hp) : Prop := ∀ p, p ∉ S → h' p = h p
theorem fr_rf (S : List Nat) (h : Hp) : Fm S h h := fun _ _ => rfl
theorem fr_tr {S : List Nat} {a b c : Hp} (x : Fm S a b) (y : Fm S b c) : Fm S a c := fun p hp => (y p hp).trans (x p hp)
theorem fr_sub {S T : List Nat} {a b : Hp} (x : Fm S a b) (h : ∀ p ∈ S, p ∈ T) : Fm T a b := fun p hp => x p fun q => hp (h p q)
theorem fr_set {S : List Nat} {h0 h h1 : Hp} {p k : Nat} {v : Int32} (w : Fm S h0 h) (q : h1 = hset h p k v) (hp : p ∈ S) : Fm S h0 h1 := fun j hj => by
  rw [q, hset_ne (fun e => hj (by rw [e]; exact hp))]
  exact w j hj
theorem fr_new {S : List Nat} {h0 h h1 : Hp} {p : Nat} (w : Fm S h0 h) (q : h1 = hnew h p) (hp : p ∈ S) : Fm S h0 h1 := fun j hj => by
  rw [q, hnew_ne (fun e => hj (by rw [e]; exact hp))]
  exact w j hj
theorem ite_e {ω : Type} {G : Prop} {c : Prop} [Decidable c] {A B : Option ω} {o : ω} (e : (if c then A else B) = some o) (h1 : A = some o → G) (h2 : B = some o → G) : G := by
  by_cases hc : c
  · rw [if_pos hc] at e; exact h1 e
  · rw [if_neg hc] at e; exact h2 e
theorem gd_e {ω : Type} {g : Bool} {A : Option ω} {o : ω} (e : (bif g then A else none) = some o) : A = some o := by
  cases g with
  | false => cases e
  | true => exact e
theorem lt_e {ω : Type} {G : Prop} {x : Hp} {f : Hp → Option ω} {o : ω} (e : lt x f = some o) (k : ∀ h1, f h1 = some o → h1 = x → G) : G := k x e rfl
theorem loop_F {σ ρ : Type} (f : σ → Option (σ ⊕ ρ)) (Q : σ → Prop) (C : ρ → Prop) (hf : ∀ s o, f s = some o → Q s → sm o Q C) : ∀ (n : Nat) (s : σ) (r : ρ), loopN n f s = some r → Q s → C r
  | 0, _, _, e, _ => by cases e
  | n + 1, s, r, e, hQ => by
    simp only [loopN] at e
    split at e
    · cases e
    · rename_i s' he
      exact loop_F f Q C hf n s' r e (hf s _ he hQ)
    · rename_i r' he
      cases e
      exact hf s _ he hQ
