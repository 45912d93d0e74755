/-! The state of both sides. -/
abbrev Ste : Type := Sh × (Nat × (Nat → Nat)) × Int32 × (Nat × (Nat → Nat) × (Nat → Int32)) × Int32 × (Nat × (Nat → Sh)) × ((Nat → Bool) × (Nat → Sh) × (Nat → Nat))
def okSt : Ste → Prop
  | (s, (m, T), _, (n, K, _), sd, (u, U), (G, I, E)) => okS s ∧ (m ≤ 60 ∧ ∀ i, i < m → T i < 256) ∧ okB n K ∧ ¬ sd < 0 ∧ okU u U ∧ okE G I E
def clI (h : Hp) : Ste → Prop
  | (s, (m, T), F, (n, K, V), sd, (u, U), (G, I, E)) => shC h s ∧ txC h m T ∧ h 0 9 = F ∧ bkC h n K V ∧ h 0 8 = sd ∧ undC h u U ∧ imC h G I E ∧ CP h ∧ CW h
def mdI (h : Hp) : Ste → Prop
  | (s, (m, T), F, (n, K, V), sd, (u, U), (G, I, E)) => mdS h s ∧ txM h m T ∧ h 37 7 = F ∧ bkM h n K V ∧ h 37 3 = sd ∧ undM h u U ∧ imM h G I E ∧ MC h
def Inv (h : Hp) : Prop := ∃ t, okSt t ∧ clI h t ∧ mdI h t
