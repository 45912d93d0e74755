/-! Instruction by instruction: a step of the small machine is a row of the kit. -/
theorem pI_s {st : List Value} {f : Int32 → List Value → Option Rs} {r : Rs} (h : pI st f = some r) : ∃ x rs, st = .int x :: rs ∧ f x rs = some r := by
  unfold pI at h; split at h
  · exact ⟨_, _, rfl, h⟩
  · cases h
theorem pII_s {st : List Value} {f : Int32 → Int32 → List Value → Option Rs} {r : Rs} (h : pII st f = some r) : ∃ x y rs, st = .int y :: .int x :: rs ∧ f x y rs = some r := by
  unfold pII at h; split at h
  · exact ⟨_, _, _, rfl, h⟩
  · cases h
theorem pLL_s {st : List Value} {f : Int64 → Int64 → List Value → Option Rs} {r : Rs} (h : pLL st f = some r) : ∃ x y rs, st = .long y :: .long x :: rs ∧ f x y rs = some r := by
  unfold pLL at h; split at h
  · exact ⟨_, _, _, rfl, h⟩
  · cases h
theorem pL_s {st : List Value} {f : Int64 → List Value → Option Rs} {r : Rs} (h : pL st f = some r) : ∃ x rs, st = .long x :: rs ∧ f x rs = some r := by
  unfold pL at h; split at h
  · exact ⟨_, _, rfl, h⟩
  · cases h
theorem pR_s {st : List Value} {f : Nat → List Value → Option Rs} {r : Rs} (h : pR st f = some r) : ∃ x rs, st = .ref x :: rs ∧ f x rs = some r := by
  unfold pR at h; split at h
  · exact ⟨_, _, rfl, h⟩
  · cases h
theorem pA_s {st : List Value} {f : Nat → Int32 → List Value → Option Rs} {g : Int32 → List Value → Option Rs} {r : Rs} (h : pA st f g = some r) : (∃ i p rs, st = .int i :: .ref p :: rs ∧ f p i rs = some r) ∨ ∃ i q rs, st = .int i :: .retAddr q :: rs ∧ g i rs = some r := by
  unfold pA at h; split at h
  · exact Or.inl ⟨_, _, _, rfl, h⟩
  · exact Or.inr ⟨_, _, _, rfl, h⟩
  · cases h
theorem pS_s {st : List Value} {f : Nat → Int32 → Int32 → List Value → Option Rs} {r : Rs} (h : pS st f = some r) : ∃ x i p rs, st = .int x :: .int i :: .ref p :: rs ∧ f p i x rs = some r := by
  unfold pS at h; split at h
  · exact ⟨_, _, _, _, rfl, h⟩
  · cases h
theorem pP_s {st : List Value} {f : Int32 → Nat → List Value → Option Rs} {g : Nat → Nat → List Value → Option Rs} {r : Rs} (h : pP st f g = some r) : (∃ y p rs, st = .int y :: .ref p :: rs ∧ f y p rs = some r) ∨ ∃ q p rs, st = .ref q :: .ref p :: rs ∧ g q p rs = some r := by
  unfold pP at h; split at h
  · exact Or.inl ⟨_, _, _, rfl, h⟩
  · exact Or.inr ⟨_, _, _, rfl, h⟩
  · cases h
theorem pT_s {st : List Value} {f : List Value → Option Rs} {r : Rs} (h : pT st f = some r) : ∃ q rs, st = .retAddr q :: rs ∧ f rs = some r := by
  unfold pT at h; split at h
  · exact ⟨_, _, rfl, h⟩
  · cases h
theorem p1_s {st : List Value} {f : Value → List Value → Option Rs} {r : Rs} (h : p1 st f = some r) : ∃ x rs, st = x :: rs ∧ f x rs = some r := by
  unfold p1 at h; split at h
  · exact ⟨_, _, rfl, h⟩
  · cases h
theorem p2_s {st : List Value} {f : Value → Value → List Value → Option Rs} {r : Rs} (h : p2 st f = some r) : ∃ x y rs, st = x :: y :: rs ∧ f x y rs = some r := by
  unfold p2 at h; split at h
  · exact ⟨_, _, _, rfl, h⟩
  · cases h
theorem lI_s {o : Option Value} {f : Int32 → Option Rs} {r : Rs} (h : lI o f = some r) : ∃ x, o = some (.int x) ∧ f x = some r := by
  unfold lI at h; split at h
  · exact ⟨_, rfl, h⟩
  · cases h
theorem lJ_s {o : Option Value} {f : Int64 → Option Rs} {r : Rs} (h : lJ o f = some r) : ∃ x, o = some (.long x) ∧ f x = some r := by
  unfold lJ at h; split at h
  · exact ⟨_, rfl, h⟩
  · cases h
theorem lR_s {o : Option Value} {f g : Nat → Option Rs} {r : Rs} (h : lR o f g = some r) : (∃ x, o = some (.ref x) ∧ f x = some r) ∨ ∃ x, o = some (.retAddr x) ∧ g x = some r := by
  unfold lR at h; split at h
  · exact Or.inl ⟨_, rfl, h⟩
  · exact Or.inr ⟨_, rfl, h⟩
  · cases h
theorem nth_some {α : Type} {l : List α} {n : Nat} {a : α} (h : nth l n = some a) : l[n]? = some a := by
  induction l generalizing n with
  | nil => cases h
  | cons x l ih =>
    cases n with
    | zero => simpa [nth] using h
    | succ n => simpa [nth] using ih (by simpa [nth] using h)
theorem ob_s {lay : Lay} {p ci : Nat} {f : List (Option Value) → Option Rs} {r : Rs} (h : ob lay p ci f = some r) : ∃ fl, lay[p]? = some (.inl (ci, fl)) ∧ f fl = some r := by
  unfold ob at h; split at h
  · rename_i c fl he
    cases hb : Nat.beq c ci with
    | true => rw [hb] at h; rw [Nat.eq_of_beq_eq_true hb] at he; exact ⟨fl, nth_some he, h⟩
    | false => rw [hb] at h; cases h
  · cases h
theorem arr_s {lay : Lay} {p : Nat} {z : Bool} {f : Nat → Option Rs} {r : Rs} (h : arr lay p z f = some r) : ∃ n, lay[p]? = some (.inr (z, n)) ∧ f n = some r := by
  unfold arr at h; split at h
  · rename_i z' n he
    cases z <;> cases z' <;> simp at h <;> exact ⟨n, nth_some he, h⟩
  · cases h
theorem gf_s {o : Option (Option Value)} {d : Value} {f : Value → Option Rs} {r : Rs} (h : gf o d f = some r) : (o = some none ∧ f d = some r) ∨ ∃ u, o = some (some u) ∧ f u = some r := by
  unfold gf at h; split at h
  · exact Or.inl ⟨rfl, h⟩
  · exact Or.inr ⟨_, rfl, h⟩
  · cases h
theorem isN_s {o : Option (Option Value)} {q : Option Rs} {r : Rs} (h : isN o q = some r) : o = some none ∧ q = some r := by
  unfold isN at h; split at h
  · exact ⟨rfl, h⟩
  · cases h
theorem isS_s {o : Option (Option Value)} {q : Option Rs} {r : Rs} (h : isS o q = some r) : (∃ u, o = some (some u)) ∧ q = some r := by
  unfold isS at h; split at h
  · exact ⟨⟨_, rfl⟩, h⟩
  · cases h
theorem nx_s {g : Bool} {pc pc' : Nat} {lv lv' : List (Nat × Value)} {st st' : List Value} {lay lay' : Lay} {h h' : Hp} (e : nx g pc lv st lay h = some (.inl (true, pc', lv', st', lay', h'))) : g = true ∧ pc' = pc ∧ lv' = lv ∧ st' = st ∧ lay' = lay ∧ h' = h := by
  simp only [nx, Option.some.injEq, Sum.inl.injEq, Prod.mk.injEq] at e
  obtain ⟨e1, e2, e3, e4, e5, e6⟩ := e
  exact ⟨e1, e2.symm, e3.symm, e4.symm, e5.symm, e6.symm⟩
abbrev CT : Type := Program × Launch × Env × Room × State × MethodId × Array Value × List Frame × Method × Code × va_G × (Bool → ClassId) × Nat × Nat × Nat × Nat × (State → Prop)
def Ok (X : CT) (k pc : Nat) (lv : List (Nat × Value)) (st : List Value) (lay : Lay) (h : Hp) : Prop := match X with
  | (p, l, e, R, s, m, args, below, meth, c, D, ca, z, b, l0, s0, Q) => ∀ (H : Heap) (locs : List Loc) (ls : Array Slot), lv_has ls (mMax k) (cvl z b lv) → HP z b D ca lay h H → va_S (fun q => z ≤ q) s.heap H locs → W p l e R s m args below meth c H locs (lay.length - l0) (szl lay - s0) Q (F0 m pc ls (st.map (cv z b)))
def CxT (X : CT) (k : Nat) : Prop := match X with
  | (p, _, _, R, s, m, args, _, meth, c, D, ca, _, _, _, _, _) => Cx p R s m args meth c D ca k
def ScT (X : CT) (L : Nat) (xs : Nat → Int32) (k : Nat) : Prop := match X with
  | (_, _, _, _, s, _, _, _, _, _, _, _, z, b, _, _, _) => z ≤ s.heap.size ∧ (sc k = true → va_X b L xs s s.heap ∧ b < s.heap.size ∧ b < z)
def RoT (X : CT) (lay lay' : Lay) : Prop := match X with
  | (_, _, _, R, _, _, _, _, _, _, _, _, _, _, l0, s0, _) => l0 ≤ lay.length ∧ s0 ≤ szl lay ∧ lay'.length ≤ R.cells + l0 ∧ szl lay' ≤ R.slots + s0
theorem ok_sub {X : CT} {k pc : Nat} {lv lv' : List (Nat × Value)} {st : List Value} {lay : Lay} {h : Hp} (hs : ∀ q ∈ lv', q ∈ lv) (ho : Ok X k pc lv' st lay h) : Ok X k pc lv st lay h := by
  obtain ⟨p, l, e, R, s, m, args, below, meth, c, D, ca, z, b, l0, s0, Q⟩ := X
  intro H locs ls hl hP hS
  refine ho H locs ls (has_sub hl fun q hq => ?_) hP hS
  obtain ⟨q0, h0, rfl⟩ := List.mem_map.mp hq
  exact List.mem_map.mpr ⟨q0, hs q0 h0, rfl⟩
theorem x_iconst {X : CT} {L : Nat} {xs : Nat → Int32} {k pc np a b c : Nat} {v : Int32} {w : Int64} {tbl : List (Int32 × Nat)} {lv lv' : List (Nat × Value)} {st st' : List Value} {lay lay' : Lay} {h h' : Hp} {pc' : Nat} {n : Int} (hC : CxT X k) (hd : decode (mC k) pc = .ok (.iconst n, np - pc)) (hn : np = pc + lenI (.iconst n)) (hj : okJ k pc a b c v w tbl (.iconst n) = true) (hx : ex L xs k pc lv st lay h np a b v w tbl (.iconst n) = some (.inl (true, pc', lv', st', lay', h'))) (hsc : ScT X L xs k) (hR : RoT X lay lay') (ho : Ok X k pc' lv' st' lay' h') : Ok X k pc lv st lay h := by
  obtain ⟨p, l, e, R, s, m, args, below, meth, cc, D, ca, z, b0, l0, s0, Q⟩ := X
  obtain ⟨hk, hxx, hbb, hml, hown, hts, hnw, hini, hfr, hlo, hK⟩ := id hC
  subst hn
  rw [Nat.add_sub_cancel_left] at hd
  obtain ⟨-, rfl, rfl, rfl, rfl, rfl⟩ := nx_s hx
  exact fun H locs ls hl hP hS => lv_iconst hxx hbb hd (of_decide_eq_true hj) (ho H locs ls hl hP hS)
theorem x_bipush {X : CT} {L : Nat} {xs : Nat → Int32} {k pc np a b c : Nat} {v : Int32} {w : Int64} {tbl : List (Int32 × Nat)} {lv lv' : List (Nat × Value)} {st st' : List Value} {lay lay' : Lay} {h h' : Hp} {pc' : Nat} {n : Int} (hC : CxT X k) (hd : decode (mC k) pc = .ok (.bipush n, np - pc)) (hn : np = pc + lenI (.bipush n)) (hj : okJ k pc a b c v w tbl (.bipush n) = true) (hx : ex L xs k pc lv st lay h np a b v w tbl (.bipush n) = some (.inl (true, pc', lv', st', lay', h'))) (hsc : ScT X L xs k) (hR : RoT X lay lay') (ho : Ok X k pc' lv' st' lay' h') : Ok X k pc lv st lay h := by
  obtain ⟨p, l, e, R, s, m, args, below, meth, cc, D, ca, z, b0, l0, s0, Q⟩ := X
  obtain ⟨hk, hxx, hbb, hml, hown, hts, hnw, hini, hfr, hlo, hK⟩ := id hC
  subst hn
  rw [Nat.add_sub_cancel_left] at hd
  obtain ⟨-, rfl, rfl, rfl, rfl, rfl⟩ := nx_s hx
  exact fun H locs ls hl hP hS => lv_bipush hxx hbb hd (of_decide_eq_true hj) (ho H locs ls hl hP hS)
theorem x_sipush {X : CT} {L : Nat} {xs : Nat → Int32} {k pc np a b c : Nat} {v : Int32} {w : Int64} {tbl : List (Int32 × Nat)} {lv lv' : List (Nat × Value)} {st st' : List Value} {lay lay' : Lay} {h h' : Hp} {pc' : Nat} {n : Int} (hC : CxT X k) (hd : decode (mC k) pc = .ok (.sipush n, np - pc)) (hn : np = pc + lenI (.sipush n)) (hj : okJ k pc a b c v w tbl (.sipush n) = true) (hx : ex L xs k pc lv st lay h np a b v w tbl (.sipush n) = some (.inl (true, pc', lv', st', lay', h'))) (hsc : ScT X L xs k) (hR : RoT X lay lay') (ho : Ok X k pc' lv' st' lay' h') : Ok X k pc lv st lay h := by
  obtain ⟨p, l, e, R, s, m, args, below, meth, cc, D, ca, z, b0, l0, s0, Q⟩ := X
  obtain ⟨hk, hxx, hbb, hml, hown, hts, hnw, hini, hfr, hlo, hK⟩ := id hC
  subst hn
  rw [Nat.add_sub_cancel_left] at hd
  obtain ⟨-, rfl, rfl, rfl, rfl, rfl⟩ := nx_s hx
  exact fun H locs ls hl hP hS => lv_sipush hxx hbb hd (of_decide_eq_true hj) (ho H locs ls hl hP hS)
theorem x_lconst {X : CT} {L : Nat} {xs : Nat → Int32} {k pc np a b c : Nat} {v : Int32} {w : Int64} {tbl : List (Int32 × Nat)} {lv lv' : List (Nat × Value)} {st st' : List Value} {lay lay' : Lay} {h h' : Hp} {pc' : Nat} {n : Fin 2} (hC : CxT X k) (hd : decode (mC k) pc = .ok (.lconst n, np - pc)) (hn : np = pc + lenI (.lconst n)) (hj : okJ k pc a b c v w tbl (.lconst n) = true) (hx : ex L xs k pc lv st lay h np a b v w tbl (.lconst n) = some (.inl (true, pc', lv', st', lay', h'))) (hsc : ScT X L xs k) (hR : RoT X lay lay') (ho : Ok X k pc' lv' st' lay' h') : Ok X k pc lv st lay h := by
  obtain ⟨p, l, e, R, s, m, args, below, meth, cc, D, ca, z, b0, l0, s0, Q⟩ := X
  obtain ⟨hk, hxx, hbb, hml, hown, hts, hnw, hini, hfr, hlo, hK⟩ := id hC
  subst hn
  rw [Nat.add_sub_cancel_left] at hd
  obtain ⟨-, rfl, rfl, rfl, rfl, rfl⟩ := nx_s hx
  exact fun H locs ls hl hP hS => lv_lconst hxx hbb hd (of_decide_eq_true hj) (ho H locs ls hl hP hS)
theorem x_ldc {X : CT} {L : Nat} {xs : Nat → Int32} {k pc np a b c : Nat} {v : Int32} {w : Int64} {tbl : List (Int32 × Nat)} {lv lv' : List (Nat × Value)} {st st' : List Value} {lay lay' : Lay} {h h' : Hp} {pc' : Nat} {n : Nat} (hC : CxT X k) (hd : decode (mC k) pc = .ok (.ldc n, np - pc)) (hn : np = pc + lenI (.ldc n)) (hj : okJ k pc a b c v w tbl (.ldc n) = true) (hx : ex L xs k pc lv st lay h np a b v w tbl (.ldc n) = some (.inl (true, pc', lv', st', lay', h'))) (hsc : ScT X L xs k) (hR : RoT X lay lay') (ho : Ok X k pc' lv' st' lay' h') : Ok X k pc lv st lay h := by
  obtain ⟨p, l, e, R, s, m, args, below, meth, cc, D, ca, z, b0, l0, s0, Q⟩ := X
  obtain ⟨hk, hxx, hbb, hml, hown, hts, hnw, hini, hfr, hlo, hK⟩ := id hC
  subst hn
  rw [Nat.add_sub_cancel_left] at hd
  obtain ⟨-, rfl, rfl, rfl, rfl, rfl⟩ := nx_s hx
  have hw := wAt_in hj
  have hg : Cond.constant (mY k).cls n v ∈ gws := gw_in (by have e := hw; simp only [dec, Int32.ofInt_toInt] at e; exact e) rfl
  exact fun H locs ls hl hP hS => lv_ldc hxx hbb hown (hts _ hg) hd (ho H locs ls hl hP hS)
theorem x_ldc_w {X : CT} {L : Nat} {xs : Nat → Int32} {k pc np a b c : Nat} {v : Int32} {w : Int64} {tbl : List (Int32 × Nat)} {lv lv' : List (Nat × Value)} {st st' : List Value} {lay lay' : Lay} {h h' : Hp} {pc' : Nat} {n : Nat} (hC : CxT X k) (hd : decode (mC k) pc = .ok (.ldc_w n, np - pc)) (hn : np = pc + lenI (.ldc_w n)) (hj : okJ k pc a b c v w tbl (.ldc_w n) = true) (hx : ex L xs k pc lv st lay h np a b v w tbl (.ldc_w n) = some (.inl (true, pc', lv', st', lay', h'))) (hsc : ScT X L xs k) (hR : RoT X lay lay') (ho : Ok X k pc' lv' st' lay' h') : Ok X k pc lv st lay h := by
  obtain ⟨p, l, e, R, s, m, args, below, meth, cc, D, ca, z, b0, l0, s0, Q⟩ := X
  obtain ⟨hk, hxx, hbb, hml, hown, hts, hnw, hini, hfr, hlo, hK⟩ := id hC
  subst hn
  rw [Nat.add_sub_cancel_left] at hd
  obtain ⟨-, rfl, rfl, rfl, rfl, rfl⟩ := nx_s hx
  have hw := wAt_in hj
  have hg : Cond.constant (mY k).cls n v ∈ gws := gw_in (by have e := hw; simp only [dec, Int32.ofInt_toInt] at e; exact e) rfl
  exact fun H locs ls hl hP hS => lv_ldcw hxx hbb hown (hts _ hg) hd (ho H locs ls hl hP hS)
theorem x_ldc2_w {X : CT} {L : Nat} {xs : Nat → Int32} {k pc np a b c : Nat} {v : Int32} {w : Int64} {tbl : List (Int32 × Nat)} {lv lv' : List (Nat × Value)} {st st' : List Value} {lay lay' : Lay} {h h' : Hp} {pc' : Nat} {n : Nat} (hC : CxT X k) (hd : decode (mC k) pc = .ok (.ldc2_w n, np - pc)) (hn : np = pc + lenI (.ldc2_w n)) (hj : okJ k pc a b c v w tbl (.ldc2_w n) = true) (hx : ex L xs k pc lv st lay h np a b v w tbl (.ldc2_w n) = some (.inl (true, pc', lv', st', lay', h'))) (hsc : ScT X L xs k) (hR : RoT X lay lay') (ho : Ok X k pc' lv' st' lay' h') : Ok X k pc lv st lay h := by
  obtain ⟨p, l, e, R, s, m, args, below, meth, cc, D, ca, z, b0, l0, s0, Q⟩ := X
  obtain ⟨hk, hxx, hbb, hml, hown, hts, hnw, hini, hfr, hlo, hK⟩ := id hC
  subst hn
  rw [Nat.add_sub_cancel_left] at hd
  obtain ⟨-, rfl, rfl, rfl, rfl, rfl⟩ := nx_s hx
  have hw := wAt_in hj
  have hg : Cond.constantLong (mY k).cls n w ∈ gws := gw_in (by have e := hw; simp only [dec, Int64.ofInt_toInt] at e; exact e) rfl
  exact fun H locs ls hl hP hS => lv_ldc2 hxx hbb hown (hts _ hg) hd (ho H locs ls hl hP hS)
theorem x_iload_n {X : CT} {L : Nat} {xs : Nat → Int32} {k pc np a b c : Nat} {v : Int32} {w : Int64} {tbl : List (Int32 × Nat)} {lv lv' : List (Nat × Value)} {st st' : List Value} {lay lay' : Lay} {h h' : Hp} {pc' : Nat} {n : Fin 4} (hC : CxT X k) (hd : decode (mC k) pc = .ok (.iload_n n, np - pc)) (hn : np = pc + lenI (.iload_n n)) (hj : okJ k pc a b c v w tbl (.iload_n n) = true) (hx : ex L xs k pc lv st lay h np a b v w tbl (.iload_n n) = some (.inl (true, pc', lv', st', lay', h'))) (hsc : ScT X L xs k) (hR : RoT X lay lay') (ho : Ok X k pc' lv' st' lay' h') : Ok X k pc lv st lay h := by
  obtain ⟨p, l, e, R, s, m, args, below, meth, cc, D, ca, z, b0, l0, s0, Q⟩ := X
  obtain ⟨hk, hxx, hbb, hml, hown, hts, hnw, hini, hfr, hlo, hK⟩ := id hC
  subst hn
  rw [Nat.add_sub_cancel_left] at hd
  have hj : (n : Nat) = a := of_decide_eq_true hj
  obtain ⟨x, e, hx⟩ := lI_s hx
  obtain ⟨-, rfl, rfl, rfl, rfl, rfl⟩ := nx_s hx
  exact fun H locs ls hl hP hS => lv_iload_n hxx hbb hd hj (has_at hl e) (ho H locs ls hl hP hS)
theorem x_iload {X : CT} {L : Nat} {xs : Nat → Int32} {k pc np a b c : Nat} {v : Int32} {w : Int64} {tbl : List (Int32 × Nat)} {lv lv' : List (Nat × Value)} {st st' : List Value} {lay lay' : Lay} {h h' : Hp} {pc' : Nat} {n : Nat} (hC : CxT X k) (hd : decode (mC k) pc = .ok (.iload n, np - pc)) (hn : np = pc + lenI (.iload n)) (hj : okJ k pc a b c v w tbl (.iload n) = true) (hx : ex L xs k pc lv st lay h np a b v w tbl (.iload n) = some (.inl (true, pc', lv', st', lay', h'))) (hsc : ScT X L xs k) (hR : RoT X lay lay') (ho : Ok X k pc' lv' st' lay' h') : Ok X k pc lv st lay h := by
  obtain ⟨p, l, e, R, s, m, args, below, meth, cc, D, ca, z, b0, l0, s0, Q⟩ := X
  obtain ⟨hk, hxx, hbb, hml, hown, hts, hnw, hini, hfr, hlo, hK⟩ := id hC
  subst hn
  rw [Nat.add_sub_cancel_left] at hd
  have hj : n = a := of_decide_eq_true hj
  obtain ⟨x, e, hx⟩ := lI_s hx
  obtain ⟨-, rfl, rfl, rfl, rfl, rfl⟩ := nx_s hx
  subst hj
  exact fun H locs ls hl hP hS => lv_iload hxx hbb hd (has_at hl e) (ho H locs ls hl hP hS)
theorem x_lload_n {X : CT} {L : Nat} {xs : Nat → Int32} {k pc np a b c : Nat} {v : Int32} {w : Int64} {tbl : List (Int32 × Nat)} {lv lv' : List (Nat × Value)} {st st' : List Value} {lay lay' : Lay} {h h' : Hp} {pc' : Nat} {n : Fin 4} (hC : CxT X k) (hd : decode (mC k) pc = .ok (.lload_n n, np - pc)) (hn : np = pc + lenI (.lload_n n)) (hj : okJ k pc a b c v w tbl (.lload_n n) = true) (hx : ex L xs k pc lv st lay h np a b v w tbl (.lload_n n) = some (.inl (true, pc', lv', st', lay', h'))) (hsc : ScT X L xs k) (hR : RoT X lay lay') (ho : Ok X k pc' lv' st' lay' h') : Ok X k pc lv st lay h := by
  obtain ⟨p, l, e, R, s, m, args, below, meth, cc, D, ca, z, b0, l0, s0, Q⟩ := X
  obtain ⟨hk, hxx, hbb, hml, hown, hts, hnw, hini, hfr, hlo, hK⟩ := id hC
  subst hn
  rw [Nat.add_sub_cancel_left] at hd
  have hj : (n : Nat) = a := of_decide_eq_true hj
  obtain ⟨x, e, hx⟩ := lJ_s hx
  obtain ⟨-, rfl, rfl, rfl, rfl, rfl⟩ := nx_s hx
  exact fun H locs ls hl hP hS => lv_lload_n hxx hbb hd hj (has_at hl e) (ho H locs ls hl hP hS)
theorem x_lload {X : CT} {L : Nat} {xs : Nat → Int32} {k pc np a b c : Nat} {v : Int32} {w : Int64} {tbl : List (Int32 × Nat)} {lv lv' : List (Nat × Value)} {st st' : List Value} {lay lay' : Lay} {h h' : Hp} {pc' : Nat} {n : Nat} (hC : CxT X k) (hd : decode (mC k) pc = .ok (.lload n, np - pc)) (hn : np = pc + lenI (.lload n)) (hj : okJ k pc a b c v w tbl (.lload n) = true) (hx : ex L xs k pc lv st lay h np a b v w tbl (.lload n) = some (.inl (true, pc', lv', st', lay', h'))) (hsc : ScT X L xs k) (hR : RoT X lay lay') (ho : Ok X k pc' lv' st' lay' h') : Ok X k pc lv st lay h := by
  obtain ⟨p, l, e, R, s, m, args, below, meth, cc, D, ca, z, b0, l0, s0, Q⟩ := X
  obtain ⟨hk, hxx, hbb, hml, hown, hts, hnw, hini, hfr, hlo, hK⟩ := id hC
  subst hn
  rw [Nat.add_sub_cancel_left] at hd
  have hj : n = a := of_decide_eq_true hj
  obtain ⟨x, e, hx⟩ := lJ_s hx
  obtain ⟨-, rfl, rfl, rfl, rfl, rfl⟩ := nx_s hx
  subst hj
  exact fun H locs ls hl hP hS => lv_lload hxx hbb hd (has_at hl e) (ho H locs ls hl hP hS)
theorem x_aload_n {X : CT} {L : Nat} {xs : Nat → Int32} {k pc np a b c : Nat} {v : Int32} {w : Int64} {tbl : List (Int32 × Nat)} {lv lv' : List (Nat × Value)} {st st' : List Value} {lay lay' : Lay} {h h' : Hp} {pc' : Nat} {n : Fin 4} (hC : CxT X k) (hd : decode (mC k) pc = .ok (.aload_n n, np - pc)) (hn : np = pc + lenI (.aload_n n)) (hj : okJ k pc a b c v w tbl (.aload_n n) = true) (hx : ex L xs k pc lv st lay h np a b v w tbl (.aload_n n) = some (.inl (true, pc', lv', st', lay', h'))) (hsc : ScT X L xs k) (hR : RoT X lay lay') (ho : Ok X k pc' lv' st' lay' h') : Ok X k pc lv st lay h := by
  obtain ⟨p, l, e, R, s, m, args, below, meth, cc, D, ca, z, b0, l0, s0, Q⟩ := X
  obtain ⟨hk, hxx, hbb, hml, hown, hts, hnw, hini, hfr, hlo, hK⟩ := id hC
  subst hn
  rw [Nat.add_sub_cancel_left] at hd
  have hj : (n : Nat) = a := of_decide_eq_true hj
  rcases lR_s hx with ⟨x, e, hx⟩ | ⟨x, e, hx⟩
  · obtain ⟨-, rfl, rfl, rfl, rfl, rfl⟩ := nx_s hx
    exact fun H locs ls hl hP hS => lv_aload_n hxx hbb hd hj (has_at hl e) (ho H locs ls hl hP hS)
  · obtain ⟨-, rfl, rfl, rfl, rfl, rfl⟩ := nx_s hx
    exact fun H locs ls hl hP hS => lv_aload_n hxx hbb hd hj (has_at hl e) (ho H locs ls hl hP hS)
theorem x_aload {X : CT} {L : Nat} {xs : Nat → Int32} {k pc np a b c : Nat} {v : Int32} {w : Int64} {tbl : List (Int32 × Nat)} {lv lv' : List (Nat × Value)} {st st' : List Value} {lay lay' : Lay} {h h' : Hp} {pc' : Nat} {n : Nat} (hC : CxT X k) (hd : decode (mC k) pc = .ok (.aload n, np - pc)) (hn : np = pc + lenI (.aload n)) (hj : okJ k pc a b c v w tbl (.aload n) = true) (hx : ex L xs k pc lv st lay h np a b v w tbl (.aload n) = some (.inl (true, pc', lv', st', lay', h'))) (hsc : ScT X L xs k) (hR : RoT X lay lay') (ho : Ok X k pc' lv' st' lay' h') : Ok X k pc lv st lay h := by
  obtain ⟨p, l, e, R, s, m, args, below, meth, cc, D, ca, z, b0, l0, s0, Q⟩ := X
  obtain ⟨hk, hxx, hbb, hml, hown, hts, hnw, hini, hfr, hlo, hK⟩ := id hC
  subst hn
  rw [Nat.add_sub_cancel_left] at hd
  have hj : n = a := of_decide_eq_true hj
  subst hj
  rcases lR_s hx with ⟨x, e, hx⟩ | ⟨x, e, hx⟩
  · obtain ⟨-, rfl, rfl, rfl, rfl, rfl⟩ := nx_s hx
    exact fun H locs ls hl hP hS => lv_aload hxx hbb hd (has_at hl e) (ho H locs ls hl hP hS)
  · obtain ⟨-, rfl, rfl, rfl, rfl, rfl⟩ := nx_s hx
    exact fun H locs ls hl hP hS => lv_aload hxx hbb hd (has_at hl e) (ho H locs ls hl hP hS)
theorem x_istore_n {X : CT} {L : Nat} {xs : Nat → Int32} {k pc np a b c : Nat} {v : Int32} {w : Int64} {tbl : List (Int32 × Nat)} {lv lv' : List (Nat × Value)} {st st' : List Value} {lay lay' : Lay} {h h' : Hp} {pc' : Nat} {n : Fin 4} (hC : CxT X k) (hd : decode (mC k) pc = .ok (.istore_n n, np - pc)) (hn : np = pc + lenI (.istore_n n)) (hj : okJ k pc a b c v w tbl (.istore_n n) = true) (hx : ex L xs k pc lv st lay h np a b v w tbl (.istore_n n) = some (.inl (true, pc', lv', st', lay', h'))) (hsc : ScT X L xs k) (hR : RoT X lay lay') (ho : Ok X k pc' lv' st' lay' h') : Ok X k pc lv st lay h := by
  obtain ⟨p, l, e, R, s, m, args, below, meth, cc, D, ca, z, b0, l0, s0, Q⟩ := X
  obtain ⟨hk, hxx, hbb, hml, hown, hts, hnw, hini, hfr, hlo, hK⟩ := id hC
  subst hn
  rw [Nat.add_sub_cancel_left] at hd
  have hj : (n : Nat) = a := of_decide_eq_true hj
  obtain ⟨x, r, rfl, hy⟩ := pI_s hx
  rw [frc_eq] at hy
  obtain ⟨hm, rfl, rfl, rfl, rfl, rfl⟩ := nx_s hy
  exact fun H locs ls hl hP hS => lv_istore_n hxx hbb hd hj hl (Nat.le_of_ble_eq_true hm) rfl fun ls' hl' => ho H locs ls' (has_sv hl') hP hS
theorem x_istore {X : CT} {L : Nat} {xs : Nat → Int32} {k pc np a b c : Nat} {v : Int32} {w : Int64} {tbl : List (Int32 × Nat)} {lv lv' : List (Nat × Value)} {st st' : List Value} {lay lay' : Lay} {h h' : Hp} {pc' : Nat} {n : Nat} (hC : CxT X k) (hd : decode (mC k) pc = .ok (.istore n, np - pc)) (hn : np = pc + lenI (.istore n)) (hj : okJ k pc a b c v w tbl (.istore n) = true) (hx : ex L xs k pc lv st lay h np a b v w tbl (.istore n) = some (.inl (true, pc', lv', st', lay', h'))) (hsc : ScT X L xs k) (hR : RoT X lay lay') (ho : Ok X k pc' lv' st' lay' h') : Ok X k pc lv st lay h := by
  obtain ⟨p, l, e, R, s, m, args, below, meth, cc, D, ca, z, b0, l0, s0, Q⟩ := X
  obtain ⟨hk, hxx, hbb, hml, hown, hts, hnw, hini, hfr, hlo, hK⟩ := id hC
  subst hn
  rw [Nat.add_sub_cancel_left] at hd
  have hj : n = a := of_decide_eq_true hj
  subst hj
  obtain ⟨x, r, rfl, hy⟩ := pI_s hx
  rw [frc_eq] at hy
  obtain ⟨hm, rfl, rfl, rfl, rfl, rfl⟩ := nx_s hy
  exact fun H locs ls hl hP hS => lv_istore hxx hbb hd hl (Nat.le_of_ble_eq_true hm) rfl fun ls' hl' => ho H locs ls' (has_sv hl') hP hS
theorem x_astore_n {X : CT} {L : Nat} {xs : Nat → Int32} {k pc np a b c : Nat} {v : Int32} {w : Int64} {tbl : List (Int32 × Nat)} {lv lv' : List (Nat × Value)} {st st' : List Value} {lay lay' : Lay} {h h' : Hp} {pc' : Nat} {n : Fin 4} (hC : CxT X k) (hd : decode (mC k) pc = .ok (.astore_n n, np - pc)) (hn : np = pc + lenI (.astore_n n)) (hj : okJ k pc a b c v w tbl (.astore_n n) = true) (hx : ex L xs k pc lv st lay h np a b v w tbl (.astore_n n) = some (.inl (true, pc', lv', st', lay', h'))) (hsc : ScT X L xs k) (hR : RoT X lay lay') (ho : Ok X k pc' lv' st' lay' h') : Ok X k pc lv st lay h := by
  obtain ⟨p, l, e, R, s, m, args, below, meth, cc, D, ca, z, b0, l0, s0, Q⟩ := X
  obtain ⟨hk, hxx, hbb, hml, hown, hts, hnw, hini, hfr, hlo, hK⟩ := id hC
  subst hn
  rw [Nat.add_sub_cancel_left] at hd
  have hj : (n : Nat) = a := of_decide_eq_true hj
  obtain ⟨x, r, rfl, hy⟩ := pR_s hx
  rw [frc_eq] at hy
  obtain ⟨hm, rfl, rfl, rfl, rfl, rfl⟩ := nx_s hy
  exact fun H locs ls hl hP hS => lv_astore_n hxx hbb hd hj hl (Nat.le_of_ble_eq_true hm) rfl fun ls' hl' => ho H locs ls' (has_sv hl') hP hS
theorem x_astore {X : CT} {L : Nat} {xs : Nat → Int32} {k pc np a b c : Nat} {v : Int32} {w : Int64} {tbl : List (Int32 × Nat)} {lv lv' : List (Nat × Value)} {st st' : List Value} {lay lay' : Lay} {h h' : Hp} {pc' : Nat} {n : Nat} (hC : CxT X k) (hd : decode (mC k) pc = .ok (.astore n, np - pc)) (hn : np = pc + lenI (.astore n)) (hj : okJ k pc a b c v w tbl (.astore n) = true) (hx : ex L xs k pc lv st lay h np a b v w tbl (.astore n) = some (.inl (true, pc', lv', st', lay', h'))) (hsc : ScT X L xs k) (hR : RoT X lay lay') (ho : Ok X k pc' lv' st' lay' h') : Ok X k pc lv st lay h := by
  obtain ⟨p, l, e, R, s, m, args, below, meth, cc, D, ca, z, b0, l0, s0, Q⟩ := X
  obtain ⟨hk, hxx, hbb, hml, hown, hts, hnw, hini, hfr, hlo, hK⟩ := id hC
  subst hn
  rw [Nat.add_sub_cancel_left] at hd
  have hj : n = a := of_decide_eq_true hj
  subst hj
  obtain ⟨x, r, rfl, hy⟩ := pR_s hx
  rw [frc_eq] at hy
  obtain ⟨hm, rfl, rfl, rfl, rfl, rfl⟩ := nx_s hy
  exact fun H locs ls hl hP hS => lv_astore hxx hbb hd hl (Nat.le_of_ble_eq_true hm) rfl fun ls' hl' => ho H locs ls' (has_sv hl') hP hS
theorem x_iinc {X : CT} {L : Nat} {xs : Nat → Int32} {k pc np a b c : Nat} {v : Int32} {w : Int64} {tbl : List (Int32 × Nat)} {lv lv' : List (Nat × Value)} {st st' : List Value} {lay lay' : Lay} {h h' : Hp} {pc' : Nat} {n : Nat} {i : Int} (hC : CxT X k) (hd : decode (mC k) pc = .ok (.iinc n i, np - pc)) (hn : np = pc + lenI (.iinc n i)) (hj : okJ k pc a b c v w tbl (.iinc n i) = true) (hx : ex L xs k pc lv st lay h np a b v w tbl (.iinc n i) = some (.inl (true, pc', lv', st', lay', h'))) (hsc : ScT X L xs k) (hR : RoT X lay lay') (ho : Ok X k pc' lv' st' lay' h') : Ok X k pc lv st lay h := by
  obtain ⟨p, l, e, R, s, m, args, below, meth, cc, D, ca, z, b0, l0, s0, Q⟩ := X
  obtain ⟨hk, hxx, hbb, hml, hown, hts, hnw, hini, hfr, hlo, hK⟩ := id hC
  subst hn
  rw [Nat.add_sub_cancel_left] at hd
  have hj : n = a ∧ Int32.ofInt i = v := of_decide_eq_true hj
  obtain ⟨rfl, rfl⟩ := hj
  obtain ⟨x, e, hx⟩ := lI_s hx
  rw [frc_eq] at hx
  obtain ⟨hm, rfl, rfl, rfl, rfl, rfl⟩ := nx_s hx
  intro H locs ls hl hP hS
  obtain ⟨q, hq⟩ := List.getElem?_of_mem (List.mem_map.mpr ⟨(n, Value.int x), lk_in e, rfl⟩ : (n, Value.int x) ∈ cvl z b0 lv)
  exact lv_iinc hxx hbb hd hl hq rfl (Nat.le_of_ble_eq_true hm) rfl fun ls' hl' => ho H locs ls' (has_sv hl') hP hS
theorem x_iadd {X : CT} {L : Nat} {xs : Nat → Int32} {k pc np a b c : Nat} {v : Int32} {w : Int64} {tbl : List (Int32 × Nat)} {lv lv' : List (Nat × Value)} {st st' : List Value} {lay lay' : Lay} {h h' : Hp} {pc' : Nat} (hC : CxT X k) (hd : decode (mC k) pc = .ok (.iadd, np - pc)) (hn : np = pc + lenI (.iadd)) (hj : okJ k pc a b c v w tbl (.iadd) = true) (hx : ex L xs k pc lv st lay h np a b v w tbl (.iadd) = some (.inl (true, pc', lv', st', lay', h'))) (hsc : ScT X L xs k) (hR : RoT X lay lay') (ho : Ok X k pc' lv' st' lay' h') : Ok X k pc lv st lay h := by
  obtain ⟨p, l, e, R, s, m, args, below, meth, cc, D, ca, z, b0, l0, s0, Q⟩ := X
  obtain ⟨hk, hxx, hbb, hml, hown, hts, hnw, hini, hfr, hlo, hK⟩ := id hC
  subst hn
  rw [Nat.add_sub_cancel_left] at hd
  obtain ⟨x, y, r, rfl, hy⟩ := pII_s hx
  obtain ⟨-, rfl, rfl, rfl, rfl, rfl⟩ := nx_s hy
  exact fun H locs ls hl hP hS => lv_iadd hxx hbb hd (ho H locs ls hl hP hS)
theorem x_isub {X : CT} {L : Nat} {xs : Nat → Int32} {k pc np a b c : Nat} {v : Int32} {w : Int64} {tbl : List (Int32 × Nat)} {lv lv' : List (Nat × Value)} {st st' : List Value} {lay lay' : Lay} {h h' : Hp} {pc' : Nat} (hC : CxT X k) (hd : decode (mC k) pc = .ok (.isub, np - pc)) (hn : np = pc + lenI (.isub)) (hj : okJ k pc a b c v w tbl (.isub) = true) (hx : ex L xs k pc lv st lay h np a b v w tbl (.isub) = some (.inl (true, pc', lv', st', lay', h'))) (hsc : ScT X L xs k) (hR : RoT X lay lay') (ho : Ok X k pc' lv' st' lay' h') : Ok X k pc lv st lay h := by
  obtain ⟨p, l, e, R, s, m, args, below, meth, cc, D, ca, z, b0, l0, s0, Q⟩ := X
  obtain ⟨hk, hxx, hbb, hml, hown, hts, hnw, hini, hfr, hlo, hK⟩ := id hC
  subst hn
  rw [Nat.add_sub_cancel_left] at hd
  obtain ⟨x, y, r, rfl, hy⟩ := pII_s hx
  obtain ⟨-, rfl, rfl, rfl, rfl, rfl⟩ := nx_s hy
  exact fun H locs ls hl hP hS => lv_isub hxx hbb hd (ho H locs ls hl hP hS)
theorem x_imul {X : CT} {L : Nat} {xs : Nat → Int32} {k pc np a b c : Nat} {v : Int32} {w : Int64} {tbl : List (Int32 × Nat)} {lv lv' : List (Nat × Value)} {st st' : List Value} {lay lay' : Lay} {h h' : Hp} {pc' : Nat} (hC : CxT X k) (hd : decode (mC k) pc = .ok (.imul, np - pc)) (hn : np = pc + lenI (.imul)) (hj : okJ k pc a b c v w tbl (.imul) = true) (hx : ex L xs k pc lv st lay h np a b v w tbl (.imul) = some (.inl (true, pc', lv', st', lay', h'))) (hsc : ScT X L xs k) (hR : RoT X lay lay') (ho : Ok X k pc' lv' st' lay' h') : Ok X k pc lv st lay h := by
  obtain ⟨p, l, e, R, s, m, args, below, meth, cc, D, ca, z, b0, l0, s0, Q⟩ := X
  obtain ⟨hk, hxx, hbb, hml, hown, hts, hnw, hini, hfr, hlo, hK⟩ := id hC
  subst hn
  rw [Nat.add_sub_cancel_left] at hd
  obtain ⟨x, y, r, rfl, hy⟩ := pII_s hx
  obtain ⟨-, rfl, rfl, rfl, rfl, rfl⟩ := nx_s hy
  exact fun H locs ls hl hP hS => lv_imul hxx hbb hd (ho H locs ls hl hP hS)
theorem x_iand {X : CT} {L : Nat} {xs : Nat → Int32} {k pc np a b c : Nat} {v : Int32} {w : Int64} {tbl : List (Int32 × Nat)} {lv lv' : List (Nat × Value)} {st st' : List Value} {lay lay' : Lay} {h h' : Hp} {pc' : Nat} (hC : CxT X k) (hd : decode (mC k) pc = .ok (.iand, np - pc)) (hn : np = pc + lenI (.iand)) (hj : okJ k pc a b c v w tbl (.iand) = true) (hx : ex L xs k pc lv st lay h np a b v w tbl (.iand) = some (.inl (true, pc', lv', st', lay', h'))) (hsc : ScT X L xs k) (hR : RoT X lay lay') (ho : Ok X k pc' lv' st' lay' h') : Ok X k pc lv st lay h := by
  obtain ⟨p, l, e, R, s, m, args, below, meth, cc, D, ca, z, b0, l0, s0, Q⟩ := X
  obtain ⟨hk, hxx, hbb, hml, hown, hts, hnw, hini, hfr, hlo, hK⟩ := id hC
  subst hn
  rw [Nat.add_sub_cancel_left] at hd
  obtain ⟨x, y, r, rfl, hy⟩ := pII_s hx
  obtain ⟨-, rfl, rfl, rfl, rfl, rfl⟩ := nx_s hy
  exact fun H locs ls hl hP hS => lv_iand hxx hbb hd (ho H locs ls hl hP hS)
theorem x_ior {X : CT} {L : Nat} {xs : Nat → Int32} {k pc np a b c : Nat} {v : Int32} {w : Int64} {tbl : List (Int32 × Nat)} {lv lv' : List (Nat × Value)} {st st' : List Value} {lay lay' : Lay} {h h' : Hp} {pc' : Nat} (hC : CxT X k) (hd : decode (mC k) pc = .ok (.ior, np - pc)) (hn : np = pc + lenI (.ior)) (hj : okJ k pc a b c v w tbl (.ior) = true) (hx : ex L xs k pc lv st lay h np a b v w tbl (.ior) = some (.inl (true, pc', lv', st', lay', h'))) (hsc : ScT X L xs k) (hR : RoT X lay lay') (ho : Ok X k pc' lv' st' lay' h') : Ok X k pc lv st lay h := by
  obtain ⟨p, l, e, R, s, m, args, below, meth, cc, D, ca, z, b0, l0, s0, Q⟩ := X
  obtain ⟨hk, hxx, hbb, hml, hown, hts, hnw, hini, hfr, hlo, hK⟩ := id hC
  subst hn
  rw [Nat.add_sub_cancel_left] at hd
  obtain ⟨x, y, r, rfl, hy⟩ := pII_s hx
  obtain ⟨-, rfl, rfl, rfl, rfl, rfl⟩ := nx_s hy
  exact fun H locs ls hl hP hS => lv_ior hxx hbb hd (ho H locs ls hl hP hS)
theorem x_ixor {X : CT} {L : Nat} {xs : Nat → Int32} {k pc np a b c : Nat} {v : Int32} {w : Int64} {tbl : List (Int32 × Nat)} {lv lv' : List (Nat × Value)} {st st' : List Value} {lay lay' : Lay} {h h' : Hp} {pc' : Nat} (hC : CxT X k) (hd : decode (mC k) pc = .ok (.ixor, np - pc)) (hn : np = pc + lenI (.ixor)) (hj : okJ k pc a b c v w tbl (.ixor) = true) (hx : ex L xs k pc lv st lay h np a b v w tbl (.ixor) = some (.inl (true, pc', lv', st', lay', h'))) (hsc : ScT X L xs k) (hR : RoT X lay lay') (ho : Ok X k pc' lv' st' lay' h') : Ok X k pc lv st lay h := by
  obtain ⟨p, l, e, R, s, m, args, below, meth, cc, D, ca, z, b0, l0, s0, Q⟩ := X
  obtain ⟨hk, hxx, hbb, hml, hown, hts, hnw, hini, hfr, hlo, hK⟩ := id hC
  subst hn
  rw [Nat.add_sub_cancel_left] at hd
  obtain ⟨x, y, r, rfl, hy⟩ := pII_s hx
  obtain ⟨-, rfl, rfl, rfl, rfl, rfl⟩ := nx_s hy
  exact fun H locs ls hl hP hS => lv_ixor hxx hbb hd (ho H locs ls hl hP hS)
theorem x_ishl {X : CT} {L : Nat} {xs : Nat → Int32} {k pc np a b c : Nat} {v : Int32} {w : Int64} {tbl : List (Int32 × Nat)} {lv lv' : List (Nat × Value)} {st st' : List Value} {lay lay' : Lay} {h h' : Hp} {pc' : Nat} (hC : CxT X k) (hd : decode (mC k) pc = .ok (.ishl, np - pc)) (hn : np = pc + lenI (.ishl)) (hj : okJ k pc a b c v w tbl (.ishl) = true) (hx : ex L xs k pc lv st lay h np a b v w tbl (.ishl) = some (.inl (true, pc', lv', st', lay', h'))) (hsc : ScT X L xs k) (hR : RoT X lay lay') (ho : Ok X k pc' lv' st' lay' h') : Ok X k pc lv st lay h := by
  obtain ⟨p, l, e, R, s, m, args, below, meth, cc, D, ca, z, b0, l0, s0, Q⟩ := X
  obtain ⟨hk, hxx, hbb, hml, hown, hts, hnw, hini, hfr, hlo, hK⟩ := id hC
  subst hn
  rw [Nat.add_sub_cancel_left] at hd
  obtain ⟨x, y, r, rfl, hy⟩ := pII_s hx
  obtain ⟨-, rfl, rfl, rfl, rfl, rfl⟩ := nx_s hy
  exact fun H locs ls hl hP hS => lv_ishl hxx hbb hd (ho H locs ls hl hP hS)
theorem x_ishr {X : CT} {L : Nat} {xs : Nat → Int32} {k pc np a b c : Nat} {v : Int32} {w : Int64} {tbl : List (Int32 × Nat)} {lv lv' : List (Nat × Value)} {st st' : List Value} {lay lay' : Lay} {h h' : Hp} {pc' : Nat} (hC : CxT X k) (hd : decode (mC k) pc = .ok (.ishr, np - pc)) (hn : np = pc + lenI (.ishr)) (hj : okJ k pc a b c v w tbl (.ishr) = true) (hx : ex L xs k pc lv st lay h np a b v w tbl (.ishr) = some (.inl (true, pc', lv', st', lay', h'))) (hsc : ScT X L xs k) (hR : RoT X lay lay') (ho : Ok X k pc' lv' st' lay' h') : Ok X k pc lv st lay h := by
  obtain ⟨p, l, e, R, s, m, args, below, meth, cc, D, ca, z, b0, l0, s0, Q⟩ := X
  obtain ⟨hk, hxx, hbb, hml, hown, hts, hnw, hini, hfr, hlo, hK⟩ := id hC
  subst hn
  rw [Nat.add_sub_cancel_left] at hd
  obtain ⟨x, y, r, rfl, hy⟩ := pII_s hx
  obtain ⟨-, rfl, rfl, rfl, rfl, rfl⟩ := nx_s hy
  exact fun H locs ls hl hP hS => lv_ishr hxx hbb hd (ho H locs ls hl hP hS)
theorem x_idiv {X : CT} {L : Nat} {xs : Nat → Int32} {k pc np a b c : Nat} {v : Int32} {w : Int64} {tbl : List (Int32 × Nat)} {lv lv' : List (Nat × Value)} {st st' : List Value} {lay lay' : Lay} {h h' : Hp} {pc' : Nat} (hC : CxT X k) (hd : decode (mC k) pc = .ok (.idiv, np - pc)) (hn : np = pc + lenI (.idiv)) (hj : okJ k pc a b c v w tbl (.idiv) = true) (hx : ex L xs k pc lv st lay h np a b v w tbl (.idiv) = some (.inl (true, pc', lv', st', lay', h'))) (hsc : ScT X L xs k) (hR : RoT X lay lay') (ho : Ok X k pc' lv' st' lay' h') : Ok X k pc lv st lay h := by
  obtain ⟨p, l, e, R, s, m, args, below, meth, cc, D, ca, z, b0, l0, s0, Q⟩ := X
  obtain ⟨hk, hxx, hbb, hml, hown, hts, hnw, hini, hfr, hlo, hK⟩ := id hC
  subst hn
  rw [Nat.add_sub_cancel_left] at hd
  obtain ⟨x, y, r, rfl, hy⟩ := pII_s hx
  obtain ⟨hg, rfl, rfl, rfl, rfl, rfl⟩ := nx_s hy
  have hne : ¬ y = 0 := by simpa using hg
  exact fun H locs ls hl hP hS => lv_idiv hxx hbb hd hne (ho H locs ls hl hP hS)
theorem x_irem {X : CT} {L : Nat} {xs : Nat → Int32} {k pc np a b c : Nat} {v : Int32} {w : Int64} {tbl : List (Int32 × Nat)} {lv lv' : List (Nat × Value)} {st st' : List Value} {lay lay' : Lay} {h h' : Hp} {pc' : Nat} (hC : CxT X k) (hd : decode (mC k) pc = .ok (.irem, np - pc)) (hn : np = pc + lenI (.irem)) (hj : okJ k pc a b c v w tbl (.irem) = true) (hx : ex L xs k pc lv st lay h np a b v w tbl (.irem) = some (.inl (true, pc', lv', st', lay', h'))) (hsc : ScT X L xs k) (hR : RoT X lay lay') (ho : Ok X k pc' lv' st' lay' h') : Ok X k pc lv st lay h := by
  obtain ⟨p, l, e, R, s, m, args, below, meth, cc, D, ca, z, b0, l0, s0, Q⟩ := X
  obtain ⟨hk, hxx, hbb, hml, hown, hts, hnw, hini, hfr, hlo, hK⟩ := id hC
  subst hn
  rw [Nat.add_sub_cancel_left] at hd
  obtain ⟨x, y, r, rfl, hy⟩ := pII_s hx
  obtain ⟨hg, rfl, rfl, rfl, rfl, rfl⟩ := nx_s hy
  have hne : ¬ y = 0 := by simpa using hg
  exact fun H locs ls hl hP hS => lv_irem hxx hbb hd hne (ho H locs ls hl hP hS)
theorem x_ladd {X : CT} {L : Nat} {xs : Nat → Int32} {k pc np a b c : Nat} {v : Int32} {w : Int64} {tbl : List (Int32 × Nat)} {lv lv' : List (Nat × Value)} {st st' : List Value} {lay lay' : Lay} {h h' : Hp} {pc' : Nat} (hC : CxT X k) (hd : decode (mC k) pc = .ok (.ladd, np - pc)) (hn : np = pc + lenI (.ladd)) (hj : okJ k pc a b c v w tbl (.ladd) = true) (hx : ex L xs k pc lv st lay h np a b v w tbl (.ladd) = some (.inl (true, pc', lv', st', lay', h'))) (hsc : ScT X L xs k) (hR : RoT X lay lay') (ho : Ok X k pc' lv' st' lay' h') : Ok X k pc lv st lay h := by
  obtain ⟨p, l, e, R, s, m, args, below, meth, cc, D, ca, z, b0, l0, s0, Q⟩ := X
  obtain ⟨hk, hxx, hbb, hml, hown, hts, hnw, hini, hfr, hlo, hK⟩ := id hC
  subst hn
  rw [Nat.add_sub_cancel_left] at hd
  obtain ⟨x, y, r, rfl, hy⟩ := pLL_s hx
  obtain ⟨-, rfl, rfl, rfl, rfl, rfl⟩ := nx_s hy
  exact fun H locs ls hl hP hS => lv_ladd hxx hbb hd (ho H locs ls hl hP hS)
theorem x_lmul {X : CT} {L : Nat} {xs : Nat → Int32} {k pc np a b c : Nat} {v : Int32} {w : Int64} {tbl : List (Int32 × Nat)} {lv lv' : List (Nat × Value)} {st st' : List Value} {lay lay' : Lay} {h h' : Hp} {pc' : Nat} (hC : CxT X k) (hd : decode (mC k) pc = .ok (.lmul, np - pc)) (hn : np = pc + lenI (.lmul)) (hj : okJ k pc a b c v w tbl (.lmul) = true) (hx : ex L xs k pc lv st lay h np a b v w tbl (.lmul) = some (.inl (true, pc', lv', st', lay', h'))) (hsc : ScT X L xs k) (hR : RoT X lay lay') (ho : Ok X k pc' lv' st' lay' h') : Ok X k pc lv st lay h := by
  obtain ⟨p, l, e, R, s, m, args, below, meth, cc, D, ca, z, b0, l0, s0, Q⟩ := X
  obtain ⟨hk, hxx, hbb, hml, hown, hts, hnw, hini, hfr, hlo, hK⟩ := id hC
  subst hn
  rw [Nat.add_sub_cancel_left] at hd
  obtain ⟨x, y, r, rfl, hy⟩ := pLL_s hx
  obtain ⟨-, rfl, rfl, rfl, rfl, rfl⟩ := nx_s hy
  exact fun H locs ls hl hP hS => lv_lmul hxx hbb hd (ho H locs ls hl hP hS)
theorem x_land {X : CT} {L : Nat} {xs : Nat → Int32} {k pc np a b c : Nat} {v : Int32} {w : Int64} {tbl : List (Int32 × Nat)} {lv lv' : List (Nat × Value)} {st st' : List Value} {lay lay' : Lay} {h h' : Hp} {pc' : Nat} (hC : CxT X k) (hd : decode (mC k) pc = .ok (.land, np - pc)) (hn : np = pc + lenI (.land)) (hj : okJ k pc a b c v w tbl (.land) = true) (hx : ex L xs k pc lv st lay h np a b v w tbl (.land) = some (.inl (true, pc', lv', st', lay', h'))) (hsc : ScT X L xs k) (hR : RoT X lay lay') (ho : Ok X k pc' lv' st' lay' h') : Ok X k pc lv st lay h := by
  obtain ⟨p, l, e, R, s, m, args, below, meth, cc, D, ca, z, b0, l0, s0, Q⟩ := X
  obtain ⟨hk, hxx, hbb, hml, hown, hts, hnw, hini, hfr, hlo, hK⟩ := id hC
  subst hn
  rw [Nat.add_sub_cancel_left] at hd
  obtain ⟨x, y, r, rfl, hy⟩ := pLL_s hx
  obtain ⟨-, rfl, rfl, rfl, rfl, rfl⟩ := nx_s hy
  exact fun H locs ls hl hP hS => lv_land hxx hbb hd (ho H locs ls hl hP hS)
theorem x_lrem {X : CT} {L : Nat} {xs : Nat → Int32} {k pc np a b c : Nat} {v : Int32} {w : Int64} {tbl : List (Int32 × Nat)} {lv lv' : List (Nat × Value)} {st st' : List Value} {lay lay' : Lay} {h h' : Hp} {pc' : Nat} (hC : CxT X k) (hd : decode (mC k) pc = .ok (.lrem, np - pc)) (hn : np = pc + lenI (.lrem)) (hj : okJ k pc a b c v w tbl (.lrem) = true) (hx : ex L xs k pc lv st lay h np a b v w tbl (.lrem) = some (.inl (true, pc', lv', st', lay', h'))) (hsc : ScT X L xs k) (hR : RoT X lay lay') (ho : Ok X k pc' lv' st' lay' h') : Ok X k pc lv st lay h := by
  obtain ⟨p, l, e, R, s, m, args, below, meth, cc, D, ca, z, b0, l0, s0, Q⟩ := X
  obtain ⟨hk, hxx, hbb, hml, hown, hts, hnw, hini, hfr, hlo, hK⟩ := id hC
  subst hn
  rw [Nat.add_sub_cancel_left] at hd
  obtain ⟨x, y, r, rfl, hy⟩ := pLL_s hx
  obtain ⟨hg, rfl, rfl, rfl, rfl, rfl⟩ := nx_s hy
  have hne : ¬ y = 0 := by simpa using hg
  exact fun H locs ls hl hP hS => lv_lrem hxx hbb hd hne (ho H locs ls hl hP hS)
theorem x_lcmp {X : CT} {L : Nat} {xs : Nat → Int32} {k pc np a b c : Nat} {v : Int32} {w : Int64} {tbl : List (Int32 × Nat)} {lv lv' : List (Nat × Value)} {st st' : List Value} {lay lay' : Lay} {h h' : Hp} {pc' : Nat} (hC : CxT X k) (hd : decode (mC k) pc = .ok (.lcmp, np - pc)) (hn : np = pc + lenI (.lcmp)) (hj : okJ k pc a b c v w tbl (.lcmp) = true) (hx : ex L xs k pc lv st lay h np a b v w tbl (.lcmp) = some (.inl (true, pc', lv', st', lay', h'))) (hsc : ScT X L xs k) (hR : RoT X lay lay') (ho : Ok X k pc' lv' st' lay' h') : Ok X k pc lv st lay h := by
  obtain ⟨p, l, e, R, s, m, args, below, meth, cc, D, ca, z, b0, l0, s0, Q⟩ := X
  obtain ⟨hk, hxx, hbb, hml, hown, hts, hnw, hini, hfr, hlo, hK⟩ := id hC
  subst hn
  rw [Nat.add_sub_cancel_left] at hd
  obtain ⟨x, y, r, rfl, hy⟩ := pLL_s hx
  obtain ⟨-, rfl, rfl, rfl, rfl, rfl⟩ := nx_s hy
  exact fun H locs ls hl hP hS => W.lcmp hxx hbb hd (ho H locs ls hl hP hS)
theorem x_i2l {X : CT} {L : Nat} {xs : Nat → Int32} {k pc np a b c : Nat} {v : Int32} {w : Int64} {tbl : List (Int32 × Nat)} {lv lv' : List (Nat × Value)} {st st' : List Value} {lay lay' : Lay} {h h' : Hp} {pc' : Nat} (hC : CxT X k) (hd : decode (mC k) pc = .ok (.i2l, np - pc)) (hn : np = pc + lenI (.i2l)) (hj : okJ k pc a b c v w tbl (.i2l) = true) (hx : ex L xs k pc lv st lay h np a b v w tbl (.i2l) = some (.inl (true, pc', lv', st', lay', h'))) (hsc : ScT X L xs k) (hR : RoT X lay lay') (ho : Ok X k pc' lv' st' lay' h') : Ok X k pc lv st lay h := by
  obtain ⟨p, l, e, R, s, m, args, below, meth, cc, D, ca, z, b0, l0, s0, Q⟩ := X
  obtain ⟨hk, hxx, hbb, hml, hown, hts, hnw, hini, hfr, hlo, hK⟩ := id hC
  subst hn
  rw [Nat.add_sub_cancel_left] at hd
  obtain ⟨x, r, rfl, hy⟩ := pI_s hx
  obtain ⟨-, rfl, rfl, rfl, rfl, rfl⟩ := nx_s hy
  exact fun H locs ls hl hP hS => lv_i2l hxx hbb hd rfl (ho H locs ls hl hP hS)
theorem x_l2i {X : CT} {L : Nat} {xs : Nat → Int32} {k pc np a b c : Nat} {v : Int32} {w : Int64} {tbl : List (Int32 × Nat)} {lv lv' : List (Nat × Value)} {st st' : List Value} {lay lay' : Lay} {h h' : Hp} {pc' : Nat} (hC : CxT X k) (hd : decode (mC k) pc = .ok (.l2i, np - pc)) (hn : np = pc + lenI (.l2i)) (hj : okJ k pc a b c v w tbl (.l2i) = true) (hx : ex L xs k pc lv st lay h np a b v w tbl (.l2i) = some (.inl (true, pc', lv', st', lay', h'))) (hsc : ScT X L xs k) (hR : RoT X lay lay') (ho : Ok X k pc' lv' st' lay' h') : Ok X k pc lv st lay h := by
  obtain ⟨p, l, e, R, s, m, args, below, meth, cc, D, ca, z, b0, l0, s0, Q⟩ := X
  obtain ⟨hk, hxx, hbb, hml, hown, hts, hnw, hini, hfr, hlo, hK⟩ := id hC
  subst hn
  rw [Nat.add_sub_cancel_left] at hd
  obtain ⟨x, r, rfl, hy⟩ := pL_s hx
  obtain ⟨-, rfl, rfl, rfl, rfl, rfl⟩ := nx_s hy
  exact fun H locs ls hl hP hS => lv_l2i hxx hbb hd rfl (ho H locs ls hl hP hS)
theorem x_dup {X : CT} {L : Nat} {xs : Nat → Int32} {k pc np a b c : Nat} {v : Int32} {w : Int64} {tbl : List (Int32 × Nat)} {lv lv' : List (Nat × Value)} {st st' : List Value} {lay lay' : Lay} {h h' : Hp} {pc' : Nat} (hC : CxT X k) (hd : decode (mC k) pc = .ok (.dup, np - pc)) (hn : np = pc + lenI (.dup)) (hj : okJ k pc a b c v w tbl (.dup) = true) (hx : ex L xs k pc lv st lay h np a b v w tbl (.dup) = some (.inl (true, pc', lv', st', lay', h'))) (hsc : ScT X L xs k) (hR : RoT X lay lay') (ho : Ok X k pc' lv' st' lay' h') : Ok X k pc lv st lay h := by
  obtain ⟨p, l, e, R, s, m, args, below, meth, cc, D, ca, z, b0, l0, s0, Q⟩ := X
  obtain ⟨hk, hxx, hbb, hml, hown, hts, hnw, hini, hfr, hlo, hK⟩ := id hC
  subst hn
  rw [Nat.add_sub_cancel_left] at hd
  obtain ⟨x, r, rfl, hy⟩ := p1_s hx
  obtain ⟨hg, rfl, rfl, rfl, rfl, rfl⟩ := nx_s hy
  exact fun H locs ls hl hP hS => lv_dup hxx hbb hd (by rw [cv_cat]; exact Nat.eq_of_beq_eq_true hg) (ho H locs ls hl hP hS)
theorem x_pop {X : CT} {L : Nat} {xs : Nat → Int32} {k pc np a b c : Nat} {v : Int32} {w : Int64} {tbl : List (Int32 × Nat)} {lv lv' : List (Nat × Value)} {st st' : List Value} {lay lay' : Lay} {h h' : Hp} {pc' : Nat} (hC : CxT X k) (hd : decode (mC k) pc = .ok (.pop, np - pc)) (hn : np = pc + lenI (.pop)) (hj : okJ k pc a b c v w tbl (.pop) = true) (hx : ex L xs k pc lv st lay h np a b v w tbl (.pop) = some (.inl (true, pc', lv', st', lay', h'))) (hsc : ScT X L xs k) (hR : RoT X lay lay') (ho : Ok X k pc' lv' st' lay' h') : Ok X k pc lv st lay h := by
  obtain ⟨p, l, e, R, s, m, args, below, meth, cc, D, ca, z, b0, l0, s0, Q⟩ := X
  obtain ⟨hk, hxx, hbb, hml, hown, hts, hnw, hini, hfr, hlo, hK⟩ := id hC
  subst hn
  rw [Nat.add_sub_cancel_left] at hd
  obtain ⟨x, r, rfl, hy⟩ := p1_s hx
  obtain ⟨hg, rfl, rfl, rfl, rfl, rfl⟩ := nx_s hy
  exact fun H locs ls hl hP hS => lv_pop hxx hbb hd (by rw [cv_cat]; exact Nat.eq_of_beq_eq_true hg) (ho H locs ls hl hP hS)
theorem x_dup2 {X : CT} {L : Nat} {xs : Nat → Int32} {k pc np a b c : Nat} {v : Int32} {w : Int64} {tbl : List (Int32 × Nat)} {lv lv' : List (Nat × Value)} {st st' : List Value} {lay lay' : Lay} {h h' : Hp} {pc' : Nat} (hC : CxT X k) (hd : decode (mC k) pc = .ok (.dup2, np - pc)) (hn : np = pc + lenI (.dup2)) (hj : okJ k pc a b c v w tbl (.dup2) = true) (hx : ex L xs k pc lv st lay h np a b v w tbl (.dup2) = some (.inl (true, pc', lv', st', lay', h'))) (hsc : ScT X L xs k) (hR : RoT X lay lay') (ho : Ok X k pc' lv' st' lay' h') : Ok X k pc lv st lay h := by
  obtain ⟨p, l, e, R, s, m, args, below, meth, cc, D, ca, z, b0, l0, s0, Q⟩ := X
  obtain ⟨hk, hxx, hbb, hml, hown, hts, hnw, hini, hfr, hlo, hK⟩ := id hC
  subst hn
  rw [Nat.add_sub_cancel_left] at hd
  obtain ⟨x, y, r, rfl, hy⟩ := p2_s hx
  obtain ⟨hg, rfl, rfl, rfl, rfl, rfl⟩ := nx_s hy
  simp only [Bool.and_eq_true] at hg
  exact fun H locs ls hl hP hS => lv_dup2_11 hxx hbb hd (by rw [cv_cat]; exact Nat.eq_of_beq_eq_true hg.1) (by rw [cv_cat]; exact Nat.eq_of_beq_eq_true hg.2) (ho H locs ls hl hP hS)
theorem x_goto {X : CT} {L : Nat} {xs : Nat → Int32} {k pc np a b c : Nat} {v : Int32} {w : Int64} {tbl : List (Int32 × Nat)} {lv lv' : List (Nat × Value)} {st st' : List Value} {lay lay' : Lay} {h h' : Hp} {pc' : Nat} {i : Int} (hC : CxT X k) (hd : decode (mC k) pc = .ok (.goto i, np - pc)) (hn : np = pc + lenI (.goto i)) (hj : okJ k pc a b c v w tbl (.goto i) = true) (hx : ex L xs k pc lv st lay h np a b v w tbl (.goto i) = some (.inl (true, pc', lv', st', lay', h'))) (hsc : ScT X L xs k) (hR : RoT X lay lay') (ho : Ok X k pc' lv' st' lay' h') : Ok X k pc lv st lay h := by
  obtain ⟨p, l, e, R, s, m, args, below, meth, cc, D, ca, z, b0, l0, s0, Q⟩ := X
  obtain ⟨hk, hxx, hbb, hml, hown, hts, hnw, hini, hfr, hlo, hK⟩ := id hC
  subst hn
  rw [Nat.add_sub_cancel_left] at hd
  obtain ⟨-, rfl, rfl, rfl, rfl, rfl⟩ := nx_s hx
  exact fun H locs ls hl hP hS => lv_goto hxx hbb hd (of_decide_eq_true hj) (ho H locs ls hl hP hS)
theorem x_ifCond {X : CT} {L : Nat} {xs : Nat → Int32} {k pc np a b c : Nat} {v : Int32} {w : Int64} {tbl : List (Int32 × Nat)} {lv lv' : List (Nat × Value)} {st st' : List Value} {lay lay' : Lay} {h h' : Hp} {pc' : Nat} {q : Jvm.ClassFile.Cond} {i : Int} (hC : CxT X k) (hd : decode (mC k) pc = .ok (.ifCond q i, np - pc)) (hn : np = pc + lenI (.ifCond q i)) (hj : okJ k pc a b c v w tbl (.ifCond q i) = true) (hx : ex L xs k pc lv st lay h np a b v w tbl (.ifCond q i) = some (.inl (true, pc', lv', st', lay', h'))) (hsc : ScT X L xs k) (hR : RoT X lay lay') (ho : Ok X k pc' lv' st' lay' h') : Ok X k pc lv st lay h := by
  obtain ⟨p, l, e, R, s, m, args, below, meth, cc, D, ca, z, b0, l0, s0, Q⟩ := X
  obtain ⟨hk, hxx, hbb, hml, hown, hts, hnw, hini, hfr, hlo, hK⟩ := id hC
  subst hn
  rw [Nat.add_sub_cancel_left] at hd
  have hj2 : (pc : Int) + i = (a : Int) := of_decide_eq_true hj
  obtain ⟨x, r, rfl, hy⟩ := pI_s hx
  obtain ⟨-, rfl, rfl, rfl, rfl, rfl⟩ := nx_s hy
  intro H locs ls hl hP hS
  have hw := ho H locs ls hl hP hS
  cases q with
  | eq => exact lv_if_eq hxx hbb hd hj2 (fun g => by rw [icd, if_pos g] at hw; exact hw) (fun g => by rw [icd, if_neg g] at hw; exact hw)
  | ne => exact lv_if_ne hxx hbb hd hj2 (fun g => by rw [icd, if_neg g] at hw; exact hw) (fun g => by rw [icd, if_pos g] at hw; exact hw)
  | lt => exact lv_if_lt hxx hbb hd hj2 (fun g => by rw [icd, if_pos g] at hw; exact hw) (fun g => by rw [icd, if_neg g] at hw; exact hw)
  | ge => exact lv_if_ge hxx hbb hd hj2 (fun g => by rw [icd, if_neg (Int32.not_lt.mpr g)] at hw; exact hw) (fun g => by rw [icd, if_pos (Int32.not_le.mp g)] at hw; exact hw)
  | gt => exact lv_if_gt hxx hbb hd hj2 (fun g => by rw [icd, if_pos g] at hw; exact hw) (fun g => by rw [icd, if_neg g] at hw; exact hw)
  | le => exact lv_if_le hxx hbb hd hj2 (fun g => by rw [icd, if_neg (Int32.not_lt.mpr g)] at hw; exact hw) (fun g => by rw [icd, if_pos (Int32.not_le.mp g)] at hw; exact hw)
theorem x_if_icmp {X : CT} {L : Nat} {xs : Nat → Int32} {k pc np a b c : Nat} {v : Int32} {w : Int64} {tbl : List (Int32 × Nat)} {lv lv' : List (Nat × Value)} {st st' : List Value} {lay lay' : Lay} {h h' : Hp} {pc' : Nat} {q : Jvm.ClassFile.Cond} {i : Int} (hC : CxT X k) (hd : decode (mC k) pc = .ok (.if_icmp q i, np - pc)) (hn : np = pc + lenI (.if_icmp q i)) (hj : okJ k pc a b c v w tbl (.if_icmp q i) = true) (hx : ex L xs k pc lv st lay h np a b v w tbl (.if_icmp q i) = some (.inl (true, pc', lv', st', lay', h'))) (hsc : ScT X L xs k) (hR : RoT X lay lay') (ho : Ok X k pc' lv' st' lay' h') : Ok X k pc lv st lay h := by
  obtain ⟨p, l, e, R, s, m, args, below, meth, cc, D, ca, z, b0, l0, s0, Q⟩ := X
  obtain ⟨hk, hxx, hbb, hml, hown, hts, hnw, hini, hfr, hlo, hK⟩ := id hC
  subst hn
  rw [Nat.add_sub_cancel_left] at hd
  have hj2 : (pc : Int) + i = (a : Int) := of_decide_eq_true hj
  obtain ⟨x, y, r, rfl, hy⟩ := pII_s hx
  obtain ⟨-, rfl, rfl, rfl, rfl, rfl⟩ := nx_s hy
  intro H locs ls hl hP hS
  have hw := ho H locs ls hl hP hS
  cases q with
  | eq => exact lv_icmp_eq hxx hbb hd hj2 (fun g => by rw [icd, if_pos g] at hw; exact hw) (fun g => by rw [icd, if_neg g] at hw; exact hw)
  | ne => exact lv_icmp_ne hxx hbb hd hj2 (fun g => by rw [icd, if_neg g] at hw; exact hw) (fun g => by rw [icd, if_pos g] at hw; exact hw)
  | lt => exact lv_icmp_lt hxx hbb hd hj2 (fun g => by rw [icd, if_pos g] at hw; exact hw) (fun g => by rw [icd, if_neg g] at hw; exact hw)
  | ge => exact lv_icmp_ge hxx hbb hd hj2 (fun g => by rw [icd, if_neg (Int32.not_lt.mpr g)] at hw; exact hw) (fun g => by rw [icd, if_pos (Int32.not_le.mp g)] at hw; exact hw)
  | gt => exact lv_icmp_gt hxx hbb hd hj2 (fun g => by rw [icd, if_pos g] at hw; exact hw) (fun g => by rw [icd, if_neg g] at hw; exact hw)
  | le => exact lv_icmp_le hxx hbb hd hj2 (fun g => by rw [icd, if_neg (Int32.not_lt.mpr g)] at hw; exact hw) (fun g => by rw [icd, if_pos (Int32.not_le.mp g)] at hw; exact hw)
