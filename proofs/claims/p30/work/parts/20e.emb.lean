/-! Runs among other places: all places moved by d, other places before them and behind them. -/
def vS (d : Nat) : Value → Value
  | .ref p => .ref (p + d)
  | v => v
def lS (d : Nat) : List (Nat × Value) → List (Nat × Value)
  | [] => []
  | (j, u) :: r => (j, vS d u) :: lS d r
def mS (d : Nat) : List Value → List Value
  | [] => []
  | u :: r => vS d u :: mS d r
def fS (d : Nat) : List (Option Value) → List (Option Value) := List.map (Option.map (vS d))
def eS (d : Nat) : LE → LE
  | .inl (c, fl) => .inl (c, fS d fl)
  | .inr x => .inr x
def LB (d : Nat) (pre lay post : Lay) : Lay := pre ++ (lay.map (eS d) ++ post)
def hB (d n : Nat) (g h : Hp) : Hp := fun p => if d ≤ p ∧ p < d + n then h (p - d) else g p
def rB (d n : Nat) (pre post : Lay) (g : Hp) : Rs → Rs
  | .inl (q, pc, lv, st, lay, h) => .inl (q, pc, lS d lv, mS d st, LB d pre lay post, hB d n g h)
  | .inr (.inl (q, (a, p, l, s), (k, np, l2, s2))) => .inr (.inl (q, (a, p, lS d l, mS d s), (k, np, lS d l2, mS d s2)))
  | .inr (.inr (q, vs)) => .inr (.inr (q, mS d vs))
def rOk (n : Nat) : Rs → Prop
  | .inl (_, _, _, _, lay, _) => lay.length ≤ n
  | _ => True
theorem vS_cat (d : Nat) (v : Value) : (vS d v).category = v.category := by cases v <;> rfl
theorem lk_S (d : Nat) : ∀ (l : List (Nat × Value)) (i : Nat), lk (lS d l) i = (lk l i).map (vS d)
  | [], _ => rfl
  | (j, u) :: r, i => by
    simp only [lS, lk]
    cases Nat.beq j i with
    | true => rfl
    | false => exact lk_S d r i
theorem insv_S (d : Nat) : ∀ (l : List (Nat × Value)) (i : Nat) (v : Value), insv (lS d l) i (vS d v) = lS d (insv l i v)
  | [], _, _ => rfl
  | (j, u) :: r, i, v => by
    simp only [lS, insv]
    cases Nat.ble j i with
    | true =>
      simp only [cond_true, lS]
      rw [insv_S d r i v]
    | false => simp only [cond_false, lS]
theorem flt_S (d : Nat) : ∀ (l : List (Nat × Value)) (i : Nat), flt (lS d l) i = lS d (flt l i)
  | [], _ => rfl
  | (j, u) :: r, i => by
    have ih := flt_S d r i
    simp only [lS, flt, vS_cat]
    cases (!(j == i) && !(j + 1 == i && u.category == 2)) with
    | true =>
      simp only [cond_true, lS]
      rw [ih]
    | false =>
      simp only [cond_false]
      exact ih
theorem sv_S (d : Nat) (l : List (Nat × Value)) (i : Nat) (v : Value) : sv (lS d l) i (vS d v) = lS d (sv l i v) := by
  unfold sv
  rw [flt_S, insv_S]
theorem kp_S (d : Nat) : ∀ (K : Nat) (l : List (Nat × Value)), kp K (lS d l) = lS d (kp K l)
  | _, [] => rfl
  | K, (j, u) :: r => by
    simp only [lS, kp]
    cases Nat.ble K j with
    | true => rfl
    | false =>
      simp only [cond_false, lS]
      rw [kp_S d K r]
theorem args_S (d : Nat) : ∀ (l : List Value) (i : Nat), lv_args i (mS d l) = lS d (lv_args i l)
  | [], _ => rfl
  | v :: r, i => by
    simp only [mS, lv_args, vS_cat, lS]
    rw [args_S d r]
theorem lgl_S (d : Nat) : ∀ (l : List Value), (lg_sl (mS d l)).length = (lg_sl l).length
  | [] => rfl
  | v :: r => by
    have ih := lgl_S d r
    simp only [lg_sl, mS, List.flatMap_cons, List.length_append, vS_cat] at ih ⊢
    rw [ih]
    split <;> rfl
theorem scat_S (d : Nat) : ∀ (l : List Value), scat (mS d l) = scat l
  | [] => rfl
  | v :: r => by
    simp only [mS, scat, vS_cat]
    rw [scat_S d r]
theorem spl_S (d : Nat) : ∀ (m : Nat) (acc st : List Value), spl m (mS d acc) (mS d st) = (spl m acc st).map (fun q => (mS d q.1, mS d q.2))
  | 0, _, _ => rfl
  | m + 1, acc, v :: st => spl_S d m (v :: acc) st
  | _ + 1, _, [] => rfl
theorem mS_app (d : Nat) : ∀ (a b : List Value), mS d (a ++ b) = mS d a ++ mS d b
  | [], _ => rfl
  | v :: a, b => by
    show vS d v :: mS d (a ++ b) = _
    rw [mS_app d a b]
    rfl
theorem nth_ar {α : Type} : ∀ (a b : List α) (p : Nat), nth (a ++ b) (p + a.length) = nth b p
  | [], _, _ => rfl
  | _ :: a, b, p => nth_ar a b p
theorem nth_al {α : Type} : ∀ (a b : List α) (p : Nat) (e : α), nth a p = some e → nth (a ++ b) p = some e
  | [], _, _, _, h => by cases h
  | _ :: _, _, 0, _, h => h
  | _ :: a, b, p + 1, e, h => nth_al a b p e h
theorem nth_mp {α β : Type} (f : α → β) : ∀ (a : List α) (p : Nat), nth (a.map f) p = (nth a p).map f
  | [], _ => rfl
  | _ :: _, 0 => rfl
  | _ :: a, p + 1 => nth_mp f a p
theorem nth_ln {α : Type} : ∀ (a : List α) (p : Nat) (e : α), nth a p = some e → p < a.length
  | [], _, _, h => by cases h
  | _ :: _, 0, _, _ => Nat.zero_lt_succ _
  | _ :: a, p + 1, e, h => Nat.succ_lt_succ (nth_ln a p e h)
theorem set_ar {α : Type} : ∀ (a b : List α) (p : Nat) (e : α), (a ++ b).set (p + a.length) e = a ++ b.set p e
  | [], _, _, _ => rfl
  | x :: a, b, p, e => congrArg (x :: ·) (set_ar a b p e)
theorem set_al {α : Type} : ∀ (a b : List α) (p : Nat) (e : α), p < a.length → (a ++ b).set p e = a.set p e ++ b
  | [], _, _, _, h => absurd h (Nat.not_lt_zero _)
  | _ :: _, _, 0, _, _ => rfl
  | x :: a, b, p + 1, e, h => congrArg (x :: ·) (set_al a b p e (Nat.lt_of_succ_lt_succ h))
theorem hB_at {d n p : Nat} {g h : Hp} (hp : p < n) : hB d n g h (p + d) = h p := by
  show (if d ≤ p + d ∧ p + d < d + n then h (p + d - d) else g (p + d)) = h p
  rw [if_pos ⟨by omega, by omega⟩, Nat.add_sub_cancel]
theorem hB_set {d n p : Nat} {g h : Hp} {i : Nat} {x : Int32} (hp : p < n) : hset (hB d n g h) (p + d) i x = hB d n g (hset h p i x) := by
  funext a
  by_cases e : a = p + d
  · subst e
    rw [hB_at hp]
    show (if p + d = p + d then upd (hB d n g h (p + d)) i x else hB d n g h (p + d)) = (if p = p then upd (h p) i x else h p)
    rw [if_pos rfl, if_pos rfl, hB_at hp]
  · show (if a = p + d then upd (hB d n g h (p + d)) i x else hB d n g h a) = (if d ≤ a ∧ a < d + n then (if a - d = p then upd (h p) i x else h (a - d)) else g a)
    rw [if_neg e]
    by_cases c : d ≤ a ∧ a < d + n
    · rw [if_pos c, if_neg (by omega)]
      show (if d ≤ a ∧ a < d + n then h (a - d) else g a) = _
      rw [if_pos c]
    · rw [if_neg c]
      show (if d ≤ a ∧ a < d + n then h (a - d) else g a) = _
      rw [if_neg c]
theorem hB_new {d n p : Nat} {g h : Hp} (hp : p < n) : hnew (hB d n g h) (p + d) = hB d n g (hnew h p) := by
  funext a
  by_cases e : a = p + d
  · subst e
    rw [hB_at hp]
    show (if p + d = p + d then fun _ => (0 : Int32) else hB d n g h (p + d)) = (if p = p then fun _ => (0 : Int32) else h p)
    rw [if_pos rfl, if_pos rfl]
  · show (if a = p + d then fun _ => (0 : Int32) else hB d n g h a) = (if d ≤ a ∧ a < d + n then (if a - d = p then fun _ => (0 : Int32) else h (a - d)) else g a)
    rw [if_neg e]
    by_cases c : d ≤ a ∧ a < d + n
    · rw [if_pos c, if_neg (by omega)]
      show (if d ≤ a ∧ a < d + n then h (a - d) else g a) = _
      rw [if_pos c]
    · rw [if_neg c]
      show (if d ≤ a ∧ a < d + n then h (a - d) else g a) = _
      rw [if_neg c]
theorem nth_B {d : Nat} {pre post lay : Lay} (hd : pre.length = d) {p : Nat} {e : LE} (h : nth lay p = some e) : nth (LB d pre lay post) (p + d) = some (eS d e) := by
  subst hd
  unfold LB
  rw [nth_ar]
  refine nth_al _ _ _ _ ?_
  rw [nth_mp, h]
  rfl
theorem set_B {d : Nat} {pre post lay : Lay} (hd : pre.length = d) {p : Nat} {e : LE} (h : p < lay.length) : (LB d pre lay post).set (p + d) (eS d e) = LB d pre (lay.set p e) post := by
  subst hd
  unfold LB
  rw [set_ar, set_al _ _ _ _ (by rw [List.length_map]; exact h), List.map_set]
theorem mFl_S (d a : Nat) : fS d (mFl a) = mFl a := by
  unfold mFl fS
  simp only [Bool.cond_eq_ite]
  repeat' split
  all_goals rfl
/-- what the one does, the other does -/
def Sim (d n : Nat) (pre post : Lay) (g : Hp) (r1 r2 : Option Rs) : Prop := ∀ r, r1 = some r → rOk n r → r2 = some (rB d n pre post g r)
section SIM
variable {d n : Nat} {pre post : Lay} {g : Hp}
theorem S_no {r2 : Option Rs} : Sim d n pre post g none r2 := fun _ e => by cases e
theorem S_nx {q q2 : Bool} {pc : Nat} {lv lv2 : List (Nat × Value)} {st st2 : List Value} {lay lay2 : Lay} {h h2 : Hp} (a : q2 = q) (b : lv2 = lS d lv) (c : st2 = mS d st) (e : lay2 = LB d pre lay post) (f : h2 = hB d n g h) : Sim d n pre post g (nx q pc lv st lay h) (nx q2 pc lv2 st2 lay2 h2) := by
  subst a b c e f
  intro r e _
  unfold nx at e
  rw [← Option.some.inj e]
  rfl
theorem S_frc {l l2 : List (Nat × Value)} {f f2 : List (Nat × Value) → Option Rs} (a : l2 = lS d l) (h : Sim d n pre post g (f l) (f2 (lS d l))) : Sim d n pre post g (frc l f) (frc l2 f2) := by
  subst a
  rw [frc_eq, frc_eq]
  exact h
theorem S_bif {c : Bool} {A A2 B B2 : Option Rs} (a : Sim d n pre post g A A2) (b : Sim d n pre post g B B2) : Sim d n pre post g (bif c then A else B) (bif c then A2 else B2) := by
  cases c
  · exact b
  · exact a
theorem S_pI {st : List Value} {f f2} (h : ∀ x r, Sim d n pre post g (f x r) (f2 x (mS d r))) : Sim d n pre post g (pI st f) (pI (mS d st) f2) := fun r e ok => by
  obtain ⟨x, rs, rfl, e⟩ := pI_s e
  exact h x rs r e ok
theorem S_pII {st : List Value} {f f2} (h : ∀ x y r, Sim d n pre post g (f x y r) (f2 x y (mS d r))) : Sim d n pre post g (pII st f) (pII (mS d st) f2) := fun r e ok => by
  obtain ⟨x, y, rs, rfl, e⟩ := pII_s e
  exact h x y rs r e ok
theorem S_pLL {st : List Value} {f f2} (h : ∀ x y r, Sim d n pre post g (f x y r) (f2 x y (mS d r))) : Sim d n pre post g (pLL st f) (pLL (mS d st) f2) := fun r e ok => by
  obtain ⟨x, y, rs, rfl, e⟩ := pLL_s e
  exact h x y rs r e ok
theorem S_pL {st : List Value} {f f2} (h : ∀ x r, Sim d n pre post g (f x r) (f2 x (mS d r))) : Sim d n pre post g (pL st f) (pL (mS d st) f2) := fun r e ok => by
  obtain ⟨x, rs, rfl, e⟩ := pL_s e
  exact h x rs r e ok
theorem S_pR {st : List Value} {f f2} (h : ∀ x r, Sim d n pre post g (f x r) (f2 (x + d) (mS d r))) : Sim d n pre post g (pR st f) (pR (mS d st) f2) := fun r e ok => by
  obtain ⟨x, rs, rfl, e⟩ := pR_s e
  exact h x rs r e ok
theorem S_pA {st : List Value} {f f2 k k2} (h : ∀ p i r, Sim d n pre post g (f p i r) (f2 (p + d) i (mS d r))) (h2 : ∀ i r, Sim d n pre post g (k i r) (k2 i (mS d r))) : Sim d n pre post g (pA st f k) (pA (mS d st) f2 k2) := fun r e ok => by
  rcases pA_s e with ⟨i, p, rs, rfl, e⟩ | ⟨i, q, rs, rfl, e⟩
  · exact h p i rs r e ok
  · exact h2 i rs r e ok
theorem S_pS {st : List Value} {f f2} (h : ∀ p i x r, Sim d n pre post g (f p i x r) (f2 (p + d) i x (mS d r))) : Sim d n pre post g (pS st f) (pS (mS d st) f2) := fun r e ok => by
  obtain ⟨x, i, p, rs, rfl, e⟩ := pS_s e
  exact h p i x rs r e ok
theorem S_pP {st : List Value} {f f2 k k2} (h : ∀ y p r, Sim d n pre post g (f y p r) (f2 y (p + d) (mS d r))) (h2 : ∀ q p r, Sim d n pre post g (k q p r) (k2 (q + d) (p + d) (mS d r))) : Sim d n pre post g (pP st f k) (pP (mS d st) f2 k2) := fun r e ok => by
  rcases pP_s e with ⟨y, p, rs, rfl, e⟩ | ⟨q, p, rs, rfl, e⟩
  · exact h y p rs r e ok
  · exact h2 q p rs r e ok
theorem S_pT {st : List Value} {f f2} (h : ∀ r, Sim d n pre post g (f r) (f2 (mS d r))) : Sim d n pre post g (pT st f) (pT (mS d st) f2) := fun r e ok => by
  obtain ⟨q, rs, rfl, e⟩ := pT_s e
  exact h rs r e ok
theorem S_p1 {st : List Value} {f f2} (h : ∀ x r, Sim d n pre post g (f x r) (f2 (vS d x) (mS d r))) : Sim d n pre post g (p1 st f) (p1 (mS d st) f2) := fun r e ok => by
  obtain ⟨x, rs, rfl, e⟩ := p1_s e
  exact h x rs r e ok
theorem S_p2 {st : List Value} {f f2} (h : ∀ x y r, Sim d n pre post g (f x y r) (f2 (vS d x) (vS d y) (mS d r))) : Sim d n pre post g (p2 st f) (p2 (mS d st) f2) := fun r e ok => by
  obtain ⟨x, y, rs, rfl, e⟩ := p2_s e
  exact h x y rs r e ok
theorem S_lI {o o2 : Option Value} {f f2} (a : o2 = o.map (vS d)) (h : ∀ x, Sim d n pre post g (f x) (f2 x)) : Sim d n pre post g (lI o f) (lI o2 f2) := fun r e ok => by
  obtain ⟨x, rfl, e⟩ := lI_s e
  subst a
  exact h x r e ok
theorem S_lJ {o o2 : Option Value} {f f2} (a : o2 = o.map (vS d)) (h : ∀ x, Sim d n pre post g (f x) (f2 x)) : Sim d n pre post g (lJ o f) (lJ o2 f2) := fun r e ok => by
  obtain ⟨x, rfl, e⟩ := lJ_s e
  subst a
  exact h x r e ok
theorem S_lR {o o2 : Option Value} {f f2 k k2} (a : o2 = o.map (vS d)) (h : ∀ x, Sim d n pre post g (f x) (f2 (x + d))) (h2 : ∀ x, Sim d n pre post g (k x) (k2 x)) : Sim d n pre post g (lR o f k) (lR o2 f2 k2) := fun r e ok => by
  rcases lR_s e with ⟨x, rfl, e⟩ | ⟨x, rfl, e⟩
  · subst a
    exact h x r e ok
  · subst a
    exact h2 x r e ok
theorem S_ob {lay : Lay} {p ci : Nat} {f f2} (hd : pre.length = d) (hn : lay.length ≤ n) (h : ∀ fl, p < n → p < lay.length → Sim d n pre post g (f fl) (f2 (fS d fl))) : Sim d n pre post g (ob lay p ci f) (ob (LB d pre lay post) (p + d) ci f2) := fun r e ok => by
  unfold ob at e
  split at e
  · rename_i c fl hq
    have hl := nth_ln _ _ _ hq
    cases hb : Nat.beq c ci with
    | false => rw [hb] at e; cases e
    | true =>
      rw [hb] at e
      unfold ob
      rw [nth_B hd hq]
      show (bif Nat.beq c ci then f2 (fS d fl) else none) = _
      rw [hb]
      exact h fl (by omega) hl r e ok
  · cases e
theorem S_arr {lay : Lay} {p : Nat} {z : Bool} {f f2} (hd : pre.length = d) (hn : lay.length ≤ n) (h : ∀ m, p < n → Sim d n pre post g (f m) (f2 m)) : Sim d n pre post g (arr lay p z f) (arr (LB d pre lay post) (p + d) z f2) := fun r e ok => by
  unfold arr at e
  split at e
  · rename_i z' m hq
    have hl := nth_ln _ _ _ hq
    unfold arr
    rw [nth_B hd hq]
    cases hb : (bif z then z' else !z') with
    | false => rw [hb] at e; cases e
    | true =>
      rw [hb] at e
      show (bif (bif z then z' else !z') then f2 m else none) = _
      rw [hb]
      exact h m (by omega) r e ok
  · cases e
theorem S_gf {o o2 : Option (Option Value)} {u u2 : Value} {f f2} (a : o2 = o.map (Option.map (vS d))) (b : u2 = vS d u) (h : ∀ x, Sim d n pre post g (f x) (f2 (vS d x))) : Sim d n pre post g (gf o u f) (gf o2 u2 f2) := fun r e ok => by
  subst a b
  rcases gf_s e with ⟨rfl, e⟩ | ⟨x, rfl, e⟩
  · exact h u r e ok
  · exact h x r e ok
theorem S_isN {o o2 : Option (Option Value)} {R R2} (a : o2 = o.map (Option.map (vS d))) (h : Sim d n pre post g R R2) : Sim d n pre post g (isN o R) (isN o2 R2) := fun r e ok => by
  obtain ⟨rfl, e⟩ := isN_s e
  subst a
  exact h r e ok
theorem S_isN1 {o : Option (Option Value)} {R R2} (h : Sim d n pre post g R R2) : Sim d n pre post g (isN o R) (isN o R2) := fun r e ok => by
  obtain ⟨rfl, e⟩ := isN_s e
  exact h r e ok
theorem S_isS {o o2 : Option (Option Value)} {R R2} (a : o2 = o.map (Option.map (vS d))) (h : Sim d n pre post g R R2) : Sim d n pre post g (isS o R) (isS o2 R2) := fun r e ok => by
  obtain ⟨⟨u, rfl⟩, e⟩ := isS_s e
  subst a
  exact h r e ok
theorem S_isS1 {o : Option (Option Value)} {R R2} (h : Sim d n pre post g R R2) : Sim d n pre post g (isS o R) (isS o R2) := fun r e ok => by
  obtain ⟨⟨u, rfl⟩, e⟩ := isS_s e
  exact h r e ok
theorem S_spS {o o2 : Option (List Value × List Value)} {f f2} (a : o2 = o.map (fun q => (mS d q.1, mS d q.2))) (h : ∀ x r, Sim d n pre post g (f x r) (f2 (mS d x) (mS d r))) : Sim d n pre post g (spS o f) (spS o2 f2) := fun r e ok => by
  subst a
  unfold spS at e
  split at e
  · exact h _ _ r e ok
  · cases e
theorem S_spV {o o2 : Option (List Value × List Value)} {f f2} (a : o2 = o.map (fun q => (mS d q.1, mS d q.2))) (h : ∀ x p r, Sim d n pre post g (f x p r) (f2 (mS d x) (p + d) (mS d r))) : Sim d n pre post g (spV o f) (spV o2 f2) := fun r e ok => by
  subst a
  unfold spV at e
  split at e
  · exact h _ _ _ r e ok
  · cases e
theorem S_cal {k np a : Nat} {lv : List (Nat × Value)} {args rest : List Value} : Sim d n pre post g (cal k np a lv args rest) (cal k np a (lS d lv) (mS d args) (mS d rest)) := fun r e _ => by
  unfold cal at e ⊢
  rw [frc_eq] at e ⊢
  rw [← Option.some.inj e, lgl_S, scat_S, args_S]
  rfl
theorem S_ret {q : Bool} {vs : List Value} : Sim d n pre post g (some (.inr (.inr (q, vs)))) (some (.inr (.inr (q, mS d vs)))) := fun r e _ => by
  rw [← Option.some.inj e]
  rfl
theorem S_rI {st : List Value} {f f2} (h : ∀ x, Sim d n pre post g (f x) (f2 x)) : Sim d n pre post g (rI st f) (rI (mS d st) f2) := fun r e ok => by
  unfold rI at e
  split at e
  · exact h _ r e ok
  · cases e
theorem S_rR {st : List Value} {f f2} (h : ∀ x, Sim d n pre post g (f x) (f2 (x + d))) : Sim d n pre post g (rR st f) (rR (mS d st) f2) := fun r e ok => by
  unfold rR at e
  split at e
  · exact h _ r e ok
  · cases e
theorem S_rV {st : List Value} {R R2} (h : Sim d n pre post g R R2) : Sim d n pre post g (rV st R) (rV (mS d st) R2) := fun r e ok => by
  unfold rV at e
  split at e
  · exact h r e ok
  · cases e
theorem LB_new {lay : Lay} {x : LE} (hp : post = []) : LB d pre lay post ++ [eS d x] = LB d pre (lay ++ [x]) post := by
  subst hp
  unfold LB
  rw [List.append_nil, List.append_nil, List.map_append, List.append_assoc]
  rfl
theorem LB_len {lay : Lay} (hd : pre.length = d) (hp : post = []) : (LB d pre lay post).length = lay.length + d := by
  subst hp
  unfold LB
  rw [List.length_append, List.append_nil, List.length_map, hd, Nat.add_comm]
theorem S_alloc {q : Bool} {pc : Nat} {lv : List (Nat × Value)} {st : List Value} {lay : Lay} {h : Hp} {x : LE} (hd : pre.length = d) (hp : post = [] ∨ lay.length = n) (hx : eS d x = x) : Sim d n pre post g (nx q pc lv (.ref lay.length :: st) (lay ++ [x]) (hnew h lay.length)) (nx q pc (lS d lv) (.ref (LB d pre lay post).length :: mS d st) (LB d pre lay post ++ [x]) (hnew (hB d n g h) (LB d pre lay post).length)) := fun r e ok => by
  unfold nx at e ⊢
  have e := Option.some.inj e
  subst e
  have ok : (lay ++ [x]).length ≤ n := ok
  rw [List.length_append] at ok
  have ok : lay.length + 1 ≤ n := ok
  have hp : post = [] := hp.resolve_right (by omega)
  rw [LB_len hd hp, hB_new (by omega)]
  have hq := LB_new (d := d) (pre := pre) (lay := lay) (x := x) hp
  rw [hx] at hq
  rw [hq]
  rfl
set_option maxHeartbeats 4000000 in
theorem ex_S {L : Nat} {xs : Nat → Int32} {k pc : Nat} {lv : List (Nat × Value)} {st : List Value} {lay : Lay} {h : Hp} {np a b : Nat} {v : Int32} {w : Int64} {tbl : List (Int32 × Nat)} (ins : Instr) (hd : pre.length = d) (hp : post = [] ∨ lay.length = n) (hn : lay.length ≤ n) : Sim d n pre post g (ex L xs k pc lv st lay h np a b v w tbl ins) (ex L xs k pc (lS d lv) (mS d st) (LB d pre lay post) (hB d n g h) np a b v w tbl ins) := by
  cases ins <;> simp only [ex] <;> first
    | exact S_no
    | exact S_nx rfl rfl rfl rfl rfl
    | exact S_pI fun _ _ => S_nx rfl rfl rfl rfl rfl
    | exact S_pII fun _ _ _ => S_nx rfl rfl rfl rfl rfl
    | exact S_lI (lk_S _ _ _) fun _ => S_nx rfl rfl rfl rfl rfl
    | exact S_lJ (lk_S _ _ _) fun _ => S_nx rfl rfl rfl rfl rfl
    | exact S_lR (lk_S _ _ _) (fun _ => S_nx rfl rfl rfl rfl rfl) (fun _ => S_nx rfl rfl rfl rfl rfl)
    | exact S_pI fun x _ => S_frc (sv_S d lv a (.int x)) (S_nx rfl rfl rfl rfl rfl)
    | exact S_pR fun x _ => S_frc (sv_S d lv a (.ref x)) (S_nx rfl rfl rfl rfl rfl)
    | exact S_lI (lk_S _ _ _) fun x => S_frc (sv_S d lv a (.int (x + v))) (S_nx rfl rfl rfl rfl rfl)
    | exact S_pLL fun _ _ _ => S_nx rfl rfl rfl rfl rfl
    | exact S_pL fun _ _ => S_nx rfl rfl rfl rfl rfl
    | exact S_p1 fun x _ => S_nx (by rw [vS_cat]) rfl rfl rfl rfl
    | exact S_p2 fun x y _ => S_nx (by rw [vS_cat, vS_cat]) rfl rfl rfl rfl
    | exact S_pR fun p _ => S_ob hd hn fun fl h1 h2 => S_gf (nth_mp _ fl b) (by rw [hB_at h1]; rfl) fun _ => S_nx rfl rfl rfl rfl rfl
    | exact S_pP (fun y p _ => S_ob hd hn fun fl h1 h2 => S_isN (nth_mp _ fl b) (S_isN1 (S_nx rfl rfl rfl rfl (hB_set h1)))) (fun q p _ => S_ob hd hn fun fl h1 h2 => S_isS (nth_mp _ fl b) (S_isS1 (S_nx rfl rfl rfl (by rw [← set_B hd h2]; simp only [eS, fS, List.map_set]; rfl) rfl)))
    | exact S_pA (fun p i _ => S_arr hd hn fun m h1 => S_nx rfl rfl (by rw [hB_at h1]; rfl) rfl rfl) (fun _ _ => S_nx rfl rfl rfl rfl rfl)
    | exact S_pA (fun p i _ => S_arr hd hn fun m h1 => S_nx rfl rfl (by rw [hB_at h1]; rfl) rfl rfl) (fun _ _ => S_no)
    | exact S_pS fun p i x _ => S_arr hd hn fun m h1 => S_nx rfl rfl rfl rfl (hB_set h1)
    | exact S_pT fun _ => S_nx rfl rfl rfl rfl rfl
    | exact S_alloc hd hp (by simp only [eS, mFl_S])
    | exact S_pI fun _ _ => S_alloc hd hp rfl
    | exact S_bif (S_pII fun _ _ _ => S_nx (by rw [scat_S]) rfl rfl rfl rfl) (S_bif (S_pII fun _ _ _ => S_nx (by rw [scat_S]) rfl rfl rfl rfl) (S_spS (spl_S d _ [] st) fun _ _ => S_cal))
    | exact S_spV (spl_S d _ [] st) fun _ _ _ => S_ob hd hn fun _ _ _ => S_cal
    | exact S_bif (S_pR fun _ _ => S_nx (by rw [scat_S]) rfl rfl rfl rfl) (S_spV (spl_S d _ [] st) fun _ _ _ => S_ob hd hn fun _ _ _ => S_cal)
    | exact S_rI fun _ => S_ret
    | exact S_rR fun _ => S_ret
    | exact S_rV S_ret
theorem exAt_S {L : Nat} {xs : Nat → Int32} {k pc : Nat} {lv : List (Nat × Value)} {st : List Value} {lay : Lay} {h : Hp} (hd : pre.length = d) (hp : post = [] ∨ lay.length = n) (hn : lay.length ≤ n) : Sim d n pre post g (exAt L xs k pc lv st lay h) (exAt L xs k pc (lS d lv) (mS d st) (LB d pre lay post) (hB d n g h)) := by
  unfold exAt
  refine S_bif S_no ?_
  generalize insT k pc = I
  obtain ⟨p0, ins, np, K, a, b, c, v, w, tbl⟩ := I
  exact S_bif (S_bif (ex_S ins hd hp hn) (S_frc (kp_S d K lv) (ex_S ins hd hp hn))) S_no
theorem big_S {L : Nat} {xs : Nat → Int32} (hd : pre.length = d) : ∀ (m : Nat) {k pc : Nat} {lv : List (Nat × Value)} {st vs : List Value} {lay lay1 : Lay} {h h1 : Hp}, big L xs m k pc lv st lay h = some (vs, lay1, h1) → lay1.length ≤ n → (post = [] ∨ lay.length = n) → big L xs m k pc (lS d lv) (mS d st) (LB d pre lay post) (hB d n g h) = some (mS d vs, LB d pre lay1 post, hB d n g h1)
  | 0, _, _, _, _, _, _, _, _, _, e, _, _ => by cases e
  | m + 1, k, pc, lv, st, vs, lay, lay1, h, h1, e, hn, hp => by
    simp only [big] at e
    have hmo : ∀ lay2 : Lay, lay.length ≤ lay2.length → lay2.length ≤ lay1.length → lay.length ≤ n ∧ lay2.length ≤ n ∧ (post = [] ∨ lay2.length = n) := fun lay2 a b => ⟨by omega, by omega, hp.imp id fun q => by omega⟩
    split at e
    · rename_i q1 q2 q3 q4 q5 q6 he
      have g1 := exAt_mo _ _ _ _ _ _ he
      have g2 := big_mo m e
      obtain ⟨f1, f2, f3⟩ := hmo _ g1.1 g2.1
      have e1 := exAt_S (g := g) hd hp f1 _ he f2
      simp only [big, e1, rB]
      exact big_S hd m e hn f3
    · rename_i q1 q2 q3 q4 q5 q6 q7 q8 he
      split at e
      · rename_i r1 r2 r3 hb
        have g1 := big_mo m hb
        have g2 := big_mo m e
        obtain ⟨f1, f2, f3⟩ := hmo _ g1.1 g2.1
        have e1 := exAt_S (g := g) hd hp f1 _ he trivial
        simp only [big, e1, rB]
        rw [big_S hd m hb f2 hp]
        simp only
        rw [← mS_app]
        exact big_S hd m e hn f3
      · cases e
    · rename_i q1 he
      simp only [Option.some.injEq, Prod.mk.injEq] at e
      obtain ⟨rfl, rfl, rfl⟩ := e
      have e1 := exAt_S (g := g) hd hp hn _ he trivial
      simp only [big, e1, rB]
    · cases e
theorem Bg_S {L : Nat} {xs : Nat → Int32} {k pc : Nat} {lv : List (Nat × Value)} {st vs : List Value} {lay lay1 : Lay} {h h1 : Hp} (hd : pre.length = d) (e : Bg L xs k pc lv st lay h (vs, lay1, h1)) (hn : lay1.length ≤ n) (hp : post = [] ∨ lay.length = n) : Bg L xs k pc (lS d lv) (mS d st) (LB d pre lay post) (hB d n g h) (mS d vs, LB d pre lay1 post, hB d n g h1) := by
  obtain ⟨m, hm⟩ := e
  exact ⟨m, big_S hd m hm hn hp⟩
end SIM
