/-! Two objects of the class, and arrays behind them. -/
abbrev Wd : Type := Lay × Hp
def LYq : Lay := LYc.map (eS 37)
def LAY (post : Lay) : Lay := LYc ++ (LYq ++ post)
def ltW {α : Type} (x : Wd) (f : Wd → α) : α := f x
def arrOk (post : Lay) (A : Nat) : Bool := match nth (LAY post) A with
  | some (.inr (z, m)) => !z && Nat.beq m 3
  | _ => false
theorem LYc_len : LYc.length = 37 := rfl
theorem LYc0 : LYc.map (eS 0) = LYc := rfl
theorem LYq_len : LYq.length = 37 := rfl
theorem LAY_len (post : Lay) : (LAY post).length = post.length + 74 := by
  unfold LAY
  rw [List.length_append, List.length_append, LYc_len, LYq_len]
  omega
theorem LAY_app (post : Lay) (x : LE) : LAY post ++ [x] = LAY (post ++ [x]) := by
  unfold LAY
  rw [List.append_assoc, List.append_assoc]
theorem LB_o (post : Lay) : LB 0 [] LYc (LYq ++ post) = LAY post := by
  unfold LB LAY
  rw [LYc0]
  rfl
theorem LB_q (post : Lay) : LB 37 LYc LYc post = LAY post := rfl
theorem hB_o (h : Hp) : hB 0 37 h h = h := by
  funext p
  show (if 0 ≤ p ∧ p < 0 + 37 then h (p - 0) else h p) = h p
  split <;> rfl
theorem hB_q (h : Hp) : hB 37 37 h (fun p => h (p + 37)) = h := by
  funext p
  show (if 37 ≤ p ∧ p < 37 + 37 then h (p - 37 + 37) else h p) = h p
  split
  · rename_i q
    rw [Nat.sub_add_cancel q.1]
  · rfl
def Oo (f : Hp → Option (Int32 × Hp)) (w : Wd) : Option (Int32 × Wd) := bd (f w.2) fun r => some (r.1, (w.1, hB 0 37 w.2 r.2))
def Oq (f : Hp → Option (Int32 × Hp)) (w : Wd) : Option (Int32 × Wd) := bd (f (fun p => w.2 (p + 37))) fun r => some (r.1, (w.1, hB 37 37 w.2 r.2))
theorem Oo_B {L : Nat} {xs : Nat → Int32} {k : Nat} {la la' : List (Nat × Value)} {f : Hp → Option (Int32 × Hp)} {w : Wd} {o : Int32 × Wd} (hb : ∀ h o, f h = some o → Bg L xs k 0 la [] LYc h ([.int o.1], LYc, o.2)) (hl : lS 0 la = la') (e : Oo f w = some o) : Bg L xs k 0 la' [] (LAY w.1) w.2 ([.int o.1], LAY o.2.1, o.2.2) := by
  obtain ⟨r, h1, h2⟩ := bd_s e
  have h2 := Option.some.inj h2
  subst h2
  have b := Bg_S (d := 0) (n := 37) (pre := []) (post := LYq ++ w.1) (g := w.2) rfl (hb _ _ h1) (Nat.le_of_eq LYc_len) (Or.inr LYc_len)
  rw [hl, LB_o, hB_o] at b
  exact b
theorem Oq_B {L : Nat} {xs : Nat → Int32} {k : Nat} {la la' : List (Nat × Value)} {f : Hp → Option (Int32 × Hp)} {w : Wd} {o : Int32 × Wd} (hb : ∀ h o, f h = some o → Bg L xs k 0 la [] LYc h ([.int o.1], LYc, o.2)) (hl : lS 37 la = la') (e : Oq f w = some o) : Bg L xs k 0 la' [] (LAY w.1) w.2 ([.int o.1], LAY o.2.1, o.2.2) := by
  obtain ⟨r, h1, h2⟩ := bd_s e
  have h2 := Option.some.inj h2
  subst h2
  have b := Bg_S (d := 37) (n := 37) (pre := LYc) (post := w.1) (g := w.2) LYc_len (hb _ _ h1) (Nat.le_of_eq LYc_len) (Or.inr LYc_len)
  rw [hl, LB_q, hB_q] at b
  exact b
theorem arr_ok {post : Lay} {A : Nat} (h : arrOk post A = true) (f : Nat → Option Rs) : arr (LAY post) A false f = f 3 := by
  unfold arrOk at h
  split at h
  · rename_i z m hq
    simp only [Bool.and_eq_true, Bool.not_eq_true'] at h
    have hm := Nat.eq_of_beq_eq_true h.2
    rw [h.1, hm] at hq
    unfold arr
    rw [hq]
    rfl
  · cases h
section WBG
variable {L : Nat} {xs : Nat → Int32} {k pc np A : Nat} {lv lv' : List (Nat × Value)} {r : List Value} {w : Wd} {R : List Value × Lay × Hp}
theorem stW_Bg {ω : Type} {x i : Int32} {f : Wd → Option ω} {o : ω} (hi : exAt L xs k pc lv (.int x :: .int i :: .ref A :: r) (LAY w.1) w.2 = arr (LAY w.1) A false fun m => nx (ibB i m) np lv' r (LAY w.1) (hset w.2 A i.toNatClampNeg x)) (e : (bif arrOk w.1 A && ibB i 3 then ltW (w.1, hset w.2 A (Int32.toNatClampNeg i) x) f else none) = some o) (kk : ∀ w', f w' = some o → Bg L xs k np lv' r (LAY w'.1) w'.2 R) : Bg L xs k pc lv (.int x :: .int i :: .ref A :: r) (LAY w.1) w.2 R := by
  cases ha : arrOk w.1 A with
  | false => rw [ha] at e; cases e
  | true =>
    cases hb : ibB i 3 with
    | false => rw [ha, hb] at e; cases e
    | true =>
      rw [ha, hb] at e
      obtain ⟨m, hm⟩ := kk _ e
      refine ⟨m + 1, ?_⟩
      rw [big, hi, arr_ok ha, hb]
      exact hm
theorem ldW_Bg {ω : Type} {i : Int32} {X : Option ω} {o : ω} (hi : exAt L xs k pc lv (.int i :: .ref A :: r) (LAY w.1) w.2 = arr (LAY w.1) A false fun m => nx (ibB i m) np lv' (.int (w.2 A i.toNatClampNeg) :: r) (LAY w.1) w.2) (e : (bif arrOk w.1 A && ibB i 3 then X else none) = some o) (kk : X = some o → Bg L xs k np lv' (.int (w.2 A i.toNatClampNeg) :: r) (LAY w.1) w.2 R) : Bg L xs k pc lv (.int i :: .ref A :: r) (LAY w.1) w.2 R := by
  cases ha : arrOk w.1 A with
  | false => rw [ha] at e; cases e
  | true =>
    cases hb : ibB i 3 with
    | false => rw [ha, hb] at e; cases e
    | true =>
      rw [ha, hb] at e
      obtain ⟨m, hm⟩ := kk e
      refine ⟨m + 1, ?_⟩
      rw [big, hi, arr_ok ha, hb]
      exact hm
theorem nwW_Bg {ω : Type} {x : Int32} {f : Wd → Option ω} {o : ω} (hi : exAt L xs k pc lv (.int x :: r) (LAY w.1) w.2 = some (.inl (true, np, lv', .ref (LAY w.1).length :: r, LAY w.1 ++ [.inr (false, 3)], hnew w.2 (LAY w.1).length))) (e : (bif Nat.beq A (w.1.length + 74) then ltW (w.1 ++ [.inr (false, 3)], hnew w.2 A) f else none) = some o) (kk : ∀ w', f w' = some o → Bg L xs k np lv' (.ref A :: r) (LAY w'.1) w'.2 R) : Bg L xs k pc lv (.int x :: r) (LAY w.1) w.2 R := by
  cases ha : Nat.beq A (w.1.length + 74) with
  | false => rw [ha] at e; cases e
  | true =>
    rw [ha] at e
    have hA : A = (LAY w.1).length := (Nat.eq_of_beq_eq_true ha).trans (LAY_len w.1).symm
    subst hA
    obtain ⟨m, hm⟩ := kk _ e
    refine ⟨m + 1, ?_⟩
    rw [big, hi]
    simp only
    rw [LAY_app]
    exact hm
end WBG
def Oo_base (v1 : Int32) (w : Wd) : Option (Int32 × Wd) := Oo (Jyn_base v1) w
theorem BOo_base (L : Nat) (xs : Nat → Int32) (v1 : Int32) (h : Wd) (o : Int32 × Wd) (e : Oo_base v1 h = some o) : Bg L xs 120 0 [(0, .ref 0), (1, .int v1)] [] (LAY h.1) h.2 ([.int o.1], LAY o.2.1, o.2.2) := Oo_B (f := (Jyn_base v1)) (fun h o e => BJyn_base L xs v1 h o e) rfl e
def Oo_cost (v1 : Int32) (v2 : Int32) (w : Wd) : Option (Int32 × Wd) := Oo (Jyn_cost v1 v2) w
theorem BOo_cost (L : Nat) (xs : Nat → Int32) (v1 : Int32) (v2 : Int32) (h : Wd) (o : Int32 × Wd) (e : Oo_cost v1 v2 h = some o) : Bg L xs 116 0 [(0, .ref 0), (1, .int v1), (2, .int v2)] [] (LAY h.1) h.2 ([.int o.1], LAY o.2.1, o.2.2) := Oo_B (f := (Jyn_cost v1 v2)) (fun h o e => BJyn_cost L xs v1 v2 h o e) rfl e
def Oo_feed (v1 : Int32) (w : Wd) : Option (Int32 × Wd) := Oo (Jyn_feed v1) w
theorem BOo_feed (L : Nat) (xs : Nat → Int32) (v1 : Int32) (h : Wd) (o : Int32 × Wd) (e : Oo_feed v1 h = some o) : Bg L xs 112 0 [(0, .ref 0), (1, .int v1)] [] (LAY h.1) h.2 ([.int o.1], LAY o.2.1, o.2.2) := Oo_B (f := (Jyn_feed v1)) (fun h o e => BJyn_feed L xs v1 h o e) rfl e
def Oo_function (v1 : Int32) (v2 : Int32) (w : Wd) : Option (Int32 × Wd) := Oo (Jyn_function v1 v2) w
theorem BOo_function (L : Nat) (xs : Nat → Int32) (v1 : Int32) (v2 : Int32) (h : Wd) (o : Int32 × Wd) (e : Oo_function v1 v2 h = some o) : Bg L xs 115 0 [(0, .ref 0), (1, .int v1), (2, .int v2)] [] (LAY h.1) h.2 ([.int o.1], LAY o.2.1, o.2.2) := Oo_B (f := (Jyn_function v1 v2)) (fun h o e => BJyn_function L xs v1 v2 h o e) rfl e
def Oo_put (v1 : Int32) (v2 : Int32) (v3 : Int32) (v4 : Int32) (w : Wd) : Option (Int32 × Wd) := Oo (Jyn_put v1 v2 v3 v4) w
theorem BOo_put (L : Nat) (xs : Nat → Int32) (v1 : Int32) (v2 : Int32) (v3 : Int32) (v4 : Int32) (h : Wd) (o : Int32 × Wd) (e : Oo_put v1 v2 v3 v4 h = some o) : Bg L xs 118 0 [(0, .ref 0), (1, .int v1), (2, .int v2), (3, .int v3), (4, .int v4)] [] (LAY h.1) h.2 ([.int o.1], LAY o.2.1, o.2.2) := Oo_B (f := (Jyn_put v1 v2 v3 v4)) (fun h o e => BJyn_put L xs v1 v2 v3 v4 h o e) rfl e
def Oo_spell (v1 : Int32) (v2 : Int32) (w : Wd) : Option (Int32 × Wd) := Oo (Jyn_spell v1 v2) w
theorem BOo_spell (L : Nat) (xs : Nat → Int32) (v1 : Int32) (v2 : Int32) (h : Wd) (o : Int32 × Wd) (e : Oo_spell v1 v2 h = some o) : Bg L xs 117 0 [(0, .ref 0), (1, .int v1), (2, .int v2)] [] (LAY h.1) h.2 ([.int o.1], LAY o.2.1, o.2.2) := Oo_B (f := (Jyn_spell v1 v2)) (fun h o e => BJyn_spell L xs v1 v2 h o e) rfl e
def Oo_tell (w : Wd) : Option (Int32 × Wd) := Oo Jyn_tell w
theorem BOo_tell (L : Nat) (xs : Nat → Int32) (h : Wd) (o : Int32 × Wd) (e : Oo_tell h = some o) : Bg L xs 113 0 [(0, .ref 0)] [] (LAY h.1) h.2 ([.int o.1], LAY o.2.1, o.2.2) := Oo_B (f := Jyn_tell) (fun h o e => BJyn_tell L xs h o e) rfl e
def Oo_told (v1 : Int32) (w : Wd) : Option (Int32 × Wd) := Oo (Jyn_told v1) w
theorem BOo_told (L : Nat) (xs : Nat → Int32) (v1 : Int32) (h : Wd) (o : Int32 × Wd) (e : Oo_told v1 h = some o) : Bg L xs 114 0 [(0, .ref 0), (1, .int v1)] [] (LAY h.1) h.2 ([.int o.1], LAY o.2.1, o.2.2) := Oo_B (f := (Jyn_told v1)) (fun h o e => BJyn_told L xs v1 h o e) rfl e
def Oo_turn (v1 : Int32) (w : Wd) : Option (Int32 × Wd) := Oo (Jyn_turn v1) w
theorem BOo_turn (L : Nat) (xs : Nat → Int32) (v1 : Int32) (h : Wd) (o : Int32 × Wd) (e : Oo_turn v1 h = some o) : Bg L xs 119 0 [(0, .ref 0), (1, .int v1)] [] (LAY h.1) h.2 ([.int o.1], LAY o.2.1, o.2.2) := Oo_B (f := (Jyn_turn v1)) (fun h o e => BJyn_turn L xs v1 h o e) rfl e
def Oo_undo (v1 : Int32) (w : Wd) : Option (Int32 × Wd) := Oo (Jyn_undo v1) w
theorem BOo_undo (L : Nat) (xs : Nat → Int32) (v1 : Int32) (h : Wd) (o : Int32 × Wd) (e : Oo_undo v1 h = some o) : Bg L xs 121 0 [(0, .ref 0), (1, .int v1)] [] (LAY h.1) h.2 ([.int o.1], LAY o.2.1, o.2.2) := Oo_B (f := (Jyn_undo v1)) (fun h o e => BJyn_undo L xs v1 h o e) rfl e
def Oq_base (v1 : Int32) (w : Wd) : Option (Int32 × Wd) := Oq (Jyn_base v1) w
theorem BOq_base (L : Nat) (xs : Nat → Int32) (v1 : Int32) (h : Wd) (o : Int32 × Wd) (e : Oq_base v1 h = some o) : Bg L xs 120 0 [(0, .ref 37), (1, .int v1)] [] (LAY h.1) h.2 ([.int o.1], LAY o.2.1, o.2.2) := Oq_B (f := (Jyn_base v1)) (fun h o e => BJyn_base L xs v1 h o e) rfl e
def Oq_feed (v1 : Int32) (w : Wd) : Option (Int32 × Wd) := Oq (Jyn_feed v1) w
theorem BOq_feed (L : Nat) (xs : Nat → Int32) (v1 : Int32) (h : Wd) (o : Int32 × Wd) (e : Oq_feed v1 h = some o) : Bg L xs 112 0 [(0, .ref 37), (1, .int v1)] [] (LAY h.1) h.2 ([.int o.1], LAY o.2.1, o.2.2) := Oq_B (f := (Jyn_feed v1)) (fun h o e => BJyn_feed L xs v1 h o e) rfl e
def Oq_function (v1 : Int32) (v2 : Int32) (w : Wd) : Option (Int32 × Wd) := Oq (Jyn_function v1 v2) w
theorem BOq_function (L : Nat) (xs : Nat → Int32) (v1 : Int32) (v2 : Int32) (h : Wd) (o : Int32 × Wd) (e : Oq_function v1 v2 h = some o) : Bg L xs 115 0 [(0, .ref 37), (1, .int v1), (2, .int v2)] [] (LAY h.1) h.2 ([.int o.1], LAY o.2.1, o.2.2) := Oq_B (f := (Jyn_function v1 v2)) (fun h o e => BJyn_function L xs v1 v2 h o e) rfl e
def Oq_put (v1 : Int32) (v2 : Int32) (v3 : Int32) (v4 : Int32) (w : Wd) : Option (Int32 × Wd) := Oq (Jyn_put v1 v2 v3 v4) w
theorem BOq_put (L : Nat) (xs : Nat → Int32) (v1 : Int32) (v2 : Int32) (v3 : Int32) (v4 : Int32) (h : Wd) (o : Int32 × Wd) (e : Oq_put v1 v2 v3 v4 h = some o) : Bg L xs 118 0 [(0, .ref 37), (1, .int v1), (2, .int v2), (3, .int v3), (4, .int v4)] [] (LAY h.1) h.2 ([.int o.1], LAY o.2.1, o.2.2) := Oq_B (f := (Jyn_put v1 v2 v3 v4)) (fun h o e => BJyn_put L xs v1 v2 v3 v4 h o e) rfl e
def Oq_tell (w : Wd) : Option (Int32 × Wd) := Oq Jyn_tell w
theorem BOq_tell (L : Nat) (xs : Nat → Int32) (h : Wd) (o : Int32 × Wd) (e : Oq_tell h = some o) : Bg L xs 113 0 [(0, .ref 37)] [] (LAY h.1) h.2 ([.int o.1], LAY o.2.1, o.2.2) := Oq_B (f := Jyn_tell) (fun h o e => BJyn_tell L xs h o e) rfl e
def Oq_told (v1 : Int32) (w : Wd) : Option (Int32 × Wd) := Oq (Jyn_told v1) w
theorem BOq_told (L : Nat) (xs : Nat → Int32) (v1 : Int32) (h : Wd) (o : Int32 × Wd) (e : Oq_told v1 h = some o) : Bg L xs 114 0 [(0, .ref 37), (1, .int v1)] [] (LAY h.1) h.2 ([.int o.1], LAY o.2.1, o.2.2) := Oq_B (f := (Jyn_told v1)) (fun h o e => BJyn_told L xs v1 h o e) rfl e
def Oq_turn (v1 : Int32) (w : Wd) : Option (Int32 × Wd) := Oq (Jyn_turn v1) w
theorem BOq_turn (L : Nat) (xs : Nat → Int32) (v1 : Int32) (h : Wd) (o : Int32 × Wd) (e : Oq_turn v1 h = some o) : Bg L xs 119 0 [(0, .ref 37), (1, .int v1)] [] (LAY h.1) h.2 ([.int o.1], LAY o.2.1, o.2.2) := Oq_B (f := (Jyn_turn v1)) (fun h o e => BJyn_turn L xs v1 h o e) rfl e
def Oq_undo (v1 : Int32) (w : Wd) : Option (Int32 × Wd) := Oq (Jyn_undo v1) w
theorem BOq_undo (L : Nat) (xs : Nat → Int32) (v1 : Int32) (h : Wd) (o : Int32 × Wd) (e : Oq_undo v1 h = some o) : Bg L xs 121 0 [(0, .ref 37), (1, .int v1)] [] (LAY h.1) h.2 ([.int o.1], LAY o.2.1, o.2.2) := Oq_B (f := (Jyn_undo v1)) (fun h o e => BJyn_undo L xs v1 h o e) rfl e
