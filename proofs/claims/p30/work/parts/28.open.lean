/-! The law from its entry: two objects are made. -/
theorem call_B1 {L : Nat} {xs : Nat → Int32} {k pc np a : Nat} {lv lv' la : List (Nat × Value)} {st rest vs : List Value} {lay lay1 : Lay} {h h1 : Hp} {R : List Value × Lay × Hp} (hx : exAt L xs k pc lv st lay h = some (.inr (.inl (true, (a, 0, la, []), (k, np, lv', rest))))) (hc : Bg L xs a 0 la [] lay h (vs, lay1, h1)) (kk : Bg L xs k np lv' (vs ++ rest) lay1 h1 R) : Bg L xs k pc lv st lay h R :=
  call_Bg (x := some ()) (f := fun _ => some ()) (o := ()) (res := fun _ => (vs, lay1, h1)) hx rfl (fun _ _ => hc) (fun _ _ => kk)
set_option maxRecDepth 100000 in
theorem law_open {L : Nat} {xs : Nat → Int32} {h1 h2 : Hp} {w' : Wd} (e1 : Jyn_init (hnew (fun _ _ => 0) 0) = some h1) (e2 : Jyn_init (fun p => hnew h1 37 (p + 37)) = some h2) (e3 : Jw_law L xs ([], hB 37 37 (hnew h1 37) h2) = some (1, w')) : Bg L xs 136 0 [(0, .retAddr 0)] [] [] (fun _ _ => 0) ([.int 1], LAY w'.1, w'.2) := by
  refine seg_Bg (pc' := 4) (lv' := [(0, .retAddr 0)]) (st' := [.ref 0, .ref 0]) (lay' := LYo) (h' := hnew (fun _ _ => 0) 0) 2 rfl ?_
  refine call_B1 (a := 111) (la := [(0, .ref 0)]) (np := 7) (lv' := [(0, .retAddr 0)]) (rest := [.ref 0]) (vs := []) (lay1 := LYc) (h1 := h1) rfl (BJyn_init L xs _ h1 e1) ?_
  show Bg L xs 136 7 [(0, .retAddr 0)] [.ref 0] LYc h1 _
  refine seg_Bg (pc' := 12) (lv' := [(0, .retAddr 0), (1, .ref 0)]) (st' := [.ref 37, .ref 37]) (lay' := LB 37 LYc LYo []) (h' := hnew h1 37) 3 rfl ?_
  have hq := Bg_S (d := 37) (n := 37) (pre := LYc) (post := []) (g := hnew h1 37) LYc_len (BJyn_init L xs _ h2 e2) (Nat.le_of_eq LYc_len) (Or.inl rfl)
  rw [hB_q] at hq
  refine call_B1 (a := 111) (la := [(0, .ref 37)]) (np := 15) (lv' := [(0, .retAddr 0), (1, .ref 0)]) (rest := [.ref 37]) (vs := []) (lay1 := LAY []) (h1 := hB 37 37 (hnew h1 37) h2) rfl hq ?_
  show Bg L xs 136 15 [(0, .retAddr 0), (1, .ref 0)] [.ref 37] (LAY []) _ _
  refine seg_Bg (pc' := 16) (lv' := [(0, .retAddr 0), (1, .ref 0), (2, .ref 37)]) (st' := []) (lay' := LAY []) (h' := hB 37 37 (hnew h1 37) h2) 1 rfl ?_
  exact BJw_law L xs ([], hB 37 37 (hnew h1 37) h2) (1, w') e3
