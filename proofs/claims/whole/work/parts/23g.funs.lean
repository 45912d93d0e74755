/-! Runs of the small machine are the functions of the methods. (Written by wip/whole/gen3.py.) -/
set_option maxRecDepth 100000 in
theorem BJwy_lengthOf_L41_s (L : Nat) (xs : Nat → Int32) (v1 v2 : Int32) (R : List Value × Lay × Hp) (v3 : Int32) (h : Hp) (o : ((Int32 × Hp) ⊕ (Int32 × Hp))) (hH : ∀ s : Int32 × Hp, o = .inl s → Bg L xs 124 41 [(0, .ref 9), (1, .int v1), (2, .int v2), (3, .int s.1)] [] LY88 s.2 R) (hE : ∀ t : Int32 × Hp, o = .inr t → Bg L xs 124 70 [(0, .ref 9), (1, .int v1), (2, .int v2), (3, .int t.1)] [] LY88 t.2 R) (e : Jwy_lengthOf_L41 v1 v2 v3 h = some o) : Bg L xs 124 41 [(0, .ref 9), (1, .int v1), (2, .int v2), (3, .int v3)] [] LY88 h R := by
  refine seg_Bg (pc' := (if v3 < 256 then 48 else 70)) (lv' := [(0, .ref 9), (1, .int v1), (2, .int v2), (3, .int v3)]) (st' := []) (lay' := LY88) (h' := h) 3 rfl ?_
  refine pc_ite e (fun e => ?_) (fun e => ?_)
  · refine seg_Bg (pc' := (if v3 = v1 then 58 else 62)) (lv' := [(0, .ref 9), (1, .int v1), (2, .int v2), (3, .int v3)]) (st' := [.int v3, .ref 24]) (lay' := LY88) (h' := h) 6 rfl ?_
    refine pc_ite e (fun e => ?_) (fun e => ?_)
    · refine seg_Bg (pc' := 63) (lv' := [(0, .ref 9), (1, .int v1), (2, .int v2), (3, .int v3)]) (st' := [.int 1, .int v3, .ref 24]) (lay' := LY88) (h' := h) 2 rfl ?_
      refine gp_Bg (pc' := 64) (lv' := [(0, .ref 9), (1, .int v1), (2, .int v2), (3, .int v3)]) (st' := []) (lay' := LY88) (x := hset h 24 (Int32.toNatClampNeg v3) (vp_nar .boolean 1)) (g := ibB v3 256) rfl e fun h2 e => ?_
      refine seg_Bg (pc' := 41) (lv' := [(0, .ref 9), (1, .int v1), (2, .int v2), (3, .int (v3 + 1))]) (st' := []) (lay' := LY88) (h' := h2) 2 rfl ?_
      exact hH (v3 + 1, h2) (Option.some.inj e).symm
    · refine seg_Bg (pc' := 63) (lv' := [(0, .ref 9), (1, .int v1), (2, .int v2), (3, .int v3)]) (st' := [.int 0, .int v3, .ref 24]) (lay' := LY88) (h' := h) 1 rfl ?_
      refine gp_Bg (pc' := 64) (lv' := [(0, .ref 9), (1, .int v1), (2, .int v2), (3, .int v3)]) (st' := []) (lay' := LY88) (x := hset h 24 (Int32.toNatClampNeg v3) (vp_nar .boolean 0)) (g := ibB v3 256) rfl e fun h3 e => ?_
      refine seg_Bg (pc' := 41) (lv' := [(0, .ref 9), (1, .int v1), (2, .int v2), (3, .int (v3 + 1))]) (st' := []) (lay' := LY88) (h' := h3) 2 rfl ?_
      exact hH (v3 + 1, h3) (Option.some.inj e).symm
  · exact hE (v3, h) (Option.some.inj e).symm
theorem BJwy_lengthOf_L41 (L : Nat) (xs : Nat → Int32) (v1 v2 : Int32) (R : List Value × Lay × Hp) (C : (Int32 × Hp) → Prop) (hE : ∀ t : Int32 × Hp, C t → Bg L xs 124 70 [(0, .ref 9), (1, .int v1), (2, .int v2), (3, .int t.1)] [] LY88 t.2 R) (n : Nat) (s : Int32 × Hp) (o : (Int32 × Hp)) (e : loopN n (fun s => Jwy_lengthOf_L41 v1 v2 s.1 s.2) s = some o) (hC : C o) : Bg L xs 124 41 [(0, .ref 9), (1, .int v1), (2, .int v2), (3, .int s.1)] [] LY88 s.2 R := by
  refine loop_B (fun s => Jwy_lengthOf_L41 v1 v2 s.1 s.2) (fun s : Int32 × Hp => Bg L xs 124 41 [(0, .ref 9), (1, .int v1), (2, .int v2), (3, .int s.1)] [] LY88 s.2 R) C (fun s o e => ?_) n s o e hC
  intro hK
  refine BJwy_lengthOf_L41_s L xs v1 v2 R s.1 s.2 o (fun s q => by subst q; exact hK) (fun t q => by subst q; exact hE t hK) e
set_option maxRecDepth 100000 in
theorem BJwy_lengthOf_L85_s (L : Nat) (xs : Nat → Int32) (v1 v2 v3 : Int32) (R : List Value × Lay × Hp) (v4 : Int32) (h : Hp) (o : ((Int32 × Hp) ⊕ (Int32 × Hp))) (hH : ∀ s : Int32 × Hp, o = .inl s → Bg L xs 124 85 [(0, .ref 9), (1, .int v1), (2, .int v2), (3, .int v3), (4, .int s.1)] [] LY88 s.2 R) (hE : ∀ t : Int32 × Hp, o = .inr t → Bg L xs 124 109 [(0, .ref 9), (1, .int v1), (2, .int v2), (3, .int v3), (4, .int t.1)] [] LY88 t.2 R) (e : Jwy_lengthOf_L85 v1 v2 v3 v4 h = some o) : Bg L xs 124 85 [(0, .ref 9), (1, .int v1), (2, .int v2), (3, .int v3), (4, .int v4)] [] LY88 h R := by
  refine seg_Bg (pc' := (if v4 < 0 then 109 else 90)) (lv' := [(0, .ref 9), (1, .int v1), (2, .int v2), (3, .int v3), (4, .int v4)]) (st' := []) (lay' := LY88) (h' := h) 2 rfl ?_
  refine pc_ite e (fun e => ?_) (fun e => ?_)
  · exact hE (v4, h) (Option.some.inj e).symm
  · refine seg_Bg (pc' := 97) (lv' := [(0, .ref 9), (1, .int v1), (2, .int v2), (3, .int v3), (4, .int v4)]) (st' := [.int v4, .ref 10, .ref 9]) (lay' := LY88) (h' := h) 4 rfl ?_
    refine call_Bg (a := 30) (la := [(0, .ref 10), (1, .int v4)]) (np := 100) (lv' := [(0, .ref 9), (1, .int v1), (2, .int v2), (3, .int v3), (4, .int v4)]) (rest := [.ref 9]) (res := fun r => ([.int r], LY88, h)) rfl e (fun r e => BJcs_madeAt L xs v4 h r e) (fun c6 e => ?_)
    show Bg L xs 124 100 [(0, .ref 9), (1, .int v1), (2, .int v2), (3, .int v3), (4, .int v4)] [.int c6, .ref 9] LY88 h R
    refine call_Bg (a := 125) (la := [(0, .ref 9), (1, .int c6)]) (np := 103) (lv' := [(0, .ref 9), (1, .int v1), (2, .int v2), (3, .int v3), (4, .int v4)]) (rest := []) (res := fun r => ([], LY88, r)) rfl e (fun r e => BJwy_needParts L xs c6 h r e) (fun c7 e => ?_)
    show Bg L xs 124 103 [(0, .ref 9), (1, .int v1), (2, .int v2), (3, .int v3), (4, .int v4)] [] LY88 c7 R
    refine seg_Bg (pc' := 85) (lv' := [(0, .ref 9), (1, .int v1), (2, .int v2), (3, .int v3), (4, .int (v4 + (-1)))]) (st' := []) (lay' := LY88) (h' := c7) 2 rfl ?_
    exact hH (v4 + (-1), c7) (Option.some.inj e).symm
theorem BJwy_lengthOf_L85 (L : Nat) (xs : Nat → Int32) (v1 v2 v3 : Int32) (R : List Value × Lay × Hp) (C : (Int32 × Hp) → Prop) (hE : ∀ t : Int32 × Hp, C t → Bg L xs 124 109 [(0, .ref 9), (1, .int v1), (2, .int v2), (3, .int v3), (4, .int t.1)] [] LY88 t.2 R) (n : Nat) (s : Int32 × Hp) (o : (Int32 × Hp)) (e : loopN n (fun s => Jwy_lengthOf_L85 v1 v2 v3 s.1 s.2) s = some o) (hC : C o) : Bg L xs 124 85 [(0, .ref 9), (1, .int v1), (2, .int v2), (3, .int v3), (4, .int s.1)] [] LY88 s.2 R := by
  refine loop_B (fun s => Jwy_lengthOf_L85 v1 v2 v3 s.1 s.2) (fun s : Int32 × Hp => Bg L xs 124 85 [(0, .ref 9), (1, .int v1), (2, .int v2), (3, .int v3), (4, .int s.1)] [] LY88 s.2 R) C (fun s o e => ?_) n s o e hC
  intro hK
  refine BJwy_lengthOf_L85_s L xs v1 v2 v3 R s.1 s.2 o (fun s q => by subst q; exact hK) (fun t q => by subst q; exact hE t hK) e
set_option maxRecDepth 100000 in
theorem BJwy_lengthOf_L112_s (L : Nat) (xs : Nat → Int32) (v1 v2 v3 : Int32) (R : List Value × Lay × Hp) (v4 : Int32) (h : Hp) (o : ((Int32 × Hp) ⊕ (Int32 × Hp))) (hH : ∀ s : Int32 × Hp, o = .inl s → Bg L xs 124 112 [(0, .ref 9), (1, .int v1), (2, .int v2), (3, .int v3), (4, .int s.1)] [] LY88 s.2 R) (hE : ∀ t : Int32 × Hp, o = .inr t → Bg L xs 124 137 [(0, .ref 9), (1, .int v1), (2, .int v2), (3, .int v3), (4, .int t.1)] [] LY88 t.2 R) (e : Jwy_lengthOf_L112 v1 v2 v3 v4 h = some o) : Bg L xs 124 112 [(0, .ref 9), (1, .int v1), (2, .int v2), (3, .int v3), (4, .int v4)] [] LY88 h R := by
  refine seg_Bg (pc' := (if v4 < v3 then 118 else 137)) (lv' := [(0, .ref 9), (1, .int v1), (2, .int v2), (3, .int v3), (4, .int v4)]) (st' := []) (lay' := LY88) (h' := h) 3 rfl ?_
  refine pc_ite e (fun e => ?_) (fun e => ?_)
  · refine seg_Bg (pc' := 125) (lv' := [(0, .ref 9), (1, .int v1), (2, .int v2), (3, .int v3), (4, .int v4)]) (st' := [.int v4, .ref 10, .ref 9]) (lay' := LY88) (h' := h) 4 rfl ?_
    refine call_Bg (a := 30) (la := [(0, .ref 10), (1, .int v4)]) (np := 128) (lv' := [(0, .ref 9), (1, .int v1), (2, .int v2), (3, .int v3), (4, .int v4)]) (rest := [.ref 9]) (res := fun r => ([.int r], LY88, h)) rfl e (fun r e => BJcs_madeAt L xs v4 h r e) (fun c9 e => ?_)
    show Bg L xs 124 128 [(0, .ref 9), (1, .int v1), (2, .int v2), (3, .int v3), (4, .int v4)] [.int c9, .ref 9] LY88 h R
    refine call_Bg (a := 126) (la := [(0, .ref 9), (1, .int c9)]) (np := 131) (lv' := [(0, .ref 9), (1, .int v1), (2, .int v2), (3, .int v3), (4, .int v4)]) (rest := []) (res := fun r => ([], LY88, r)) rfl e (fun r e => BJwy_measure L xs c9 h r e) (fun c10 e => ?_)
    show Bg L xs 124 131 [(0, .ref 9), (1, .int v1), (2, .int v2), (3, .int v3), (4, .int v4)] [] LY88 c10 R
    refine seg_Bg (pc' := 112) (lv' := [(0, .ref 9), (1, .int v1), (2, .int v2), (3, .int v3), (4, .int (v4 + 1))]) (st' := []) (lay' := LY88) (h' := c10) 2 rfl ?_
    exact hH (v4 + 1, c10) (Option.some.inj e).symm
  · exact hE (v4, h) (Option.some.inj e).symm
theorem BJwy_lengthOf_L112 (L : Nat) (xs : Nat → Int32) (v1 v2 v3 : Int32) (R : List Value × Lay × Hp) (C : (Int32 × Hp) → Prop) (hE : ∀ t : Int32 × Hp, C t → Bg L xs 124 137 [(0, .ref 9), (1, .int v1), (2, .int v2), (3, .int v3), (4, .int t.1)] [] LY88 t.2 R) (n : Nat) (s : Int32 × Hp) (o : (Int32 × Hp)) (e : loopN n (fun s => Jwy_lengthOf_L112 v1 v2 v3 s.1 s.2) s = some o) (hC : C o) : Bg L xs 124 112 [(0, .ref 9), (1, .int v1), (2, .int v2), (3, .int v3), (4, .int s.1)] [] LY88 s.2 R := by
  refine loop_B (fun s => Jwy_lengthOf_L112 v1 v2 v3 s.1 s.2) (fun s : Int32 × Hp => Bg L xs 124 112 [(0, .ref 9), (1, .int v1), (2, .int v2), (3, .int v3), (4, .int s.1)] [] LY88 s.2 R) C (fun s o e => ?_) n s o e hC
  intro hK
  refine BJwy_lengthOf_L112_s L xs v1 v2 v3 R s.1 s.2 o (fun s q => by subst q; exact hK) (fun t q => by subst q; exact hE t hK) e
set_option maxRecDepth 100000 in
theorem BJwy_lengthOf (L : Nat) (xs : Nat → Int32) (v1 : Int32) (h : Hp) (o : Int32 × Hp) (e : Jwy_lengthOf v1 h = some o) : Bg L xs 124 0 [(0, .ref 9), (1, .int v1)] [] LY88 h ([.int o.1], LY88, o.2) := by
  obtain ⟨R, hR⟩ : ∃ R : List Value × Lay × Hp, R = ([.int o.1], LY88, o.2) := ⟨_, rfl⟩
  rw [← hR]
  refine seg_Bg (pc' := 5) (lv' := [(0, .ref 9), (1, .int v1)]) (st' := [.int v1, .ref 10]) (lay' := LY88) (h' := h) 3 rfl ?_
  refine call_Bg (a := 36) (la := [(0, .ref 10), (1, .int v1)]) (np := 8) (lv' := [(0, .ref 9), (1, .int v1)]) (rest := []) (res := fun r => ([.int r], LY88, h)) rfl e (fun r e => BJcs_costOf L xs v1 h r e) (fun c1 e => ?_)
  show Bg L xs 124 8 [(0, .ref 9), (1, .int v1)] [.int c1] LY88 h R
  refine seg_Bg (pc' := (if c1 = (-1) then 23 else 14)) (lv' := [(0, .ref 9), (1, .int v1), (2, .int c1)]) (st' := []) (lay' := LY88) (h' := h) 4 rfl ?_
  refine pc_ite e (fun e => ?_) (fun e => ?_)
  · refine seg_Bg (pc' := (if c1 = (-1) then 28 else 32)) (lv' := [(0, .ref 9), (1, .int v1), (2, .int c1)]) (st' := []) (lay' := LY88) (h' := h) 3 rfl ?_
    refine pc_ite e (fun e => ?_) (fun e => ?_)
    · refine seg_Bg (pc' := 38) (lv' := [(0, .ref 9), (1, .int v1), (2, .int c1)]) (st' := [.int (-1)]) (lay' := LY88) (h' := h) 2 rfl ?_
      rw [hR, ← Option.some.inj e]; exact ret_Bg rfl
    · refine seg_Bg (pc' := 37) (lv' := [(0, .ref 9), (1, .int v1), (2, .int c1)]) (st' := [.int v1, .ref 25]) (lay' := LY88) (h' := h) 3 rfl ?_
      refine gd_Bg (pc' := 38) (lv' := [(0, .ref 9), (1, .int v1), (2, .int c1)]) (st' := [.int (h 25 (Int32.toNatClampNeg v1))]) (lay' := LY88) (h' := h) (g := ibB v1 256) rfl e fun e => ?_
      rw [hR, ← Option.some.inj e]; exact ret_Bg rfl
  · refine seg_Bg (pc' := 19) (lv' := [(0, .ref 9), (1, .int v1), (2, .int c1)]) (st' := [.int v1, .ref 25]) (lay' := LY88) (h' := h) 3 rfl ?_
    refine gd_Bg (pc' := 20) (lv' := [(0, .ref 9), (1, .int v1), (2, .int c1)]) (st' := [.int (h 25 (Int32.toNatClampNeg v1))]) (lay' := LY88) (h' := h) (g := ibB v1 256) rfl e fun e => ?_
    refine seg_Bg (pc' := (if 0 < (h 25 (Int32.toNatClampNeg v1)) then 23 else 39)) (lv' := [(0, .ref 9), (1, .int v1), (2, .int c1)]) (st' := []) (lay' := LY88) (h' := h) 1 rfl ?_
    refine pc_ite e (fun e => ?_) (fun e => ?_)
    · refine seg_Bg (pc' := (if c1 = (-1) then 28 else 32)) (lv' := [(0, .ref 9), (1, .int v1), (2, .int c1)]) (st' := []) (lay' := LY88) (h' := h) 3 rfl ?_
      refine pc_ite e (fun e => ?_) (fun e => ?_)
      · refine seg_Bg (pc' := 38) (lv' := [(0, .ref 9), (1, .int v1), (2, .int c1)]) (st' := [.int (-1)]) (lay' := LY88) (h' := h) 2 rfl ?_
        rw [hR, ← Option.some.inj e]; exact ret_Bg rfl
      · refine seg_Bg (pc' := 37) (lv' := [(0, .ref 9), (1, .int v1), (2, .int c1)]) (st' := [.int v1, .ref 25]) (lay' := LY88) (h' := h) 3 rfl ?_
        refine gd_Bg (pc' := 38) (lv' := [(0, .ref 9), (1, .int v1), (2, .int c1)]) (st' := [.int (h 25 (Int32.toNatClampNeg v1))]) (lay' := LY88) (h' := h) (g := ibB v1 256) rfl e fun e => ?_
        rw [hR, ← Option.some.inj e]; exact ret_Bg rfl
    · refine seg_Bg (pc' := 41) (lv' := [(0, .ref 9), (1, .int v1), (2, .int c1), (3, .int 0)]) (st' := []) (lay' := LY88) (h' := h) 2 rfl ?_
      obtain ⟨t4o, et4o, e⟩ := bd_s e
      refine BJwy_lengthOf_L41 L xs v1 c1 R (fun (t4 : Int32 × Hp) => (bd (Jcs_partsTo c1 1 t4.2) fun c5 => bd (loopN 1000000 (fun s => Jwy_lengthOf_L85 v1 c1 c5 s.1 s.2) (c5 - (1 : Int32), t4.2)) fun (t8 : Int32 × Hp) => bd (loopN 1000000 (fun s => Jwy_lengthOf_L112 v1 c1 c5 s.1 s.2) (0, t8.2)) fun (t11 : Int32 × Hp) => bif ibB v1 256 then some (t11.2 25 (Int32.toNatClampNeg v1), t11.2) else none) = some o) (fun t4 e => ?_) 1000000 (0, h) _ et4o e
      refine seg_Bg (pc' := 76) (lv' := [(0, .ref 9), (1, .int v1), (2, .int c1), (3, .int t4.1)]) (st' := [.int 1, .int c1, .ref 10]) (lay' := LY88) (h' := t4.2) 4 rfl ?_
      refine call_Bg (a := 29) (la := [(0, .ref 10), (1, .int c1), (2, .int 1)]) (np := 79) (lv' := [(0, .ref 9), (1, .int v1), (2, .int c1), (3, .int t4.1)]) (rest := []) (res := fun r => ([.int r], LY88, t4.2)) rfl e (fun r e => BJcs_partsTo L xs c1 1 t4.2 r e) (fun c5 e => ?_)
      show Bg L xs 124 79 [(0, .ref 9), (1, .int v1), (2, .int c1), (3, .int t4.1)] [.int c5] LY88 t4.2 R
      refine seg_Bg (pc' := 85) (lv' := [(0, .ref 9), (1, .int v1), (2, .int c1), (3, .int c5), (4, .int (c5 - (1 : Int32)))]) (st' := []) (lay' := LY88) (h' := t4.2) 5 rfl ?_
      obtain ⟨t8o, et8o, e⟩ := bd_s e
      refine BJwy_lengthOf_L85 L xs v1 c1 c5 R (fun (t8 : Int32 × Hp) => (bd (loopN 1000000 (fun s => Jwy_lengthOf_L112 v1 c1 c5 s.1 s.2) (0, t8.2)) fun (t11 : Int32 × Hp) => bif ibB v1 256 then some (t11.2 25 (Int32.toNatClampNeg v1), t11.2) else none) = some o) (fun t8 e => ?_) 1000000 (c5 - (1 : Int32), t4.2) _ et8o e
      refine seg_Bg (pc' := 112) (lv' := [(0, .ref 9), (1, .int v1), (2, .int c1), (3, .int c5), (4, .int 0)]) (st' := []) (lay' := LY88) (h' := t8.2) 2 rfl ?_
      obtain ⟨t11o, et11o, e⟩ := bd_s e
      refine BJwy_lengthOf_L112 L xs v1 c1 c5 R (fun (t11 : Int32 × Hp) => (bif ibB v1 256 then some (t11.2 25 (Int32.toNatClampNeg v1), t11.2) else none) = some o) (fun t11 e => ?_) 1000000 (0, t8.2) _ et11o e
      refine seg_Bg (pc' := 142) (lv' := [(0, .ref 9), (1, .int v1), (2, .int c1), (3, .int c5), (4, .int t11.1)]) (st' := [.int v1, .ref 25]) (lay' := LY88) (h' := t11.2) 3 rfl ?_
      refine gd_Bg (pc' := 143) (lv' := [(0, .ref 9), (1, .int v1), (2, .int c1), (3, .int c5), (4, .int t11.1)]) (st' := [.int (t11.2 25 (Int32.toNatClampNeg v1))]) (lay' := LY88) (h' := t11.2) (g := ibB v1 256) rfl e fun e => ?_
      rw [hR, ← Option.some.inj e]; exact ret_Bg rfl

set_option maxRecDepth 100000 in
theorem BJyn_cost (L : Nat) (xs : Nat → Int32) (v1 : Int32) (v2 : Int32) (h : Hp) (o : Int32 × Hp) (e : Jyn_cost v1 v2 h = some o) : Bg L xs 137 0 [(0, .ref 0), (1, .int v1), (2, .int v2)] [] LY88 h ([.int o.1], LY88, o.2) := by
  obtain ⟨R, hR⟩ : ∃ R : List Value × Lay × Hp, R = ([.int o.1], LY88, o.2) := ⟨_, rfl⟩
  rw [← hR]
  refine seg_Bg (pc' := 1) (lv' := [(0, .ref 0), (1, .int v1), (2, .int v2)]) (st' := [.int v1]) (lay' := LY88) (h' := h) 1 rfl ?_
  refine call_Bg (a := 158) (la := [(0, .int v1)]) (np := 4) (lv' := [(0, .ref 0), (1, .int v1), (2, .int v2)]) (rest := []) (res := fun r => ([.int r], LY88, h)) rfl e (fun r e => BJyn_isCode L xs v1 LY88 h r e) (fun c1 e => ?_)
  show Bg L xs 137 4 [(0, .ref 0), (1, .int v1), (2, .int v2)] [.int c1] LY88 h R
  refine seg_Bg (pc' := (if c1 = 0 then 7 else 10)) (lv' := [(0, .ref 0), (1, .int v1), (2, .int v2)]) (st' := []) (lay' := LY88) (h' := h) 1 rfl ?_
  refine pc_ite e (fun e => ?_) (fun e => ?_)
  · refine seg_Bg (pc' := 9) (lv' := [(0, .ref 0), (1, .int v1), (2, .int v2)]) (st' := [.int (-1000000002)]) (lay' := LY88) (h' := h) 1 rfl ?_
    rw [hR, ← Option.some.inj e]; exact ret_Bg rfl
  · refine seg_Bg (pc' := 11) (lv' := [(0, .ref 0), (1, .int v1), (2, .int v2)]) (st' := [.ref 0]) (lay' := LY88) (h' := h) 1 rfl ?_
    refine call_Bg (a := 163) (la := [(0, .ref 0)]) (np := 14) (lv' := [(0, .ref 0), (1, .int v1), (2, .int v2)]) (rest := []) (res := fun r => ([.ref 10], LY88, r)) rfl e (fun r e => BJyn_reckoned L xs h r e) (fun c2 e => ?_)
    show Bg L xs 137 14 [(0, .ref 0), (1, .int v1), (2, .int v2)] [.ref 10] LY88 c2 R
    refine seg_Bg (pc' := (if v2 = 0 then 56 else if v2 = 1 then 62 else if v2 = 2 then 68 else if v2 = 3 then 78 else if v2 = 4 then 88 else if v2 = 5 then 98 else 107)) (lv' := [(0, .ref 0), (1, .int v1), (2, .int v2), (3, .ref 10)]) (st' := []) (lay' := LY88) (h' := c2) 3 rfl ?_
    refine pc_ite e (fun e => ?_) (fun e => ?_)
    · refine seg_Bg (pc' := 58) (lv' := [(0, .ref 0), (1, .int v1), (2, .int v2), (3, .ref 10)]) (st' := [.int v1, .ref 10]) (lay' := LY88) (h' := c2) 2 rfl ?_
      refine call_Bg (a := 36) (la := [(0, .ref 10), (1, .int v1)]) (np := 61) (lv' := [(0, .ref 0), (1, .int v1), (2, .int v2), (3, .ref 10)]) (rest := []) (res := fun r => ([.int r], LY88, c2)) rfl e (fun r e => BJcs_costOf L xs v1 c2 r e) (fun c3 e => ?_)
      show Bg L xs 137 61 [(0, .ref 0), (1, .int v1), (2, .int v2), (3, .ref 10)] [.int c3] LY88 c2 R
      rw [hR, ← Option.some.inj e]; exact ret_Bg rfl
    · refine pc_ite e (fun e => ?_) (fun e => ?_)
      · refine seg_Bg (pc' := 64) (lv' := [(0, .ref 0), (1, .int v1), (2, .int v2), (3, .ref 10)]) (st' := [.int v1, .ref 10]) (lay' := LY88) (h' := c2) 2 rfl ?_
        refine call_Bg (a := 37) (la := [(0, .ref 10), (1, .int v1)]) (np := 67) (lv' := [(0, .ref 0), (1, .int v1), (2, .int v2), (3, .ref 10)]) (rest := []) (res := fun r => ([.int r], LY88, c2)) rfl e (fun r e => BJcs_topOf L xs v1 c2 r e) (fun c4 e => ?_)
        show Bg L xs 137 67 [(0, .ref 0), (1, .int v1), (2, .int v2), (3, .ref 10)] [.int c4] LY88 c2 R
        rw [hR, ← Option.some.inj e]; exact ret_Bg rfl
      · refine pc_ite e (fun e => ?_) (fun e => ?_)
        · refine seg_Bg (pc' := 74) (lv' := [(0, .ref 0), (1, .int v1), (2, .int v2), (3, .ref 10)]) (st' := [.int 0, .int v1, .ref 9]) (lay' := LY88) (h' := c2) 4 rfl ?_
          refine call_Bg (a := 117) (la := [(0, .ref 9), (1, .int v1), (2, .int 0)]) (np := 77) (lv' := [(0, .ref 0), (1, .int v1), (2, .int v2), (3, .ref 10)]) (rest := []) (res := fun r => ([.int r.1], LY88, r.2)) rfl e (fun r e => BJwy_partOf L xs v1 0 c2 r e) (fun c5 e => ?_)
          show Bg L xs 137 77 [(0, .ref 0), (1, .int v1), (2, .int v2), (3, .ref 10)] [.int c5.1] LY88 c5.2 R
          rw [hR, ← Option.some.inj e]; exact ret_Bg rfl
        · refine pc_ite e (fun e => ?_) (fun e => ?_)
          · refine seg_Bg (pc' := 84) (lv' := [(0, .ref 0), (1, .int v1), (2, .int v2), (3, .ref 10)]) (st' := [.int 1, .int v1, .ref 9]) (lay' := LY88) (h' := c2) 4 rfl ?_
            refine call_Bg (a := 117) (la := [(0, .ref 9), (1, .int v1), (2, .int 1)]) (np := 87) (lv' := [(0, .ref 0), (1, .int v1), (2, .int v2), (3, .ref 10)]) (rest := []) (res := fun r => ([.int r.1], LY88, r.2)) rfl e (fun r e => BJwy_partOf L xs v1 1 c2 r e) (fun c6 e => ?_)
            show Bg L xs 137 87 [(0, .ref 0), (1, .int v1), (2, .int v2), (3, .ref 10)] [.int c6.1] LY88 c6.2 R
            rw [hR, ← Option.some.inj e]; exact ret_Bg rfl
          · refine pc_ite e (fun e => ?_) (fun e => ?_)
            · refine seg_Bg (pc' := 94) (lv' := [(0, .ref 0), (1, .int v1), (2, .int v2), (3, .ref 10)]) (st' := [.int 2, .int v1, .ref 9]) (lay' := LY88) (h' := c2) 4 rfl ?_
              refine call_Bg (a := 117) (la := [(0, .ref 9), (1, .int v1), (2, .int 2)]) (np := 97) (lv' := [(0, .ref 0), (1, .int v1), (2, .int v2), (3, .ref 10)]) (rest := []) (res := fun r => ([.int r.1], LY88, r.2)) rfl e (fun r e => BJwy_partOf L xs v1 2 c2 r e) (fun c7 e => ?_)
              show Bg L xs 137 97 [(0, .ref 0), (1, .int v1), (2, .int v2), (3, .ref 10)] [.int c7.1] LY88 c7.2 R
              rw [hR, ← Option.some.inj e]; exact ret_Bg rfl
            · refine pc_ite e (fun e => ?_) (fun e => ?_)
              · refine seg_Bg (pc' := 103) (lv' := [(0, .ref 0), (1, .int v1), (2, .int v2), (3, .ref 10)]) (st' := [.int v1, .ref 9]) (lay' := LY88) (h' := c2) 3 rfl ?_
                refine call_Bg (a := 124) (la := [(0, .ref 9), (1, .int v1)]) (np := 106) (lv' := [(0, .ref 0), (1, .int v1), (2, .int v2), (3, .ref 10)]) (rest := []) (res := fun r => ([.int r.1], LY88, r.2)) rfl e (fun r e => BJwy_lengthOf L xs v1 c2 r e) (fun c8 e => ?_)
                show Bg L xs 137 106 [(0, .ref 0), (1, .int v1), (2, .int v2), (3, .ref 10)] [.int c8.1] LY88 c8.2 R
                rw [hR, ← Option.some.inj e]; exact ret_Bg rfl
              · refine seg_Bg (pc' := 109) (lv' := [(0, .ref 0), (1, .int v1), (2, .int v2), (3, .ref 10)]) (st' := [.int (-1000000002)]) (lay' := LY88) (h' := c2) 1 rfl ?_
                rw [hR, ← Option.some.inj e]; exact ret_Bg rfl

set_option maxRecDepth 100000 in
theorem BJm_cost (L : Nat) (xs : Nat → Int32) (v1 : Int32) (v2 : Int32) (h : Hp) (o : Int32 × Hp) (e : Jm_cost v1 v2 h = some o) : Bg L xs 228 0 [(0, .ref 37), (1, .int v1), (2, .int v2)] [] LY88 h ([.int o.1], LY88, o.2) := by
  obtain ⟨R, hR⟩ : ∃ R : List Value × Lay × Hp, R = ([.int o.1], LY88, o.2) := ⟨_, rfl⟩
  rw [← hR]
  refine seg_Bg (pc' := 6) (lv' := [(0, .ref 37), (1, .int v1), (2, .int v2)]) (st' := [.long 255, .long 0, .long (Int32.toInt64 v1)]) (lay' := LY88) (h' := h) 4 rfl ?_
  refine call_Bg (a := 166) (la := [(0, .long (Int32.toInt64 v1)), (2, .long 0), (4, .long 255)]) (np := 9) (lv' := [(0, .ref 37), (1, .int v1), (2, .int v2)]) (rest := []) (res := fun r => ([.int r], LY88, h)) rfl e (fun r e => BJm_in L xs (Int32.toInt64 v1) 0 255 LY88 h r e) (fun c1 e => ?_)
  show Bg L xs 228 9 [(0, .ref 37), (1, .int v1), (2, .int v2)] [.int c1] LY88 h R
  refine seg_Bg (pc' := (if c1 = 0 then 24 else 12)) (lv' := [(0, .ref 37), (1, .int v1), (2, .int v2)]) (st' := []) (lay' := LY88) (h' := h) 1 rfl ?_
  refine pc_ite e (fun e => ?_) (fun e => ?_)
  · refine seg_Bg (pc' := 26) (lv' := [(0, .ref 37), (1, .int v1), (2, .int v2)]) (st' := [.int (-1000000002)]) (lay' := LY88) (h' := h) 1 rfl ?_
    rw [hR, ← Option.some.inj e]; exact ret_Bg rfl
  · refine seg_Bg (pc' := 18) (lv' := [(0, .ref 37), (1, .int v1), (2, .int v2)]) (st' := [.long 5, .long 0, .long (Int32.toInt64 v2)]) (lay' := LY88) (h' := h) 4 rfl ?_
    refine call_Bg (a := 166) (la := [(0, .long (Int32.toInt64 v2)), (2, .long 0), (4, .long 5)]) (np := 21) (lv' := [(0, .ref 37), (1, .int v1), (2, .int v2)]) (rest := []) (res := fun r => ([.int r], LY88, h)) rfl e (fun r e => BJm_in L xs (Int32.toInt64 v2) 0 5 LY88 h r e) (fun c2 e => ?_)
    show Bg L xs 228 21 [(0, .ref 37), (1, .int v1), (2, .int v2)] [.int c2] LY88 h R
    refine seg_Bg (pc' := (if c2 = 0 then 24 else 27)) (lv' := [(0, .ref 37), (1, .int v1), (2, .int v2)]) (st' := []) (lay' := LY88) (h' := h) 1 rfl ?_
    refine pc_ite e (fun e => ?_) (fun e => ?_)
    · refine seg_Bg (pc' := 26) (lv' := [(0, .ref 37), (1, .int v1), (2, .int v2)]) (st' := [.int (-1000000002)]) (lay' := LY88) (h' := h) 1 rfl ?_
      rw [hR, ← Option.some.inj e]; exact ret_Bg rfl
    · refine seg_Bg (pc' := 28) (lv' := [(0, .ref 37), (1, .int v1), (2, .int v2)]) (st' := [.ref 37]) (lay' := LY88) (h' := h) 1 rfl ?_
      refine call_Bg (a := 205) (la := [(0, .ref 37)]) (np := 31) (lv' := [(0, .ref 37), (1, .int v1), (2, .int v2)]) (rest := []) (res := fun r => ([], LY88, r)) rfl e (fun r e => BJm_layCosts L xs h r e) (fun c3 e => ?_)
      show Bg L xs 228 31 [(0, .ref 37), (1, .int v1), (2, .int v2)] [] LY88 c3 R
      refine seg_Bg (pc' := (if v2 = 0 then 44 else 35)) (lv' := [(0, .ref 37), (1, .int v1), (2, .int v2)]) (st' := []) (lay' := LY88) (h' := c3) 2 rfl ?_
      refine pc_ite e (fun e => ?_) (fun e => ?_)
      · refine seg_Bg (pc' := 49) (lv' := [(0, .ref 37), (1, .int v1), (2, .int v2)]) (st' := [.int v1, .ref 46]) (lay' := LY88) (h' := c3) 3 rfl ?_
        refine gd_Bg (pc' := 50) (lv' := [(0, .ref 37), (1, .int v1), (2, .int v2)]) (st' := [.int (c3 46 (Int32.toNatClampNeg v1))]) (lay' := LY88) (h' := c3) (g := ibB v1 256) rfl e fun e => ?_
        rw [hR, ← Option.some.inj e]; exact ret_Bg rfl
      · refine seg_Bg (pc' := 40) (lv' := [(0, .ref 37), (1, .int v1), (2, .int v2)]) (st' := [.int v1, .ref 46]) (lay' := LY88) (h' := c3) 3 rfl ?_
        refine gd_Bg (pc' := 41) (lv' := [(0, .ref 37), (1, .int v1), (2, .int v2)]) (st' := [.int (c3 46 (Int32.toNatClampNeg v1))]) (lay' := LY88) (h' := c3) (g := ibB v1 256) rfl e fun e => ?_
        refine seg_Bg (pc' := (if (c3 46 (Int32.toNatClampNeg v1)) < 0 then 44 else 51)) (lv' := [(0, .ref 37), (1, .int v1), (2, .int v2)]) (st' := []) (lay' := LY88) (h' := c3) 1 rfl ?_
        refine pc_ite e (fun e => ?_) (fun e => ?_)
        · refine seg_Bg (pc' := 49) (lv' := [(0, .ref 37), (1, .int v1), (2, .int v2)]) (st' := [.int v1, .ref 46]) (lay' := LY88) (h' := c3) 3 rfl ?_
          refine gd_Bg (pc' := 50) (lv' := [(0, .ref 37), (1, .int v1), (2, .int v2)]) (st' := [.int (c3 46 (Int32.toNatClampNeg v1))]) (lay' := LY88) (h' := c3) (g := ibB v1 256) rfl e fun e => ?_
          rw [hR, ← Option.some.inj e]; exact ret_Bg rfl
        · refine seg_Bg (pc' := (if v2 = 5 then 56 else 63)) (lv' := [(0, .ref 37), (1, .int v1), (2, .int v2)]) (st' := []) (lay' := LY88) (h' := c3) 3 rfl ?_
          refine pc_ite e (fun e => ?_) (fun e => ?_)
          · refine seg_Bg (pc' := 61) (lv' := [(0, .ref 37), (1, .int v1), (2, .int v2)]) (st' := [.int v1, .ref 49]) (lay' := LY88) (h' := c3) 3 rfl ?_
            refine gd_Bg (pc' := 62) (lv' := [(0, .ref 37), (1, .int v1), (2, .int v2)]) (st' := [.int (c3 49 (Int32.toNatClampNeg v1))]) (lay' := LY88) (h' := c3) (g := ibB v1 256) rfl e fun e => ?_
            rw [hR, ← Option.some.inj e]; exact ret_Bg rfl
          · refine seg_Bg (pc' := 68) (lv' := [(0, .ref 37), (1, .int v1), (2, .int v2)]) (st' := [.int v1, .ref 46]) (lay' := LY88) (h' := c3) 3 rfl ?_
            refine gd_Bg (pc' := 69) (lv' := [(0, .ref 37), (1, .int v1), (2, .int v2)]) (st' := [.int (c3 46 (Int32.toNatClampNeg v1))]) (lay' := LY88) (h' := c3) (g := ibB v1 256) rfl e fun e => ?_
            refine seg_Bg (pc' := (if (c3 46 (Int32.toNatClampNeg v1)) = 0 then 72 else 76)) (lv' := [(0, .ref 37), (1, .int v1), (2, .int v2)]) (st' := []) (lay' := LY88) (h' := c3) 1 rfl ?_
            refine pc_ite e (fun e => ?_) (fun e => ?_)
            · refine seg_Bg (pc' := 102) (lv' := [(0, .ref 37), (1, .int v1), (2, .int v2)]) (st' := [.int (-1)]) (lay' := LY88) (h' := c3) 2 rfl ?_
              rw [hR, ← Option.some.inj e]; exact ret_Bg rfl
            · refine seg_Bg (pc' := (if v2 = 1 then 81 else 90)) (lv' := [(0, .ref 37), (1, .int v1), (2, .int v2)]) (st' := []) (lay' := LY88) (h' := c3) 3 rfl ?_
              refine pc_ite e (fun e => ?_) (fun e => ?_)
              · refine seg_Bg (pc' := 86) (lv' := [(0, .ref 37), (1, .int v1), (2, .int v2)]) (st' := [.int v1, .ref 47]) (lay' := LY88) (h' := c3) 3 rfl ?_
                refine gd_Bg (pc' := 87) (lv' := [(0, .ref 37), (1, .int v1), (2, .int v2)]) (st' := [.int (c3 47 (Int32.toNatClampNeg v1))]) (lay' := LY88) (h' := c3) (g := ibB v1 256) rfl e fun e => ?_
                refine seg_Bg (pc' := 102) (lv' := [(0, .ref 37), (1, .int v1), (2, .int v2)]) (st' := [.int (c3 47 (Int32.toNatClampNeg v1))]) (lay' := LY88) (h' := c3) 1 rfl ?_
                rw [hR, ← Option.some.inj e]; exact ret_Bg rfl
              · refine seg_Bg (pc' := 101) (lv' := [(0, .ref 37), (1, .int v1), (2, .int v2)]) (st' := [.int ((((3 : Int32) * v1) + v2) - (2 : Int32)), .ref 48]) (lay' := LY88) (h' := c3) 9 rfl ?_
                refine gd_Bg (pc' := 102) (lv' := [(0, .ref 37), (1, .int v1), (2, .int v2)]) (st' := [.int (c3 48 (Int32.toNatClampNeg ((((3 : Int32) * v1) + v2) - (2 : Int32))))]) (lay' := LY88) (h' := c3) (g := ibB ((((3 : Int32) * v1) + v2) - (2 : Int32)) 768) rfl e fun e => ?_
                rw [hR, ← Option.some.inj e]; exact ret_Bg rfl

set_option maxRecDepth 100000 in
theorem BJwy_firstLetterOf (L : Nat) (xs : Nat → Int32) (v1 : Int32) (h : Hp) (o : Int32) (e : Jwy_firstLetterOf v1 h = some o) : Bg L xs 129 0 [(0, .ref 9), (1, .int v1)] [] LY88 h ([.int o], LY88, h) := by
  obtain ⟨R, hR⟩ : ∃ R : List Value × Lay × Hp, R = ([.int o], LY88, h) := ⟨_, rfl⟩
  rw [← hR]
  refine seg_Bg (pc' := (if v1 = 170 then 42 else if v1 = 204 then 39 else if v1 = 240 then 36 else 45)) (lv' := [(0, .ref 9), (1, .int v1)]) (st' := []) (lay' := LY88) (h' := h) 2 rfl ?_
  refine pc_ite e (fun e => ?_) (fun e => ?_)
  · refine seg_Bg (pc' := 44) (lv' := [(0, .ref 9), (1, .int v1)]) (st' := [.int 99]) (lay' := LY88) (h' := h) 1 rfl ?_
    rw [hR, ← Option.some.inj e]; exact ret_Bg rfl
  · refine pc_ite e (fun e => ?_) (fun e => ?_)
    · refine seg_Bg (pc' := 41) (lv' := [(0, .ref 9), (1, .int v1)]) (st' := [.int 98]) (lay' := LY88) (h' := h) 1 rfl ?_
      rw [hR, ← Option.some.inj e]; exact ret_Bg rfl
    · refine pc_ite e (fun e => ?_) (fun e => ?_)
      · refine seg_Bg (pc' := 38) (lv' := [(0, .ref 9), (1, .int v1)]) (st' := [.int 97]) (lay' := LY88) (h' := h) 1 rfl ?_
        rw [hR, ← Option.some.inj e]; exact ret_Bg rfl
      · refine seg_Bg (pc' := 50) (lv' := [(0, .ref 9), (1, .int v1)]) (st' := [.int v1, .ref 10]) (lay' := LY88) (h' := h) 3 rfl ?_
        refine call_Bg (a := 37) (la := [(0, .ref 10), (1, .int v1)]) (np := 53) (lv' := [(0, .ref 9), (1, .int v1)]) (rest := []) (res := fun r => ([.int r], LY88, h)) rfl e (fun r e => BJcs_topOf L xs v1 h r e) (fun c1 e => ?_)
        show Bg L xs 129 53 [(0, .ref 9), (1, .int v1)] [.int c1] LY88 h R
        refine seg_Bg (pc' := (if c1 = (-1) then 57 else 61)) (lv' := [(0, .ref 9), (1, .int v1)]) (st' := []) (lay' := LY88) (h' := h) 2 rfl ?_
        refine pc_ite e (fun e => ?_) (fun e => ?_)
        · refine seg_Bg (pc' := 72) (lv' := [(0, .ref 9), (1, .int v1)]) (st' := [.int (-1)]) (lay' := LY88) (h' := h) 2 rfl ?_
          rw [hR, ← Option.some.inj e]; exact ret_Bg rfl
        · refine seg_Bg (pc' := 68) (lv' := [(0, .ref 9), (1, .int v1)]) (st' := [.int v1, .ref 10, .int 65]) (lay' := LY88) (h' := h) 4 rfl ?_
          refine call_Bg (a := 37) (la := [(0, .ref 10), (1, .int v1)]) (np := 71) (lv' := [(0, .ref 9), (1, .int v1)]) (rest := [.int 65]) (res := fun r => ([.int r], LY88, h)) rfl e (fun r e => BJcs_topOf L xs v1 h r e) (fun c2 e => ?_)
          show Bg L xs 129 71 [(0, .ref 9), (1, .int v1)] [.int c2, .int 65] LY88 h R
          refine seg_Bg (pc' := 72) (lv' := [(0, .ref 9), (1, .int v1)]) (st' := [.int ((65 : Int32) + c2)]) (lay' := LY88) (h' := h) 1 rfl ?_
          rw [hR, ← Option.some.inj e]; exact ret_Bg rfl

set_option maxRecDepth 100000 in
theorem BJwy_letterOf_L27_s (L : Nat) (xs : Nat → Int32) (v1 v2 v3 v5 : Int32) (h : Hp) (R : List Value × Lay × Hp) (v4 v6 : Int32) (o : ((Int32 × Int32) ⊕ (Int32 × Int32))) (hH : ∀ s : Int32 × Int32, o = .inl s → Bg L xs 128 27 [(0, .ref 9), (1, .int v1), (2, .int v2), (3, .int v3), (4, .int s.1), (5, .int v5), (6, .int s.2)] [] LY88 h R) (hE : ∀ t : Int32 × Int32, o = .inr t → Bg L xs 128 63 [(0, .ref 9), (1, .int v1), (2, .int v2), (3, .int v3), (4, .int t.1), (5, .int v5), (6, .int t.2)] [] LY88 h R) (e : Jwy_letterOf_L27 v1 v2 v3 v5 h v4 v6 = some o) : Bg L xs 128 27 [(0, .ref 9), (1, .int v1), (2, .int v2), (3, .int v3), (4, .int v4), (5, .int v5), (6, .int v6)] [] LY88 h R := by
  refine seg_Bg (pc' := (if v6 < 2 then 33 else 63)) (lv' := [(0, .ref 9), (1, .int v1), (2, .int v2), (3, .int v3), (4, .int v4), (5, .int v5), (6, .int v6)]) (st' := []) (lay' := LY88) (h' := h) 3 rfl ?_
  refine pc_ite e (fun e => ?_) (fun e => ?_)
  · refine seg_Bg (pc' := 39) (lv' := [(0, .ref 9), (1, .int v1), (2, .int v2), (3, .int v3), (4, .int v4), (5, .int v5), (6, .int v6)]) (st' := [.int v6, .int v3, .ref 9, .int v4]) (lay' := LY88) (h' := h) 4 rfl ?_
    refine call_Bg (a := 127) (la := [(0, .ref 9), (1, .int v3), (2, .int v6)]) (np := 42) (lv' := [(0, .ref 9), (1, .int v1), (2, .int v2), (3, .int v3), (4, .int v4), (5, .int v5), (6, .int v6)]) (rest := [.int v4]) (res := fun r => ([.int r], LY88, h)) rfl e (fun r e => BJwy_partLength L xs v3 v6 h r e) (fun c1 e => ?_)
    show Bg L xs 128 42 [(0, .ref 9), (1, .int v1), (2, .int v2), (3, .int v3), (4, .int v4), (5, .int v5), (6, .int v6)] [.int c1, .int v4] LY88 h R
    refine seg_Bg (pc' := (if v4 < c1 then 63 else 45)) (lv' := [(0, .ref 9), (1, .int v1), (2, .int v2), (3, .int v3), (4, .int v4), (5, .int v5), (6, .int v6)]) (st' := []) (lay' := LY88) (h' := h) 1 rfl ?_
    refine pc_ite e (fun e => ?_) (fun e => ?_)
    · exact hE (v4, v6) (Option.some.inj e).symm
    · refine seg_Bg (pc' := 51) (lv' := [(0, .ref 9), (1, .int v1), (2, .int v2), (3, .int v3), (4, .int v4), (5, .int v5), (6, .int v6)]) (st' := [.int v6, .int v3, .ref 9, .int v4]) (lay' := LY88) (h' := h) 4 rfl ?_
      refine call_Bg (a := 127) (la := [(0, .ref 9), (1, .int v3), (2, .int v6)]) (np := 54) (lv' := [(0, .ref 9), (1, .int v1), (2, .int v2), (3, .int v3), (4, .int v4), (5, .int v5), (6, .int v6)]) (rest := [.int v4]) (res := fun r => ([.int r], LY88, h)) rfl e (fun r e => BJwy_partLength L xs v3 v6 h r e) (fun c2 e => ?_)
      show Bg L xs 128 54 [(0, .ref 9), (1, .int v1), (2, .int v2), (3, .int v3), (4, .int v4), (5, .int v5), (6, .int v6)] [.int c2, .int v4] LY88 h R
      refine seg_Bg (pc' := 27) (lv' := [(0, .ref 9), (1, .int v1), (2, .int v2), (3, .int v3), (4, .int (v4 - c2)), (5, .int v5), (6, .int (v6 + 1))]) (st' := []) (lay' := LY88) (h' := h) 4 rfl ?_
      exact hH (v4 - c2, v6 + 1) (Option.some.inj e).symm
  · exact hE (v4, v6) (Option.some.inj e).symm
theorem BJwy_letterOf_L27 (L : Nat) (xs : Nat → Int32) (v1 v2 v3 v5 : Int32) (h : Hp) (R : List Value × Lay × Hp) (C : (Int32 × Int32) → Prop) (hE : ∀ t : Int32 × Int32, C t → Bg L xs 128 63 [(0, .ref 9), (1, .int v1), (2, .int v2), (3, .int v3), (4, .int t.1), (5, .int v5), (6, .int t.2)] [] LY88 h R) (n : Nat) (s : Int32 × Int32) (o : (Int32 × Int32)) (e : loopN n (fun s => Jwy_letterOf_L27 v1 v2 v3 v5 h s.1 s.2) s = some o) (hC : C o) : Bg L xs 128 27 [(0, .ref 9), (1, .int v1), (2, .int v2), (3, .int v3), (4, .int s.1), (5, .int v5), (6, .int s.2)] [] LY88 h R := by
  refine loop_B (fun s => Jwy_letterOf_L27 v1 v2 v3 v5 h s.1 s.2) (fun s : Int32 × Int32 => Bg L xs 128 27 [(0, .ref 9), (1, .int v1), (2, .int v2), (3, .int v3), (4, .int s.1), (5, .int v5), (6, .int s.2)] [] LY88 h R) C (fun s o e => ?_) n s o e hC
  intro hK
  refine BJwy_letterOf_L27_s L xs v1 v2 v3 v5 h R s.1 s.2 o (fun s q => by subst q; exact hK) (fun t q => by subst q; exact hE t hK) e
set_option maxRecDepth 100000 in
theorem BJwy_letterOf_L8_s (L : Nat) (xs : Nat → Int32) (v1 v2 : Int32) (h : Hp) (R : List Value × Lay × Hp) (v3 v4 v5 : Int32) (o : ((Int32 × Int32 × Int32) ⊕ (Int32 × Int32 × Int32))) (hH : ∀ s : Int32 × Int32 × Int32, o = .inl s → Bg L xs 128 8 [(0, .ref 9), (1, .int v1), (2, .int v2), (3, .int s.1), (4, .int s.2.1), (5, .int s.2.2)] [] LY88 h R) (hE : ∀ t : Int32 × Int32 × Int32, o = .inr t → Bg L xs 128 77 [(0, .ref 9), (1, .int v1), (2, .int v2), (3, .int t.1), (4, .int t.2.1), (5, .int t.2.2)] [] LY88 h R) (e : Jwy_letterOf_L8 v1 v2 h v3 v4 v5 = some o) : Bg L xs 128 8 [(0, .ref 9), (1, .int v1), (2, .int v2), (3, .int v3), (4, .int v4), (5, .int v5)] [] LY88 h R := by
  refine seg_Bg (pc' := (if v5 < 256 then 16 else 77)) (lv' := [(0, .ref 9), (1, .int v1), (2, .int v2), (3, .int v3), (4, .int v4), (5, .int v5)]) (st' := []) (lay' := LY88) (h' := h) 3 rfl ?_
  refine pc_ite e (fun e => ?_) (fun e => ?_)
  · refine seg_Bg (pc' := (if 0 < v4 then 21 else 77)) (lv' := [(0, .ref 9), (1, .int v1), (2, .int v2), (3, .int v3), (4, .int v4), (5, .int v5)]) (st' := []) (lay' := LY88) (h' := h) 2 rfl ?_
    refine pc_ite e (fun e => ?_) (fun e => ?_)
    · refine seg_Bg (pc' := 27) (lv' := [(0, .ref 9), (1, .int v1), (2, .int v2), (3, .int v3), (4, .int (v4 + (-1))), (5, .int v5), (6, .int 0)]) (st' := []) (lay' := LY88) (h' := h) 3 rfl ?_
      obtain ⟨t3o, et3o, e⟩ := bd_s e
      refine BJwy_letterOf_L27 L xs v1 v2 v3 v5 h R (fun (t3 : Int32 × Int32) => (bd (Jwy_knownPart v3 t3.2 h) fun c4 => some (.inl (c4, t3.1, v5 + 1))) = some o) (fun t3 e => ?_) 1000000 (v4 + (-1), 0) _ et3o e
      refine seg_Bg (pc' := 67) (lv' := [(0, .ref 9), (1, .int v1), (2, .int v2), (3, .int v3), (4, .int t3.1), (5, .int v5), (6, .int t3.2)]) (st' := [.int t3.2, .int v3, .ref 9]) (lay' := LY88) (h' := h) 3 rfl ?_
      refine call_Bg (a := 118) (la := [(0, .ref 9), (1, .int v3), (2, .int t3.2)]) (np := 70) (lv' := [(0, .ref 9), (1, .int v1), (2, .int v2), (3, .int v3), (4, .int t3.1), (5, .int v5), (6, .int t3.2)]) (rest := []) (res := fun r => ([.int r], LY88, h)) rfl e (fun r e => BJwy_knownPart L xs v3 t3.2 h r e) (fun c4 e => ?_)
      show Bg L xs 128 70 [(0, .ref 9), (1, .int v1), (2, .int v2), (3, .int v3), (4, .int t3.1), (5, .int v5), (6, .int t3.2)] [.int c4] LY88 h R
      refine seg_Bg (pc' := 8) (lv' := [(0, .ref 9), (1, .int v1), (2, .int v2), (3, .int c4), (4, .int t3.1), (5, .int (v5 + 1)), (6, .int t3.2)]) (st' := []) (lay' := LY88) (h' := h) 3 rfl ?_
      refine kp_Bg (lv' := [(0, .ref 9), (1, .int v1), (2, .int v2), (3, .int c4), (4, .int t3.1), (5, .int (v5 + 1))]) rfl rfl ?_
      exact hH (c4, t3.1, v5 + 1) (Option.some.inj e).symm
    · exact hE (v3, v4, v5) (Option.some.inj e).symm
  · exact hE (v3, v4, v5) (Option.some.inj e).symm
theorem BJwy_letterOf_L8 (L : Nat) (xs : Nat → Int32) (v1 v2 : Int32) (h : Hp) (R : List Value × Lay × Hp) (C : (Int32 × Int32 × Int32) → Prop) (hE : ∀ t : Int32 × Int32 × Int32, C t → Bg L xs 128 77 [(0, .ref 9), (1, .int v1), (2, .int v2), (3, .int t.1), (4, .int t.2.1), (5, .int t.2.2)] [] LY88 h R) (n : Nat) (s : Int32 × Int32 × Int32) (o : (Int32 × Int32 × Int32)) (e : loopN n (fun s => Jwy_letterOf_L8 v1 v2 h s.1 s.2.1 s.2.2) s = some o) (hC : C o) : Bg L xs 128 8 [(0, .ref 9), (1, .int v1), (2, .int v2), (3, .int s.1), (4, .int s.2.1), (5, .int s.2.2)] [] LY88 h R := by
  refine loop_B (fun s => Jwy_letterOf_L8 v1 v2 h s.1 s.2.1 s.2.2) (fun s : Int32 × Int32 × Int32 => Bg L xs 128 8 [(0, .ref 9), (1, .int v1), (2, .int v2), (3, .int s.1), (4, .int s.2.1), (5, .int s.2.2)] [] LY88 h R) C (fun s o e => ?_) n s o e hC
  intro hK
  refine BJwy_letterOf_L8_s L xs v1 v2 h R s.1 s.2.1 s.2.2 o (fun s q => by subst q; exact hK) (fun t q => by subst q; exact hE t hK) e
set_option maxRecDepth 100000 in
theorem BJwy_letterOf (L : Nat) (xs : Nat → Int32) (v1 : Int32) (v2 : Int32) (h : Hp) (o : Int32) (e : Jwy_letterOf v1 v2 h = some o) : Bg L xs 128 0 [(0, .ref 9), (1, .int v1), (2, .int v2)] [] LY88 h ([.int o], LY88, h) := by
  obtain ⟨R, hR⟩ : ∃ R : List Value × Lay × Hp, R = ([.int o], LY88, h) := ⟨_, rfl⟩
  rw [← hR]
  refine seg_Bg (pc' := 8) (lv' := [(0, .ref 9), (1, .int v1), (2, .int v2), (3, .int v1), (4, .int v2), (5, .int 0)]) (st' := []) (lay' := LY88) (h' := h) 6 rfl ?_
  obtain ⟨t5o, et5o, e⟩ := bd_s e
  refine BJwy_letterOf_L8 L xs v1 v2 h R (fun (t5 : Int32 × Int32 × Int32) => (bd (Jwy_firstLetterOf t5.1 h) fun c6 => some c6) = some o) (fun t5 e => ?_) 1000000 (v1, v2, 0) _ et5o e
  refine seg_Bg (pc' := 79) (lv' := [(0, .ref 9), (1, .int v1), (2, .int v2), (3, .int t5.1), (4, .int t5.2.1), (5, .int t5.2.2)]) (st' := [.int t5.1, .ref 9]) (lay' := LY88) (h' := h) 2 rfl ?_
  refine call_Bg (a := 129) (la := [(0, .ref 9), (1, .int t5.1)]) (np := 82) (lv' := [(0, .ref 9), (1, .int v1), (2, .int v2), (3, .int t5.1), (4, .int t5.2.1), (5, .int t5.2.2)]) (rest := []) (res := fun r => ([.int r], LY88, h)) rfl e (fun r e => BJwy_firstLetterOf L xs t5.1 h r e) (fun c6 e => ?_)
  show Bg L xs 128 82 [(0, .ref 9), (1, .int v1), (2, .int v2), (3, .int t5.1), (4, .int t5.2.1), (5, .int t5.2.2)] [.int c6] LY88 h R
  rw [hR, ← Option.some.inj e]; exact ret_Bg rfl

set_option maxRecDepth 100000 in
theorem BJyn_spell (L : Nat) (xs : Nat → Int32) (v1 : Int32) (v2 : Int32) (h : Hp) (o : Int32 × Hp) (e : Jyn_spell v1 v2 h = some o) : Bg L xs 138 0 [(0, .ref 0), (1, .int v1), (2, .int v2)] [] LY88 h ([.int o.1], LY88, o.2) := by
  obtain ⟨R, hR⟩ : ∃ R : List Value × Lay × Hp, R = ([.int o.1], LY88, o.2) := ⟨_, rfl⟩
  rw [← hR]
  refine seg_Bg (pc' := 1) (lv' := [(0, .ref 0), (1, .int v1), (2, .int v2)]) (st' := [.int v1]) (lay' := LY88) (h' := h) 1 rfl ?_
  refine call_Bg (a := 158) (la := [(0, .int v1)]) (np := 4) (lv' := [(0, .ref 0), (1, .int v1), (2, .int v2)]) (rest := []) (res := fun r => ([.int r], LY88, h)) rfl e (fun r e => BJyn_isCode L xs v1 LY88 h r e) (fun c1 e => ?_)
  show Bg L xs 138 4 [(0, .ref 0), (1, .int v1), (2, .int v2)] [.int c1] LY88 h R
  refine seg_Bg (pc' := (if c1 = 0 then 11 else 7)) (lv' := [(0, .ref 0), (1, .int v1), (2, .int v2)]) (st' := []) (lay' := LY88) (h' := h) 1 rfl ?_
  refine pc_ite e (fun e => ?_) (fun e => ?_)
  · refine seg_Bg (pc' := 13) (lv' := [(0, .ref 0), (1, .int v1), (2, .int v2)]) (st' := [.int (-1000000002)]) (lay' := LY88) (h' := h) 1 rfl ?_
    rw [hR, ← Option.some.inj e]; exact ret_Bg rfl
  · refine seg_Bg (pc' := (if v2 < 0 then 11 else 14)) (lv' := [(0, .ref 0), (1, .int v1), (2, .int v2)]) (st' := []) (lay' := LY88) (h' := h) 2 rfl ?_
    refine pc_ite e (fun e => ?_) (fun e => ?_)
    · refine seg_Bg (pc' := 13) (lv' := [(0, .ref 0), (1, .int v1), (2, .int v2)]) (st' := [.int (-1000000002)]) (lay' := LY88) (h' := h) 1 rfl ?_
      rw [hR, ← Option.some.inj e]; exact ret_Bg rfl
    · refine seg_Bg (pc' := 15) (lv' := [(0, .ref 0), (1, .int v1), (2, .int v2)]) (st' := [.ref 0]) (lay' := LY88) (h' := h) 1 rfl ?_
      refine call_Bg (a := 163) (la := [(0, .ref 0)]) (np := 18) (lv' := [(0, .ref 0), (1, .int v1), (2, .int v2)]) (rest := []) (res := fun r => ([.ref 10], LY88, r)) rfl e (fun r e => BJyn_reckoned L xs h r e) (fun c2 e => ?_)
      show Bg L xs 138 18 [(0, .ref 0), (1, .int v1), (2, .int v2)] [.ref 10] LY88 c2 R
      refine seg_Bg (pc' := 25) (lv' := [(0, .ref 0), (1, .int v1), (2, .int v2)]) (st' := [.int v1, .ref 9, .int v2]) (lay' := LY88) (h' := c2) 5 rfl ?_
      refine call_Bg (a := 124) (la := [(0, .ref 9), (1, .int v1)]) (np := 28) (lv' := [(0, .ref 0), (1, .int v1), (2, .int v2)]) (rest := [.int v2]) (res := fun r => ([.int r.1], LY88, r.2)) rfl e (fun r e => BJwy_lengthOf L xs v1 c2 r e) (fun c3 e => ?_)
      show Bg L xs 138 28 [(0, .ref 0), (1, .int v1), (2, .int v2)] [.int c3.1, .int v2] LY88 c3.2 R
      refine seg_Bg (pc' := (if v2 < c3.1 then 31 else 43)) (lv' := [(0, .ref 0), (1, .int v1), (2, .int v2)]) (st' := []) (lay' := LY88) (h' := c3.2) 1 rfl ?_
      refine pc_ite e (fun e => ?_) (fun e => ?_)
      · refine seg_Bg (pc' := 37) (lv' := [(0, .ref 0), (1, .int v1), (2, .int v2)]) (st' := [.int v2, .int v1, .ref 9]) (lay' := LY88) (h' := c3.2) 4 rfl ?_
        refine call_Bg (a := 128) (la := [(0, .ref 9), (1, .int v1), (2, .int v2)]) (np := 40) (lv' := [(0, .ref 0), (1, .int v1), (2, .int v2)]) (rest := []) (res := fun r => ([.int r], LY88, c3.2)) rfl e (fun r e => BJwy_letterOf L xs v1 v2 c3.2 r e) (fun c4 e => ?_)
        show Bg L xs 138 40 [(0, .ref 0), (1, .int v1), (2, .int v2)] [.int c4] LY88 c3.2 R
        refine seg_Bg (pc' := 44) (lv' := [(0, .ref 0), (1, .int v1), (2, .int v2)]) (st' := [.int c4]) (lay' := LY88) (h' := c3.2) 1 rfl ?_
        rw [hR, ← Option.some.inj e]; exact ret_Bg rfl
      · refine seg_Bg (pc' := 44) (lv' := [(0, .ref 0), (1, .int v1), (2, .int v2)]) (st' := [.int (-1)]) (lay' := LY88) (h' := c3.2) 1 rfl ?_
        rw [hR, ← Option.some.inj e]; exact ret_Bg rfl

set_option maxRecDepth 100000 in
theorem BJm_letterOf (L : Nat) (xs : Nat → Int32) (v0 : Int32) (lay : Lay) (h : Hp) (o : Int32) (e : Jm_letterOf v0 = some o) : Bg L xs 229 0 [(0, .int v0)] [] lay h ([.int o], lay, h) := by
  obtain ⟨R, hR⟩ : ∃ R : List Value × Lay × Hp, R = ([.int o], lay, h) := ⟨_, rfl⟩
  rw [← hR]
  refine seg_Bg (pc' := (if v0 = 240 then 7 else 12)) (lv' := [(0, .int v0)]) (st' := []) (lay' := lay) (h' := h) 3 rfl ?_
  refine pc_ite e (fun e => ?_) (fun e => ?_)
  · refine seg_Bg (pc' := 26) (lv' := [(0, .int v0)]) (st' := [.int 97]) (lay' := lay) (h' := h) 2 rfl ?_
    rw [hR, ← Option.some.inj e]; exact ret_Bg rfl
  · refine seg_Bg (pc' := (if v0 = 204 then 19 else 24)) (lv' := [(0, .int v0)]) (st' := []) (lay' := lay) (h' := h) 3 rfl ?_
    refine pc_ite e (fun e => ?_) (fun e => ?_)
    · refine seg_Bg (pc' := 26) (lv' := [(0, .int v0)]) (st' := [.int 98]) (lay' := lay) (h' := h) 2 rfl ?_
      rw [hR, ← Option.some.inj e]; exact ret_Bg rfl
    · refine seg_Bg (pc' := 26) (lv' := [(0, .int v0)]) (st' := [.int 99]) (lay' := lay) (h' := h) 1 rfl ?_
      rw [hR, ← Option.some.inj e]; exact ret_Bg rfl

set_option maxRecDepth 100000 in
theorem BJm_spell_L69_s (L : Nat) (xs : Nat → Int32) (v1 v2 v3 : Int32) (h : Hp) (R : List Value × Lay × Hp) (v4 v5 : Int32) (o : ((Int32 × Int32) ⊕ (Int32 × Int32))) (hH : ∀ s : Int32 × Int32, o = .inl s → Bg L xs 230 69 [(0, .ref 37), (1, .int v1), (2, .int v2), (3, .int v3), (4, .int s.1), (5, .int s.2)] [] LY88 h R) (hE : ∀ t : Int32 × Int32, o = .inr t → Bg L xs 230 117 [(0, .ref 37), (1, .int v1), (2, .int v2), (3, .int v3), (4, .int t.1), (5, .int t.2)] [] LY88 h R) (e : Jm_spell_L69 v1 v2 v3 h v4 v5 = some o) : Bg L xs 230 69 [(0, .ref 37), (1, .int v1), (2, .int v2), (3, .int v3), (4, .int v4), (5, .int v5)] [] LY88 h R := by
  refine seg_Bg (pc' := 85) (lv' := [(0, .ref 37), (1, .int v1), (2, .int v2), (3, .int v3), (4, .int v4), (5, .int v5)]) (st' := [.int (((3 : Int32) * v3) + v5), .ref 48, .ref 49, .int v4]) (lay' := LY88) (h' := h) 10 rfl ?_
  refine gd_Bg (pc' := 86) (lv' := [(0, .ref 37), (1, .int v1), (2, .int v2), (3, .int v3), (4, .int v4), (5, .int v5)]) (st' := [.int (h 48 (Int32.toNatClampNeg (((3 : Int32) * v3) + v5))), .ref 49, .int v4]) (lay' := LY88) (h' := h) (g := ibB (((3 : Int32) * v3) + v5) 768) rfl e fun e => ?_
  refine gd_Bg (pc' := 87) (lv' := [(0, .ref 37), (1, .int v1), (2, .int v2), (3, .int v3), (4, .int v4), (5, .int v5)]) (st' := [.int (h 49 (Int32.toNatClampNeg (h 48 (Int32.toNatClampNeg (((3 : Int32) * v3) + v5))))), .int v4]) (lay' := LY88) (h' := h) (g := ibB (h 48 (Int32.toNatClampNeg (((3 : Int32) * v3) + v5))) 256) rfl e fun e => ?_
  refine seg_Bg (pc' := (if v4 < (h 49 (Int32.toNatClampNeg (h 48 (Int32.toNatClampNeg (((3 : Int32) * v3) + v5))))) then 117 else 90)) (lv' := [(0, .ref 37), (1, .int v1), (2, .int v2), (3, .int v3), (4, .int v4), (5, .int v5)]) (st' := []) (lay' := LY88) (h' := h) 1 rfl ?_
  refine pc_ite e (fun e => ?_) (fun e => ?_)
  · exact hE (v4, v5) (Option.some.inj e).symm
  · refine seg_Bg (pc' := 106) (lv' := [(0, .ref 37), (1, .int v1), (2, .int v2), (3, .int v3), (4, .int v4), (5, .int v5)]) (st' := [.int (((3 : Int32) * v3) + v5), .ref 48, .ref 49, .int v4]) (lay' := LY88) (h' := h) 10 rfl ?_
    refine gd_Bg (pc' := 107) (lv' := [(0, .ref 37), (1, .int v1), (2, .int v2), (3, .int v3), (4, .int v4), (5, .int v5)]) (st' := [.int (h 48 (Int32.toNatClampNeg (((3 : Int32) * v3) + v5))), .ref 49, .int v4]) (lay' := LY88) (h' := h) (g := ibB (((3 : Int32) * v3) + v5) 768) rfl e fun e => ?_
    refine gd_Bg (pc' := 108) (lv' := [(0, .ref 37), (1, .int v1), (2, .int v2), (3, .int v3), (4, .int v4), (5, .int v5)]) (st' := [.int (h 49 (Int32.toNatClampNeg (h 48 (Int32.toNatClampNeg (((3 : Int32) * v3) + v5))))), .int v4]) (lay' := LY88) (h' := h) (g := ibB (h 48 (Int32.toNatClampNeg (((3 : Int32) * v3) + v5))) 256) rfl e fun e => ?_
    refine seg_Bg (pc' := 69) (lv' := [(0, .ref 37), (1, .int v1), (2, .int v2), (3, .int v3), (4, .int (v4 - (h 49 (Int32.toNatClampNeg (h 48 (Int32.toNatClampNeg (((3 : Int32) * v3) + v5))))))), (5, .int (v5 + 1))]) (st' := []) (lay' := LY88) (h' := h) 4 rfl ?_
    exact hH (v4 - (h 49 (Int32.toNatClampNeg (h 48 (Int32.toNatClampNeg (((3 : Int32) * v3) + v5))))), v5 + 1) (Option.some.inj e).symm
theorem BJm_spell_L69 (L : Nat) (xs : Nat → Int32) (v1 v2 v3 : Int32) (h : Hp) (R : List Value × Lay × Hp) (C : (Int32 × Int32) → Prop) (hE : ∀ t : Int32 × Int32, C t → Bg L xs 230 117 [(0, .ref 37), (1, .int v1), (2, .int v2), (3, .int v3), (4, .int t.1), (5, .int t.2)] [] LY88 h R) (n : Nat) (s : Int32 × Int32) (o : (Int32 × Int32)) (e : loopN n (fun s => Jm_spell_L69 v1 v2 v3 h s.1 s.2) s = some o) (hC : C o) : Bg L xs 230 69 [(0, .ref 37), (1, .int v1), (2, .int v2), (3, .int v3), (4, .int s.1), (5, .int s.2)] [] LY88 h R := by
  refine loop_B (fun s => Jm_spell_L69 v1 v2 v3 h s.1 s.2) (fun s : Int32 × Int32 => Bg L xs 230 69 [(0, .ref 37), (1, .int v1), (2, .int v2), (3, .int v3), (4, .int s.1), (5, .int s.2)] [] LY88 h R) C (fun s o e => ?_) n s o e hC
  intro hK
  refine BJm_spell_L69_s L xs v1 v2 v3 h R s.1 s.2 o (fun s q => by subst q; exact hK) (fun t q => by subst q; exact hE t hK) e
set_option maxRecDepth 100000 in
theorem BJm_spell_L49_s (L : Nat) (xs : Nat → Int32) (v1 v2 : Int32) (h : Hp) (R : List Value × Lay × Hp) (v3 v4 : Int32) (o : ((Int32 × Int32) ⊕ (Int32 × Int32))) (hH : ∀ s : Int32 × Int32, o = .inl s → Bg L xs 230 49 [(0, .ref 37), (1, .int v1), (2, .int v2), (3, .int s.1), (4, .int s.2)] [] LY88 h R) (hE : ∀ t : Int32 × Int32, o = .inr t → Bg L xs 230 132 [(0, .ref 37), (1, .int v1), (2, .int v2), (3, .int t.1), (4, .int t.2)] [] LY88 h R) (e : Jm_spell_L49 v1 v2 h v3 v4 = some o) : Bg L xs 230 49 [(0, .ref 37), (1, .int v1), (2, .int v2), (3, .int v3), (4, .int v4)] [] LY88 h R := by
  refine seg_Bg (pc' := 54) (lv' := [(0, .ref 37), (1, .int v1), (2, .int v2), (3, .int v3), (4, .int v4)]) (st' := [.int v3, .ref 46]) (lay' := LY88) (h' := h) 3 rfl ?_
  refine gd_Bg (pc' := 55) (lv' := [(0, .ref 37), (1, .int v1), (2, .int v2), (3, .int v3), (4, .int v4)]) (st' := [.int (h 46 (Int32.toNatClampNeg v3))]) (lay' := LY88) (h' := h) (g := ibB v3 256) rfl e fun e => ?_
  refine seg_Bg (pc' := (if 0 < (h 46 (Int32.toNatClampNeg v3)) then 58 else 132)) (lv' := [(0, .ref 37), (1, .int v1), (2, .int v2), (3, .int v3), (4, .int v4)]) (st' := []) (lay' := LY88) (h' := h) 1 rfl ?_
  refine pc_ite e (fun e => ?_) (fun e => ?_)
  · refine seg_Bg (pc' := (if 0 < v4 then 63 else 132)) (lv' := [(0, .ref 37), (1, .int v1), (2, .int v2), (3, .int v3), (4, .int v4)]) (st' := []) (lay' := LY88) (h' := h) 2 rfl ?_
    refine pc_ite e (fun e => ?_) (fun e => ?_)
    · refine seg_Bg (pc' := 69) (lv' := [(0, .ref 37), (1, .int v1), (2, .int v2), (3, .int v3), (4, .int (v4 + (-1))), (5, .int 0)]) (st' := []) (lay' := LY88) (h' := h) 3 rfl ?_
      obtain ⟨t3o, et3o, e⟩ := bd_s e
      refine BJm_spell_L69 L xs v1 v2 v3 h R (fun (t3 : Int32 × Int32) => (bif ibB (((3 : Int32) * v3) + t3.2) 768 then some (.inl (h 48 (Int32.toNatClampNeg (((3 : Int32) * v3) + t3.2)), t3.1)) else none) = some o) (fun t3 e => ?_) 1000000 (v4 + (-1), 0) _ et3o e
      refine seg_Bg (pc' := 127) (lv' := [(0, .ref 37), (1, .int v1), (2, .int v2), (3, .int v3), (4, .int t3.1), (5, .int t3.2)]) (st' := [.int (((3 : Int32) * v3) + t3.2), .ref 48]) (lay' := LY88) (h' := h) 7 rfl ?_
      refine gd_Bg (pc' := 128) (lv' := [(0, .ref 37), (1, .int v1), (2, .int v2), (3, .int v3), (4, .int t3.1), (5, .int t3.2)]) (st' := [.int (h 48 (Int32.toNatClampNeg (((3 : Int32) * v3) + t3.2)))]) (lay' := LY88) (h' := h) (g := ibB (((3 : Int32) * v3) + t3.2) 768) rfl e fun e => ?_
      refine seg_Bg (pc' := 49) (lv' := [(0, .ref 37), (1, .int v1), (2, .int v2), (3, .int (h 48 (Int32.toNatClampNeg (((3 : Int32) * v3) + t3.2)))), (4, .int t3.1), (5, .int t3.2)]) (st' := []) (lay' := LY88) (h' := h) 2 rfl ?_
      refine kp_Bg (lv' := [(0, .ref 37), (1, .int v1), (2, .int v2), (3, .int (h 48 (Int32.toNatClampNeg (((3 : Int32) * v3) + t3.2)))), (4, .int t3.1)]) rfl rfl ?_
      exact hH (h 48 (Int32.toNatClampNeg (((3 : Int32) * v3) + t3.2)), t3.1) (Option.some.inj e).symm
    · exact hE (v3, v4) (Option.some.inj e).symm
  · exact hE (v3, v4) (Option.some.inj e).symm
theorem BJm_spell_L49 (L : Nat) (xs : Nat → Int32) (v1 v2 : Int32) (h : Hp) (R : List Value × Lay × Hp) (C : (Int32 × Int32) → Prop) (hE : ∀ t : Int32 × Int32, C t → Bg L xs 230 132 [(0, .ref 37), (1, .int v1), (2, .int v2), (3, .int t.1), (4, .int t.2)] [] LY88 h R) (n : Nat) (s : Int32 × Int32) (o : (Int32 × Int32)) (e : loopN n (fun s => Jm_spell_L49 v1 v2 h s.1 s.2) s = some o) (hC : C o) : Bg L xs 230 49 [(0, .ref 37), (1, .int v1), (2, .int v2), (3, .int s.1), (4, .int s.2)] [] LY88 h R := by
  refine loop_B (fun s => Jm_spell_L49 v1 v2 h s.1 s.2) (fun s : Int32 × Int32 => Bg L xs 230 49 [(0, .ref 37), (1, .int v1), (2, .int v2), (3, .int s.1), (4, .int s.2)] [] LY88 h R) C (fun s o e => ?_) n s o e hC
  intro hK
  refine BJm_spell_L49_s L xs v1 v2 h R s.1 s.2 o (fun s q => by subst q; exact hK) (fun t q => by subst q; exact hE t hK) e
set_option maxRecDepth 100000 in
theorem BJm_spell (L : Nat) (xs : Nat → Int32) (v1 : Int32) (v2 : Int32) (h : Hp) (o : Int32 × Hp) (e : Jm_spell v1 v2 h = some o) : Bg L xs 230 0 [(0, .ref 37), (1, .int v1), (2, .int v2)] [] LY88 h ([.int o.1], LY88, o.2) := by
  obtain ⟨R, hR⟩ : ∃ R : List Value × Lay × Hp, R = ([.int o.1], LY88, o.2) := ⟨_, rfl⟩
  rw [← hR]
  refine seg_Bg (pc' := 6) (lv' := [(0, .ref 37), (1, .int v1), (2, .int v2)]) (st' := [.long 255, .long 0, .long (Int32.toInt64 v1)]) (lay' := LY88) (h' := h) 4 rfl ?_
  refine call_Bg (a := 166) (la := [(0, .long (Int32.toInt64 v1)), (2, .long 0), (4, .long 255)]) (np := 9) (lv' := [(0, .ref 37), (1, .int v1), (2, .int v2)]) (rest := []) (res := fun r => ([.int r], LY88, h)) rfl e (fun r e => BJm_in L xs (Int32.toInt64 v1) 0 255 LY88 h r e) (fun c1 e => ?_)
  show Bg L xs 230 9 [(0, .ref 37), (1, .int v1), (2, .int v2)] [.int c1] LY88 h R
  refine seg_Bg (pc' := (if c1 = 0 then 16 else 12)) (lv' := [(0, .ref 37), (1, .int v1), (2, .int v2)]) (st' := []) (lay' := LY88) (h' := h) 1 rfl ?_
  refine pc_ite e (fun e => ?_) (fun e => ?_)
  · refine seg_Bg (pc' := 18) (lv' := [(0, .ref 37), (1, .int v1), (2, .int v2)]) (st' := [.int (-1000000002)]) (lay' := LY88) (h' := h) 1 rfl ?_
    rw [hR, ← Option.some.inj e]; exact ret_Bg rfl
  · refine seg_Bg (pc' := (if v2 < 0 then 16 else 19)) (lv' := [(0, .ref 37), (1, .int v1), (2, .int v2)]) (st' := []) (lay' := LY88) (h' := h) 2 rfl ?_
    refine pc_ite e (fun e => ?_) (fun e => ?_)
    · refine seg_Bg (pc' := 18) (lv' := [(0, .ref 37), (1, .int v1), (2, .int v2)]) (st' := [.int (-1000000002)]) (lay' := LY88) (h' := h) 1 rfl ?_
      rw [hR, ← Option.some.inj e]; exact ret_Bg rfl
    · refine seg_Bg (pc' := 20) (lv' := [(0, .ref 37), (1, .int v1), (2, .int v2)]) (st' := [.ref 37]) (lay' := LY88) (h' := h) 1 rfl ?_
      refine call_Bg (a := 205) (la := [(0, .ref 37)]) (np := 23) (lv' := [(0, .ref 37), (1, .int v1), (2, .int v2)]) (rest := []) (res := fun r => ([], LY88, r)) rfl e (fun r e => BJm_layCosts L xs h r e) (fun c2 e => ?_)
      show Bg L xs 230 23 [(0, .ref 37), (1, .int v1), (2, .int v2)] [] LY88 c2 R
      refine seg_Bg (pc' := 28) (lv' := [(0, .ref 37), (1, .int v1), (2, .int v2)]) (st' := [.int v1, .ref 46]) (lay' := LY88) (h' := c2) 3 rfl ?_
      refine gd_Bg (pc' := 29) (lv' := [(0, .ref 37), (1, .int v1), (2, .int v2)]) (st' := [.int (c2 46 (Int32.toNatClampNeg v1))]) (lay' := LY88) (h' := c2) (g := ibB v1 256) rfl e fun e => ?_
      refine seg_Bg (pc' := (if (c2 46 (Int32.toNatClampNeg v1)) < 0 then 42 else 32)) (lv' := [(0, .ref 37), (1, .int v1), (2, .int v2)]) (st' := []) (lay' := LY88) (h' := c2) 1 rfl ?_
      refine pc_ite e (fun e => ?_) (fun e => ?_)
      · refine seg_Bg (pc' := 43) (lv' := [(0, .ref 37), (1, .int v1), (2, .int v2)]) (st' := [.int (-1)]) (lay' := LY88) (h' := c2) 1 rfl ?_
        rw [hR, ← Option.some.inj e]; exact ret_Bg rfl
      · refine seg_Bg (pc' := 38) (lv' := [(0, .ref 37), (1, .int v1), (2, .int v2)]) (st' := [.int v1, .ref 49, .int v2]) (lay' := LY88) (h' := c2) 4 rfl ?_
        refine gd_Bg (pc' := 39) (lv' := [(0, .ref 37), (1, .int v1), (2, .int v2)]) (st' := [.int (c2 49 (Int32.toNatClampNeg v1)), .int v2]) (lay' := LY88) (h' := c2) (g := ibB v1 256) rfl e fun e => ?_
        refine seg_Bg (pc' := (if v2 < (c2 49 (Int32.toNatClampNeg v1)) then 44 else 42)) (lv' := [(0, .ref 37), (1, .int v1), (2, .int v2)]) (st' := []) (lay' := LY88) (h' := c2) 1 rfl ?_
        refine pc_ite e (fun e => ?_) (fun e => ?_)
        · refine seg_Bg (pc' := 49) (lv' := [(0, .ref 37), (1, .int v1), (2, .int v2), (3, .int v1), (4, .int v2)]) (st' := []) (lay' := LY88) (h' := c2) 4 rfl ?_
          obtain ⟨t4o, et4o, e⟩ := bd_s e
          refine BJm_spell_L49 L xs v1 v2 c2 R (fun (t4 : Int32 × Int32) => (bif ibB t4.1 256 then if 0 < (c2 46 (Int32.toNatClampNeg t4.1)) then bif ibB t4.1 256 then some ((65 : Int32) + (c2 47 (Int32.toNatClampNeg t4.1)), c2) else none else bd (Jm_letterOf t4.1) fun c5 => some (c5, c2) else none) = some o) (fun t4 e => ?_) 1000000 (v1, v2) _ et4o e
          refine seg_Bg (pc' := 137) (lv' := [(0, .ref 37), (1, .int v1), (2, .int v2), (3, .int t4.1), (4, .int t4.2)]) (st' := [.int t4.1, .ref 46]) (lay' := LY88) (h' := c2) 3 rfl ?_
          refine gd_Bg (pc' := 138) (lv' := [(0, .ref 37), (1, .int v1), (2, .int v2), (3, .int t4.1), (4, .int t4.2)]) (st' := [.int (c2 46 (Int32.toNatClampNeg t4.1))]) (lay' := LY88) (h' := c2) (g := ibB t4.1 256) rfl e fun e => ?_
          refine seg_Bg (pc' := (if 0 < (c2 46 (Int32.toNatClampNeg t4.1)) then 141 else 153)) (lv' := [(0, .ref 37), (1, .int v1), (2, .int v2), (3, .int t4.1), (4, .int t4.2)]) (st' := []) (lay' := LY88) (h' := c2) 1 rfl ?_
          refine pc_ite e (fun e => ?_) (fun e => ?_)
          · refine seg_Bg (pc' := 148) (lv' := [(0, .ref 37), (1, .int v1), (2, .int v2), (3, .int t4.1), (4, .int t4.2)]) (st' := [.int t4.1, .ref 47, .int 65]) (lay' := LY88) (h' := c2) 4 rfl ?_
            refine gd_Bg (pc' := 149) (lv' := [(0, .ref 37), (1, .int v1), (2, .int v2), (3, .int t4.1), (4, .int t4.2)]) (st' := [.int (c2 47 (Int32.toNatClampNeg t4.1)), .int 65]) (lay' := LY88) (h' := c2) (g := ibB t4.1 256) rfl e fun e => ?_
            refine seg_Bg (pc' := 157) (lv' := [(0, .ref 37), (1, .int v1), (2, .int v2), (3, .int t4.1), (4, .int t4.2)]) (st' := [.int ((65 : Int32) + (c2 47 (Int32.toNatClampNeg t4.1)))]) (lay' := LY88) (h' := c2) 2 rfl ?_
            rw [hR, ← Option.some.inj e]; exact ret_Bg rfl
          · refine seg_Bg (pc' := 154) (lv' := [(0, .ref 37), (1, .int v1), (2, .int v2), (3, .int t4.1), (4, .int t4.2)]) (st' := [.int t4.1]) (lay' := LY88) (h' := c2) 1 rfl ?_
            refine call_Bg (a := 229) (la := [(0, .int t4.1)]) (np := 157) (lv' := [(0, .ref 37), (1, .int v1), (2, .int v2), (3, .int t4.1), (4, .int t4.2)]) (rest := []) (res := fun r => ([.int r], LY88, c2)) rfl e (fun r e => BJm_letterOf L xs t4.1 LY88 c2 r e) (fun c5 e => ?_)
            show Bg L xs 230 157 [(0, .ref 37), (1, .int v1), (2, .int v2), (3, .int t4.1), (4, .int t4.2)] [.int c5] LY88 c2 R
            rw [hR, ← Option.some.inj e]; exact ret_Bg rfl
        · refine seg_Bg (pc' := 43) (lv' := [(0, .ref 37), (1, .int v1), (2, .int v2)]) (st' := [.int (-1)]) (lay' := LY88) (h' := c2) 1 rfl ?_
          rw [hR, ← Option.some.inj e]; exact ret_Bg rfl

set_option maxRecDepth 100000 in
theorem BJcs_countCosting (L : Nat) (xs : Nat → Int32) (v1 : Int32) (h : Hp) (o : Int32) (e : Jcs_countCosting v1 h = some o) : Bg L xs 34 0 [(0, .ref 10), (1, .int v1)] [] LY88 h ([.int o], LY88, h) := by
  obtain ⟨R, hR⟩ : ∃ R : List Value × Lay × Hp, R = ([.int o], LY88, h) := ⟨_, rfl⟩
  rw [← hR]
  refine seg_Bg (pc' := 3) (lv' := [(0, .ref 10), (1, .int v1)]) (st' := [.int 1, .int v1, .ref 10]) (lay' := LY88) (h' := h) 3 rfl ?_
  refine call_Bg (a := 29) (la := [(0, .ref 10), (1, .int v1), (2, .int 1)]) (np := 6) (lv' := [(0, .ref 10), (1, .int v1)]) (rest := []) (res := fun r => ([.int r], LY88, h)) rfl e (fun r e => BJcs_partsTo L xs v1 1 h r e) (fun c1 e => ?_)
  show Bg L xs 34 6 [(0, .ref 10), (1, .int v1)] [.int c1] LY88 h R
  refine seg_Bg (pc' := 9) (lv' := [(0, .ref 10), (1, .int v1)]) (st' := [.int 1, .int v1, .ref 10, .int c1]) (lay' := LY88) (h' := h) 3 rfl ?_
  refine call_Bg (a := 28) (la := [(0, .ref 10), (1, .int v1), (2, .int 1)]) (np := 12) (lv' := [(0, .ref 10), (1, .int v1)]) (rest := [.int c1]) (res := fun r => ([.int r], LY88, h)) rfl e (fun r e => BJcs_partsFrom L xs v1 1 h r e) (fun c2 e => ?_)
  show Bg L xs 34 12 [(0, .ref 10), (1, .int v1)] [.int c2, .int c1] LY88 h R
  refine seg_Bg (pc' := 13) (lv' := [(0, .ref 10), (1, .int v1)]) (st' := [.int (c1 - c2)]) (lay' := LY88) (h' := h) 1 rfl ?_
  rw [hR, ← Option.some.inj e]; exact ret_Bg rfl

set_option maxRecDepth 100000 in
theorem BJyn_costing (L : Nat) (xs : Nat → Int32) (v1 : Int32) (h : Hp) (o : Int32 × Hp) (e : Jyn_costing v1 h = some o) : Bg L xs 139 0 [(0, .ref 0), (1, .int v1)] [] LY88 h ([.int o.1], LY88, o.2) := by
  obtain ⟨R, hR⟩ : ∃ R : List Value × Lay × Hp, R = ([.int o.1], LY88, o.2) := ⟨_, rfl⟩
  rw [← hR]
  refine seg_Bg (pc' := (if v1 < 0 then 4 else 9)) (lv' := [(0, .ref 0), (1, .int v1)]) (st' := []) (lay' := LY88) (h' := h) 2 rfl ?_
  refine pc_ite e (fun e => ?_) (fun e => ?_)
  · refine seg_Bg (pc' := 17) (lv' := [(0, .ref 0), (1, .int v1)]) (st' := [.int (-1000000002)]) (lay' := LY88) (h' := h) 2 rfl ?_
    rw [hR, ← Option.some.inj e]; exact ret_Bg rfl
  · refine seg_Bg (pc' := 10) (lv' := [(0, .ref 0), (1, .int v1)]) (st' := [.ref 0]) (lay' := LY88) (h' := h) 1 rfl ?_
    refine call_Bg (a := 163) (la := [(0, .ref 0)]) (np := 13) (lv' := [(0, .ref 0), (1, .int v1)]) (rest := []) (res := fun r => ([.ref 10], LY88, r)) rfl e (fun r e => BJyn_reckoned L xs h r e) (fun c1 e => ?_)
    show Bg L xs 139 13 [(0, .ref 0), (1, .int v1)] [.ref 10] LY88 c1 R
    refine seg_Bg (pc' := 14) (lv' := [(0, .ref 0), (1, .int v1)]) (st' := [.int v1, .ref 10]) (lay' := LY88) (h' := c1) 1 rfl ?_
    refine call_Bg (a := 34) (la := [(0, .ref 10), (1, .int v1)]) (np := 17) (lv' := [(0, .ref 0), (1, .int v1)]) (rest := []) (res := fun r => ([.int r], LY88, c1)) rfl e (fun r e => BJcs_countCosting L xs v1 c1 r e) (fun c2 e => ?_)
    show Bg L xs 139 17 [(0, .ref 0), (1, .int v1)] [.int c2] LY88 c1 R
    rw [hR, ← Option.some.inj e]; exact ret_Bg rfl

set_option maxRecDepth 100000 in
theorem BJm_costing_L15_s (L : Nat) (xs : Nat → Int32) (v1 : Int32) (h : Hp) (R : List Value × Lay × Hp) (v2 v3 : Int32) (o : ((Int32 × Int32) ⊕ (Int32 × Int32))) (hH : ∀ s : Int32 × Int32, o = .inl s → Bg L xs 231 15 [(0, .ref 37), (1, .int v1), (2, .int s.1), (3, .int s.2)] [] LY88 h R) (hE : ∀ t : Int32 × Int32, o = .inr t → Bg L xs 231 46 [(0, .ref 37), (1, .int v1), (2, .int t.1), (3, .int t.2)] [] LY88 h R) (e : Jm_costing_L15 v1 h v2 v3 = some o) : Bg L xs 231 15 [(0, .ref 37), (1, .int v1), (2, .int v2), (3, .int v3)] [] LY88 h R := by
  refine seg_Bg (pc' := (if v3 < 256 then 22 else 46)) (lv' := [(0, .ref 37), (1, .int v1), (2, .int v2), (3, .int v3)]) (st' := []) (lay' := LY88) (h' := h) 3 rfl ?_
  refine pc_ite e (fun e => ?_) (fun e => ?_)
  · refine seg_Bg (pc' := 28) (lv' := [(0, .ref 37), (1, .int v1), (2, .int v2), (3, .int v3)]) (st' := [.int v3, .ref 46, .int v2]) (lay' := LY88) (h' := h) 4 rfl ?_
    refine gd_Bg (pc' := 29) (lv' := [(0, .ref 37), (1, .int v1), (2, .int v2), (3, .int v3)]) (st' := [.int (h 46 (Int32.toNatClampNeg v3)), .int v2]) (lay' := LY88) (h' := h) (g := ibB v3 256) rfl e fun e => ?_
    refine seg_Bg (pc' := (if (h 46 (Int32.toNatClampNeg v3)) = v1 then 33 else 37)) (lv' := [(0, .ref 37), (1, .int v1), (2, .int v2), (3, .int v3)]) (st' := [.int v2]) (lay' := LY88) (h' := h) 2 rfl ?_
    refine pc_ite e (fun e => ?_) (fun e => ?_)
    · refine seg_Bg (pc' := 15) (lv' := [(0, .ref 37), (1, .int v1), (2, .int (v2 + (1 : Int32))), (3, .int (v3 + 1))]) (st' := []) (lay' := LY88) (h' := h) 6 rfl ?_
      exact hH (v2 + (1 : Int32), v3 + 1) (Option.some.inj e).symm
    · refine seg_Bg (pc' := 15) (lv' := [(0, .ref 37), (1, .int v1), (2, .int (v2 + (0 : Int32))), (3, .int (v3 + 1))]) (st' := []) (lay' := LY88) (h' := h) 5 rfl ?_
      exact hH (v2 + (0 : Int32), v3 + 1) (Option.some.inj e).symm
  · exact hE (v2, v3) (Option.some.inj e).symm
theorem BJm_costing_L15 (L : Nat) (xs : Nat → Int32) (v1 : Int32) (h : Hp) (R : List Value × Lay × Hp) (C : (Int32 × Int32) → Prop) (hE : ∀ t : Int32 × Int32, C t → Bg L xs 231 46 [(0, .ref 37), (1, .int v1), (2, .int t.1), (3, .int t.2)] [] LY88 h R) (n : Nat) (s : Int32 × Int32) (o : (Int32 × Int32)) (e : loopN n (fun s => Jm_costing_L15 v1 h s.1 s.2) s = some o) (hC : C o) : Bg L xs 231 15 [(0, .ref 37), (1, .int v1), (2, .int s.1), (3, .int s.2)] [] LY88 h R := by
  refine loop_B (fun s => Jm_costing_L15 v1 h s.1 s.2) (fun s : Int32 × Int32 => Bg L xs 231 15 [(0, .ref 37), (1, .int v1), (2, .int s.1), (3, .int s.2)] [] LY88 h R) C (fun s o e => ?_) n s o e hC
  intro hK
  refine BJm_costing_L15_s L xs v1 h R s.1 s.2 o (fun s q => by subst q; exact hK) (fun t q => by subst q; exact hE t hK) e
set_option maxRecDepth 100000 in
theorem BJm_costing (L : Nat) (xs : Nat → Int32) (v1 : Int32) (h : Hp) (o : Int32 × Hp) (e : Jm_costing v1 h = some o) : Bg L xs 231 0 [(0, .ref 37), (1, .int v1)] [] LY88 h ([.int o.1], LY88, o.2) := by
  obtain ⟨R, hR⟩ : ∃ R : List Value × Lay × Hp, R = ([.int o.1], LY88, o.2) := ⟨_, rfl⟩
  rw [← hR]
  refine seg_Bg (pc' := (if v1 < 0 then 4 else 7)) (lv' := [(0, .ref 37), (1, .int v1)]) (st' := []) (lay' := LY88) (h' := h) 2 rfl ?_
  refine pc_ite e (fun e => ?_) (fun e => ?_)
  · refine seg_Bg (pc' := 6) (lv' := [(0, .ref 37), (1, .int v1)]) (st' := [.int (-1000000002)]) (lay' := LY88) (h' := h) 1 rfl ?_
    rw [hR, ← Option.some.inj e]; exact ret_Bg rfl
  · refine seg_Bg (pc' := 8) (lv' := [(0, .ref 37), (1, .int v1)]) (st' := [.ref 37]) (lay' := LY88) (h' := h) 1 rfl ?_
    refine call_Bg (a := 205) (la := [(0, .ref 37)]) (np := 11) (lv' := [(0, .ref 37), (1, .int v1)]) (rest := []) (res := fun r => ([], LY88, r)) rfl e (fun r e => BJm_layCosts L xs h r e) (fun c1 e => ?_)
    show Bg L xs 231 11 [(0, .ref 37), (1, .int v1)] [] LY88 c1 R
    refine seg_Bg (pc' := 15) (lv' := [(0, .ref 37), (1, .int v1), (2, .int 0), (3, .int 0)]) (st' := []) (lay' := LY88) (h' := c1) 4 rfl ?_
    obtain ⟨t2o, et2o, e⟩ := bd_s e
    refine BJm_costing_L15 L xs v1 c1 R (fun (t2 : Int32 × Int32) => (some (t2.1, c1)) = some o) (fun t2 e => ?_) 1000000 (0, 0) _ et2o e
    refine seg_Bg (pc' := 47) (lv' := [(0, .ref 37), (1, .int v1), (2, .int t2.1), (3, .int t2.2)]) (st' := [.int t2.1]) (lay' := LY88) (h' := c1) 1 rfl ?_
    rw [hR, ← Option.some.inj e]; exact ret_Bg rfl

set_option maxRecDepth 100000 in
theorem BJpl_holds (L : Nat) (xs : Nat → Int32) (v1 : Int32) (h : Hp) (o : Int32) (e : Jpl_holds v1 h = some o) : Bg L xs 64 0 [(0, .ref 4), (1, .int v1)] [] LY88 h ([.int o], LY88, h) := by
  obtain ⟨R, hR⟩ : ∃ R : List Value × Lay × Hp, R = ([.int o], LY88, h) := ⟨_, rfl⟩
  rw [← hR]
  refine seg_Bg (pc' := (if v1 < 0 then 23 else 4)) (lv' := [(0, .ref 4), (1, .int v1)]) (st' := []) (lay' := LY88) (h' := h) 2 rfl ?_
  refine pc_ite e (fun e => ?_) (fun e => ?_)
  · refine seg_Bg (pc' := 24) (lv' := [(0, .ref 4), (1, .int v1)]) (st' := [.int 0]) (lay' := LY88) (h' := h) 1 rfl ?_
    rw [hR, ← Option.some.inj e]; exact ret_Bg rfl
  · refine seg_Bg (pc' := (if v1 < (h 4 4) then 12 else 23)) (lv' := [(0, .ref 4), (1, .int v1)]) (st' := []) (lay' := LY88) (h' := h) 4 rfl ?_
    refine pc_ite e (fun e => ?_) (fun e => ?_)
    · refine seg_Bg (pc' := (if v1 < 4096 then 19 else 23)) (lv' := [(0, .ref 4), (1, .int v1)]) (st' := []) (lay' := LY88) (h' := h) 3 rfl ?_
      refine pc_ite e (fun e => ?_) (fun e => ?_)
      · refine seg_Bg (pc' := 24) (lv' := [(0, .ref 4), (1, .int v1)]) (st' := [.int 1]) (lay' := LY88) (h' := h) 2 rfl ?_
        rw [hR, ← Option.some.inj e]; exact ret_Bg rfl
      · refine seg_Bg (pc' := 24) (lv' := [(0, .ref 4), (1, .int v1)]) (st' := [.int 0]) (lay' := LY88) (h' := h) 1 rfl ?_
        rw [hR, ← Option.some.inj e]; exact ret_Bg rfl
    · refine seg_Bg (pc' := 24) (lv' := [(0, .ref 4), (1, .int v1)]) (st' := [.int 0]) (lay' := LY88) (h' := h) 1 rfl ?_
      rw [hR, ← Option.some.inj e]; exact ret_Bg rfl

set_option maxRecDepth 100000 in
theorem BJpl_setOf (L : Nat) (xs : Nat → Int32) (v1 : Int32) (h : Hp) (o : Int32) (e : Jpl_setOf v1 h = some o) : Bg L xs 66 0 [(0, .ref 4), (1, .int v1)] [] LY88 h ([.int o], LY88, h) := by
  obtain ⟨R, hR⟩ : ∃ R : List Value × Lay × Hp, R = ([.int o], LY88, h) := ⟨_, rfl⟩
  rw [← hR]
  refine seg_Bg (pc' := 2) (lv' := [(0, .ref 4), (1, .int v1)]) (st' := [.int v1, .ref 4]) (lay' := LY88) (h' := h) 2 rfl ?_
  refine call_Bg (a := 64) (la := [(0, .ref 4), (1, .int v1)]) (np := 5) (lv' := [(0, .ref 4), (1, .int v1)]) (rest := []) (res := fun r => ([.int r], LY88, h)) rfl e (fun r e => BJpl_holds L xs v1 h r e) (fun c1 e => ?_)
  show Bg L xs 66 5 [(0, .ref 4), (1, .int v1)] [.int c1] LY88 h R
  refine seg_Bg (pc' := (if c1 = 0 then 17 else 8)) (lv' := [(0, .ref 4), (1, .int v1)]) (st' := []) (lay' := LY88) (h' := h) 1 rfl ?_
  refine pc_ite e (fun e => ?_) (fun e => ?_)
  · refine seg_Bg (pc' := 20) (lv' := [(0, .ref 4), (1, .int v1)]) (st' := [.int 4095]) (lay' := LY88) (h' := h) 1 rfl ?_
    rw [hR, ← Option.some.inj e]; exact ret_Bg rfl
  · refine seg_Bg (pc' := 13) (lv' := [(0, .ref 4), (1, .int v1)]) (st' := [.int v1, .ref 6]) (lay' := LY88) (h' := h) 3 rfl ?_
    refine gd_Bg (pc' := 14) (lv' := [(0, .ref 4), (1, .int v1)]) (st' := [.int (h 6 (Int32.toNatClampNeg v1))]) (lay' := LY88) (h' := h) (g := ibB v1 4096) rfl e fun e => ?_
    refine seg_Bg (pc' := 20) (lv' := [(0, .ref 4), (1, .int v1)]) (st' := [.int (h 6 (Int32.toNatClampNeg v1))]) (lay' := LY88) (h' := h) 1 rfl ?_
    rw [hR, ← Option.some.inj e]; exact ret_Bg rfl

set_option maxRecDepth 100000 in
theorem BJpl_countIn_L4_s (L : Nat) (xs : Nat → Int32) (v1 : Int32) (h : Hp) (R : List Value × Lay × Hp) (v2 v3 : Int32) (o : ((Int32 × Int32) ⊕ (Int32 × Int32))) (hH : ∀ s : Int32 × Int32, o = .inl s → Bg L xs 70 4 [(0, .ref 4), (1, .int v1), (2, .int s.1), (3, .int s.2)] [] LY88 h R) (hE : ∀ t : Int32 × Int32, o = .inr t → Bg L xs 70 29 [(0, .ref 4), (1, .int v1), (2, .int t.1), (3, .int t.2)] [] LY88 h R) (e : Jpl_countIn_L4 v1 h v2 v3 = some o) : Bg L xs 70 4 [(0, .ref 4), (1, .int v1), (2, .int v2), (3, .int v3)] [] LY88 h R := by
  refine seg_Bg (pc' := (if v3 < 256 then 11 else 29)) (lv' := [(0, .ref 4), (1, .int v1), (2, .int v2), (3, .int v3)]) (st' := []) (lay' := LY88) (h' := h) 3 rfl ?_
  refine pc_ite e (fun e => ?_) (fun e => ?_)
  · refine seg_Bg (pc' := 14) (lv' := [(0, .ref 4), (1, .int v1), (2, .int v2), (3, .int v3)]) (st' := [.int v1, .int v3, .ref 4]) (lay' := LY88) (h' := h) 3 rfl ?_
    refine call_Bg (a := 69) (la := [(0, .ref 4), (1, .int v3), (2, .int v1)]) (np := 17) (lv' := [(0, .ref 4), (1, .int v1), (2, .int v2), (3, .int v3)]) (rest := []) (res := fun r => ([.int r], LY88, h)) rfl e (fun r e => BJpl_isIn L xs v3 v1 h r e) (fun c1 e => ?_)
    show Bg L xs 70 17 [(0, .ref 4), (1, .int v1), (2, .int v2), (3, .int v3)] [.int c1] LY88 h R
    refine seg_Bg (pc' := (if c1 = 0 then 23 else 20)) (lv' := [(0, .ref 4), (1, .int v1), (2, .int v2), (3, .int v3)]) (st' := []) (lay' := LY88) (h' := h) 1 rfl ?_
    refine pc_ite e (fun e => ?_) (fun e => ?_)
    · refine seg_Bg (pc' := 4) (lv' := [(0, .ref 4), (1, .int v1), (2, .int v2), (3, .int (v3 + 1))]) (st' := []) (lay' := LY88) (h' := h) 2 rfl ?_
      exact hH (v2, v3 + 1) (Option.some.inj e).symm
    · refine seg_Bg (pc' := 4) (lv' := [(0, .ref 4), (1, .int v1), (2, .int (v2 + 1)), (3, .int (v3 + 1))]) (st' := []) (lay' := LY88) (h' := h) 3 rfl ?_
      exact hH (v2 + 1, v3 + 1) (Option.some.inj e).symm
  · exact hE (v2, v3) (Option.some.inj e).symm
theorem BJpl_countIn_L4 (L : Nat) (xs : Nat → Int32) (v1 : Int32) (h : Hp) (R : List Value × Lay × Hp) (C : (Int32 × Int32) → Prop) (hE : ∀ t : Int32 × Int32, C t → Bg L xs 70 29 [(0, .ref 4), (1, .int v1), (2, .int t.1), (3, .int t.2)] [] LY88 h R) (n : Nat) (s : Int32 × Int32) (o : (Int32 × Int32)) (e : loopN n (fun s => Jpl_countIn_L4 v1 h s.1 s.2) s = some o) (hC : C o) : Bg L xs 70 4 [(0, .ref 4), (1, .int v1), (2, .int s.1), (3, .int s.2)] [] LY88 h R := by
  refine loop_B (fun s => Jpl_countIn_L4 v1 h s.1 s.2) (fun s : Int32 × Int32 => Bg L xs 70 4 [(0, .ref 4), (1, .int v1), (2, .int s.1), (3, .int s.2)] [] LY88 h R) C (fun s o e => ?_) n s o e hC
  intro hK
  refine BJpl_countIn_L4_s L xs v1 h R s.1 s.2 o (fun s q => by subst q; exact hK) (fun t q => by subst q; exact hE t hK) e
set_option maxRecDepth 100000 in
theorem BJpl_countIn (L : Nat) (xs : Nat → Int32) (v1 : Int32) (h : Hp) (o : Int32) (e : Jpl_countIn v1 h = some o) : Bg L xs 70 0 [(0, .ref 4), (1, .int v1)] [] LY88 h ([.int o], LY88, h) := by
  obtain ⟨R, hR⟩ : ∃ R : List Value × Lay × Hp, R = ([.int o], LY88, h) := ⟨_, rfl⟩
  rw [← hR]
  refine seg_Bg (pc' := 4) (lv' := [(0, .ref 4), (1, .int v1), (2, .int 0), (3, .int 0)]) (st' := []) (lay' := LY88) (h' := h) 4 rfl ?_
  obtain ⟨t2o, et2o, e⟩ := bd_s e
  refine BJpl_countIn_L4 L xs v1 h R (fun (t2 : Int32 × Int32) => (some t2.1) = some o) (fun t2 e => ?_) 1000000 (0, 0) _ et2o e
  refine seg_Bg (pc' := 30) (lv' := [(0, .ref 4), (1, .int v1), (2, .int t2.1), (3, .int t2.2)]) (st' := [.int t2.1]) (lay' := LY88) (h' := h) 1 rfl ?_
  rw [hR, ← Option.some.inj e]; exact ret_Bg rfl

set_option maxRecDepth 100000 in
theorem BJpl_isAbove (L : Nat) (xs : Nat → Int32) (v1 : Int32) (v2 : Int32) (h : Hp) (o : Int32) (e : Jpl_isAbove v1 v2 h = some o) : Bg L xs 76 0 [(0, .ref 4), (1, .int v1), (2, .int v2)] [] LY88 h ([.int o], LY88, h) := by
  obtain ⟨R, hR⟩ : ∃ R : List Value × Lay × Hp, R = ([.int o], LY88, h) := ⟨_, rfl⟩
  rw [← hR]
  refine seg_Bg (pc' := 2) (lv' := [(0, .ref 4), (1, .int v1), (2, .int v2)]) (st' := [.int v1, .ref 4]) (lay' := LY88) (h' := h) 2 rfl ?_
  refine call_Bg (a := 66) (la := [(0, .ref 4), (1, .int v1)]) (np := 5) (lv' := [(0, .ref 4), (1, .int v1), (2, .int v2)]) (rest := []) (res := fun r => ([.int r], LY88, h)) rfl e (fun r e => BJpl_setOf L xs v1 h r e) (fun c1 e => ?_)
  show Bg L xs 76 5 [(0, .ref 4), (1, .int v1), (2, .int v2)] [.int c1] LY88 h R
  refine seg_Bg (pc' := 7) (lv' := [(0, .ref 4), (1, .int v1), (2, .int v2)]) (st' := [.int v2, .ref 4, .int c1]) (lay' := LY88) (h' := h) 2 rfl ?_
  refine call_Bg (a := 66) (la := [(0, .ref 4), (1, .int v2)]) (np := 10) (lv' := [(0, .ref 4), (1, .int v1), (2, .int v2)]) (rest := [.int c1]) (res := fun r => ([.int r], LY88, h)) rfl e (fun r e => BJpl_setOf L xs v2 h r e) (fun c2 e => ?_)
  show Bg L xs 76 10 [(0, .ref 4), (1, .int v1), (2, .int v2)] [.int c2, .int c1] LY88 h R
  refine seg_Bg (pc' := (if c1 = c2 then 33 else 13)) (lv' := [(0, .ref 4), (1, .int v1), (2, .int v2)]) (st' := []) (lay' := LY88) (h' := h) 1 rfl ?_
  refine pc_ite e (fun e => ?_) (fun e => ?_)
  · refine seg_Bg (pc' := 34) (lv' := [(0, .ref 4), (1, .int v1), (2, .int v2)]) (st' := [.int 0]) (lay' := LY88) (h' := h) 1 rfl ?_
    rw [hR, ← Option.some.inj e]; exact ret_Bg rfl
  · refine seg_Bg (pc' := 15) (lv' := [(0, .ref 4), (1, .int v1), (2, .int v2)]) (st' := [.int v1, .ref 4]) (lay' := LY88) (h' := h) 2 rfl ?_
    refine call_Bg (a := 66) (la := [(0, .ref 4), (1, .int v1)]) (np := 18) (lv' := [(0, .ref 4), (1, .int v1), (2, .int v2)]) (rest := []) (res := fun r => ([.int r], LY88, h)) rfl e (fun r e => BJpl_setOf L xs v1 h r e) (fun c3 e => ?_)
    show Bg L xs 76 18 [(0, .ref 4), (1, .int v1), (2, .int v2)] [.int c3] LY88 h R
    refine seg_Bg (pc' := 20) (lv' := [(0, .ref 4), (1, .int v1), (2, .int v2)]) (st' := [.int v2, .ref 4, .int c3]) (lay' := LY88) (h' := h) 2 rfl ?_
    refine call_Bg (a := 66) (la := [(0, .ref 4), (1, .int v2)]) (np := 23) (lv' := [(0, .ref 4), (1, .int v1), (2, .int v2)]) (rest := [.int c3]) (res := fun r => ([.int r], LY88, h)) rfl e (fun r e => BJpl_setOf L xs v2 h r e) (fun c4 e => ?_)
    show Bg L xs 76 23 [(0, .ref 4), (1, .int v1), (2, .int v2)] [.int c4, .int c3] LY88 h R
    refine seg_Bg (pc' := (if (c3 &&& (c4 ^^^ (-1 : Int32))) = 0 then 29 else 33)) (lv' := [(0, .ref 4), (1, .int v1), (2, .int v2)]) (st' := []) (lay' := LY88) (h' := h) 4 rfl ?_
    refine pc_ite e (fun e => ?_) (fun e => ?_)
    · refine seg_Bg (pc' := 34) (lv' := [(0, .ref 4), (1, .int v1), (2, .int v2)]) (st' := [.int 1]) (lay' := LY88) (h' := h) 2 rfl ?_
      rw [hR, ← Option.some.inj e]; exact ret_Bg rfl
    · refine seg_Bg (pc' := 34) (lv' := [(0, .ref 4), (1, .int v1), (2, .int v2)]) (st' := [.int 0]) (lay' := LY88) (h' := h) 1 rfl ?_
      rw [hR, ← Option.some.inj e]; exact ret_Bg rfl

set_option maxRecDepth 100000 in
theorem BJpl_isJustAbove_L13_s (L : Nat) (xs : Nat → Int32) (v1 v2 : Int32) (h : Hp) (R : List Value × Lay × Hp) (v3 : Int32) (o : ((Int32) ⊕ ((Int32) ⊕ (Int32)))) (hH : ∀ s : Int32, o = .inl s → Bg L xs 75 13 [(0, .ref 4), (1, .int v1), (2, .int v2), (3, .int s)] [] LY88 h R) (hE : ∀ t : Int32, o = .inr (.inl t) → Bg L xs 75 54 [(0, .ref 4), (1, .int v1), (2, .int v2), (3, .int t)] [] LY88 h R) (hR : ∀ r : Int32, o = .inr (.inr r) → R = ([.int r], LY88, h)) (e : Jpl_isJustAbove_L13 v1 v2 h v3 = some o) : Bg L xs 75 13 [(0, .ref 4), (1, .int v1), (2, .int v2), (3, .int v3)] [] LY88 h R := by
  refine seg_Bg (pc' := (if v3 < (h 4 4) then 21 else 54)) (lv' := [(0, .ref 4), (1, .int v1), (2, .int v2), (3, .int v3)]) (st' := []) (lay' := LY88) (h' := h) 4 rfl ?_
  refine pc_ite e (fun e => ?_) (fun e => ?_)
  · refine seg_Bg (pc' := (if v3 < 4096 then 28 else 54)) (lv' := [(0, .ref 4), (1, .int v1), (2, .int v2), (3, .int v3)]) (st' := []) (lay' := LY88) (h' := h) 3 rfl ?_
    refine pc_ite e (fun e => ?_) (fun e => ?_)
    · refine seg_Bg (pc' := 31) (lv' := [(0, .ref 4), (1, .int v1), (2, .int v2), (3, .int v3)]) (st' := [.int v3, .int v1, .ref 4]) (lay' := LY88) (h' := h) 3 rfl ?_
      refine call_Bg (a := 76) (la := [(0, .ref 4), (1, .int v1), (2, .int v3)]) (np := 34) (lv' := [(0, .ref 4), (1, .int v1), (2, .int v2), (3, .int v3)]) (rest := []) (res := fun r => ([.int r], LY88, h)) rfl e (fun r e => BJpl_isAbove L xs v1 v3 h r e) (fun c2 e => ?_)
      show Bg L xs 75 34 [(0, .ref 4), (1, .int v1), (2, .int v2), (3, .int v3)] [.int c2] LY88 h R
      refine seg_Bg (pc' := (if c2 = 0 then 48 else 37)) (lv' := [(0, .ref 4), (1, .int v1), (2, .int v2), (3, .int v3)]) (st' := []) (lay' := LY88) (h' := h) 1 rfl ?_
      refine pc_ite e (fun e => ?_) (fun e => ?_)
      · refine seg_Bg (pc' := 13) (lv' := [(0, .ref 4), (1, .int v1), (2, .int v2), (3, .int (v3 + 1))]) (st' := []) (lay' := LY88) (h' := h) 2 rfl ?_
        exact hH (v3 + 1) (Option.some.inj e).symm
      · refine seg_Bg (pc' := 40) (lv' := [(0, .ref 4), (1, .int v1), (2, .int v2), (3, .int v3)]) (st' := [.int v2, .int v3, .ref 4]) (lay' := LY88) (h' := h) 3 rfl ?_
        refine call_Bg (a := 76) (la := [(0, .ref 4), (1, .int v3), (2, .int v2)]) (np := 43) (lv' := [(0, .ref 4), (1, .int v1), (2, .int v2), (3, .int v3)]) (rest := []) (res := fun r => ([.int r], LY88, h)) rfl e (fun r e => BJpl_isAbove L xs v3 v2 h r e) (fun c3 e => ?_)
        show Bg L xs 75 43 [(0, .ref 4), (1, .int v1), (2, .int v2), (3, .int v3)] [.int c3] LY88 h R
        refine seg_Bg (pc' := (if c3 = 0 then 48 else 46)) (lv' := [(0, .ref 4), (1, .int v1), (2, .int v2), (3, .int v3)]) (st' := []) (lay' := LY88) (h' := h) 1 rfl ?_
        refine pc_ite e (fun e => ?_) (fun e => ?_)
        · refine seg_Bg (pc' := 13) (lv' := [(0, .ref 4), (1, .int v1), (2, .int v2), (3, .int (v3 + 1))]) (st' := []) (lay' := LY88) (h' := h) 2 rfl ?_
          exact hH (v3 + 1) (Option.some.inj e).symm
        · refine seg_Bg (pc' := 47) (lv' := [(0, .ref 4), (1, .int v1), (2, .int v2), (3, .int v3)]) (st' := [.int 0]) (lay' := LY88) (h' := h) 1 rfl ?_
          rw [hR 0 (Option.some.inj e).symm]; exact ret_Bg rfl
    · exact hE v3 (Option.some.inj e).symm
  · exact hE v3 (Option.some.inj e).symm
theorem BJpl_isJustAbove_L13 (L : Nat) (xs : Nat → Int32) (v1 v2 : Int32) (h : Hp) (R : List Value × Lay × Hp) (C : ((Int32) ⊕ (Int32)) → Prop) (hE : ∀ t : Int32, C (.inl t) → Bg L xs 75 54 [(0, .ref 4), (1, .int v1), (2, .int v2), (3, .int t)] [] LY88 h R) (hR : ∀ r : Int32, C (.inr r) → R = ([.int r], LY88, h)) (n : Nat) (s : Int32) (o : ((Int32) ⊕ (Int32))) (e : loopN n (fun s => Jpl_isJustAbove_L13 v1 v2 h s) s = some o) (hC : C o) : Bg L xs 75 13 [(0, .ref 4), (1, .int v1), (2, .int v2), (3, .int s)] [] LY88 h R := by
  refine loop_B (fun s => Jpl_isJustAbove_L13 v1 v2 h s) (fun s : Int32 => Bg L xs 75 13 [(0, .ref 4), (1, .int v1), (2, .int v2), (3, .int s)] [] LY88 h R) C (fun s o e => ?_) n s o e hC
  intro hK
  refine BJpl_isJustAbove_L13_s L xs v1 v2 h R s o (fun s q => by subst q; exact hK) (fun t q => by subst q; exact hE t hK) (fun r q => by subst q; exact hR r hK) e
set_option maxRecDepth 100000 in
theorem BJpl_isJustAbove (L : Nat) (xs : Nat → Int32) (v1 : Int32) (v2 : Int32) (h : Hp) (o : Int32) (e : Jpl_isJustAbove v1 v2 h = some o) : Bg L xs 75 0 [(0, .ref 4), (1, .int v1), (2, .int v2)] [] LY88 h ([.int o], LY88, h) := by
  obtain ⟨R, hR⟩ : ∃ R : List Value × Lay × Hp, R = ([.int o], LY88, h) := ⟨_, rfl⟩
  rw [← hR]
  refine seg_Bg (pc' := 3) (lv' := [(0, .ref 4), (1, .int v1), (2, .int v2)]) (st' := [.int v2, .int v1, .ref 4]) (lay' := LY88) (h' := h) 3 rfl ?_
  refine call_Bg (a := 76) (la := [(0, .ref 4), (1, .int v1), (2, .int v2)]) (np := 6) (lv' := [(0, .ref 4), (1, .int v1), (2, .int v2)]) (rest := []) (res := fun r => ([.int r], LY88, h)) rfl e (fun r e => BJpl_isAbove L xs v1 v2 h r e) (fun c1 e => ?_)
  show Bg L xs 75 6 [(0, .ref 4), (1, .int v1), (2, .int v2)] [.int c1] LY88 h R
  refine seg_Bg (pc' := (if c1 = 0 then 9 else 11)) (lv' := [(0, .ref 4), (1, .int v1), (2, .int v2)]) (st' := []) (lay' := LY88) (h' := h) 1 rfl ?_
  refine pc_ite e (fun e => ?_) (fun e => ?_)
  · refine seg_Bg (pc' := 10) (lv' := [(0, .ref 4), (1, .int v1), (2, .int v2)]) (st' := [.int 0]) (lay' := LY88) (h' := h) 1 rfl ?_
    rw [hR, ← Option.some.inj e]; exact ret_Bg rfl
  · refine seg_Bg (pc' := 13) (lv' := [(0, .ref 4), (1, .int v1), (2, .int v2), (3, .int 0)]) (st' := []) (lay' := LY88) (h' := h) 2 rfl ?_
    obtain ⟨t4o, et4o, e⟩ := bd_s e
    refine BJpl_isJustAbove_L13 L xs v1 v2 h R (fun (t4x : (Int32) ⊕ (Int32)) => (sm t4x (fun t4 => some 1) (fun r4 => some r4)) = some o) (fun t4 e => ?_) (fun r4 e => ?_) 1000000 0 _ et4o e
    · refine seg_Bg (pc' := 55) (lv' := [(0, .ref 4), (1, .int v1), (2, .int v2), (3, .int t4)]) (st' := [.int 1]) (lay' := LY88) (h' := h) 1 rfl ?_
      rw [hR, ← Option.some.inj e]; exact ret_Bg rfl
    · rw [hR]; exact congrArg (fun r => (([.int r], LY88, h) : List Value × Lay × Hp)) (Option.some.inj e).symm

set_option maxRecDepth 100000 in
theorem BJpl_isNext (L : Nat) (xs : Nat → Int32) (v1 : Int32) (v2 : Int32) (v3 : Int32) (h : Hp) (o : Int32) (e : Jpl_isNext v1 v2 v3 h = some o) : Bg L xs 74 0 [(0, .ref 4), (1, .int v1), (2, .int v2), (3, .int v3)] [] LY88 h ([.int o], LY88, h) := by
  obtain ⟨R, hR⟩ : ∃ R : List Value × Lay × Hp, R = ([.int o], LY88, h) := ⟨_, rfl⟩
  rw [← hR]
  refine seg_Bg (pc' := (if v3 = 0 then 13 else 4)) (lv' := [(0, .ref 4), (1, .int v1), (2, .int v2), (3, .int v3)]) (st' := []) (lay' := LY88) (h' := h) 2 rfl ?_
  refine pc_ite e (fun e => ?_) (fun e => ?_)
  · refine seg_Bg (pc' := 16) (lv' := [(0, .ref 4), (1, .int v1), (2, .int v2), (3, .int v3)]) (st' := [.int v2, .int v1, .ref 4]) (lay' := LY88) (h' := h) 3 rfl ?_
    refine call_Bg (a := 75) (la := [(0, .ref 4), (1, .int v1), (2, .int v2)]) (np := 19) (lv' := [(0, .ref 4), (1, .int v1), (2, .int v2), (3, .int v3)]) (rest := []) (res := fun r => ([.int r], LY88, h)) rfl e (fun r e => BJpl_isJustAbove L xs v1 v2 h r e) (fun c1 e => ?_)
    show Bg L xs 74 19 [(0, .ref 4), (1, .int v1), (2, .int v2), (3, .int v3)] [.int c1] LY88 h R
    exact retZ_Bg (g := isZ c1) rfl e fun e => (by rw [hR, ← Option.some.inj e])
  · refine seg_Bg (pc' := 7) (lv' := [(0, .ref 4), (1, .int v1), (2, .int v2), (3, .int v3)]) (st' := [.int v1, .int v2, .ref 4]) (lay' := LY88) (h' := h) 3 rfl ?_
    refine call_Bg (a := 75) (la := [(0, .ref 4), (1, .int v2), (2, .int v1)]) (np := 10) (lv' := [(0, .ref 4), (1, .int v1), (2, .int v2), (3, .int v3)]) (rest := []) (res := fun r => ([.int r], LY88, h)) rfl e (fun r e => BJpl_isJustAbove L xs v2 v1 h r e) (fun c2 e => ?_)
    show Bg L xs 74 10 [(0, .ref 4), (1, .int v1), (2, .int v2), (3, .int v3)] [.int c2] LY88 h R
    refine seg_Bg (pc' := 19) (lv' := [(0, .ref 4), (1, .int v1), (2, .int v2), (3, .int v3)]) (st' := [.int c2]) (lay' := LY88) (h' := h) 1 rfl ?_
    exact retZ_Bg (g := isZ c2) rfl e fun e => (by rw [hR, ← Option.some.inj e])

set_option maxRecDepth 100000 in
theorem BJpl_countNext_L5_s (L : Nat) (xs : Nat → Int32) (v1 v2 : Int32) (h : Hp) (R : List Value × Lay × Hp) (v3 v4 : Int32) (o : ((Int32 × Int32) ⊕ (Int32 × Int32))) (hH : ∀ s : Int32 × Int32, o = .inl s → Bg L xs 72 5 [(0, .ref 4), (1, .int v1), (2, .int v2), (3, .int s.1), (4, .int s.2)] [] LY88 h R) (hE : ∀ t : Int32 × Int32, o = .inr t → Bg L xs 72 42 [(0, .ref 4), (1, .int v1), (2, .int v2), (3, .int t.1), (4, .int t.2)] [] LY88 h R) (e : Jpl_countNext_L5 v1 v2 h v3 v4 = some o) : Bg L xs 72 5 [(0, .ref 4), (1, .int v1), (2, .int v2), (3, .int v3), (4, .int v4)] [] LY88 h R := by
  refine seg_Bg (pc' := (if v4 < (h 4 4) then 14 else 42)) (lv' := [(0, .ref 4), (1, .int v1), (2, .int v2), (3, .int v3), (4, .int v4)]) (st' := []) (lay' := LY88) (h' := h) 4 rfl ?_
  refine pc_ite e (fun e => ?_) (fun e => ?_)
  · refine seg_Bg (pc' := (if v4 < 4096 then 22 else 42)) (lv' := [(0, .ref 4), (1, .int v1), (2, .int v2), (3, .int v3), (4, .int v4)]) (st' := []) (lay' := LY88) (h' := h) 3 rfl ?_
    refine pc_ite e (fun e => ?_) (fun e => ?_)
    · refine seg_Bg (pc' := 27) (lv' := [(0, .ref 4), (1, .int v1), (2, .int v2), (3, .int v3), (4, .int v4)]) (st' := [.int v2, .int v4, .int v1, .ref 4]) (lay' := LY88) (h' := h) 4 rfl ?_
      refine call_Bg (a := 74) (la := [(0, .ref 4), (1, .int v1), (2, .int v4), (3, .int v2)]) (np := 30) (lv' := [(0, .ref 4), (1, .int v1), (2, .int v2), (3, .int v3), (4, .int v4)]) (rest := []) (res := fun r => ([.int r], LY88, h)) rfl e (fun r e => BJpl_isNext L xs v1 v4 v2 h r e) (fun c1 e => ?_)
      show Bg L xs 72 30 [(0, .ref 4), (1, .int v1), (2, .int v2), (3, .int v3), (4, .int v4)] [.int c1] LY88 h R
      refine seg_Bg (pc' := (if c1 = 0 then 36 else 33)) (lv' := [(0, .ref 4), (1, .int v1), (2, .int v2), (3, .int v3), (4, .int v4)]) (st' := []) (lay' := LY88) (h' := h) 1 rfl ?_
      refine pc_ite e (fun e => ?_) (fun e => ?_)
      · refine seg_Bg (pc' := 5) (lv' := [(0, .ref 4), (1, .int v1), (2, .int v2), (3, .int v3), (4, .int (v4 + 1))]) (st' := []) (lay' := LY88) (h' := h) 2 rfl ?_
        exact hH (v3, v4 + 1) (Option.some.inj e).symm
      · refine seg_Bg (pc' := 5) (lv' := [(0, .ref 4), (1, .int v1), (2, .int v2), (3, .int (v3 + 1)), (4, .int (v4 + 1))]) (st' := []) (lay' := LY88) (h' := h) 3 rfl ?_
        exact hH (v3 + 1, v4 + 1) (Option.some.inj e).symm
    · exact hE (v3, v4) (Option.some.inj e).symm
  · exact hE (v3, v4) (Option.some.inj e).symm
theorem BJpl_countNext_L5 (L : Nat) (xs : Nat → Int32) (v1 v2 : Int32) (h : Hp) (R : List Value × Lay × Hp) (C : (Int32 × Int32) → Prop) (hE : ∀ t : Int32 × Int32, C t → Bg L xs 72 42 [(0, .ref 4), (1, .int v1), (2, .int v2), (3, .int t.1), (4, .int t.2)] [] LY88 h R) (n : Nat) (s : Int32 × Int32) (o : (Int32 × Int32)) (e : loopN n (fun s => Jpl_countNext_L5 v1 v2 h s.1 s.2) s = some o) (hC : C o) : Bg L xs 72 5 [(0, .ref 4), (1, .int v1), (2, .int v2), (3, .int s.1), (4, .int s.2)] [] LY88 h R := by
  refine loop_B (fun s => Jpl_countNext_L5 v1 v2 h s.1 s.2) (fun s : Int32 × Int32 => Bg L xs 72 5 [(0, .ref 4), (1, .int v1), (2, .int v2), (3, .int s.1), (4, .int s.2)] [] LY88 h R) C (fun s o e => ?_) n s o e hC
  intro hK
  refine BJpl_countNext_L5_s L xs v1 v2 h R s.1 s.2 o (fun s q => by subst q; exact hK) (fun t q => by subst q; exact hE t hK) e
set_option maxRecDepth 100000 in
theorem BJpl_countNext (L : Nat) (xs : Nat → Int32) (v1 : Int32) (v2 : Int32) (h : Hp) (o : Int32) (e : Jpl_countNext v1 v2 h = some o) : Bg L xs 72 0 [(0, .ref 4), (1, .int v1), (2, .int v2)] [] LY88 h ([.int o], LY88, h) := by
  obtain ⟨R, hR⟩ : ∃ R : List Value × Lay × Hp, R = ([.int o], LY88, h) := ⟨_, rfl⟩
  rw [← hR]
  refine seg_Bg (pc' := 5) (lv' := [(0, .ref 4), (1, .int v1), (2, .int v2), (3, .int 0), (4, .int 0)]) (st' := []) (lay' := LY88) (h' := h) 4 rfl ?_
  obtain ⟨t2o, et2o, e⟩ := bd_s e
  refine BJpl_countNext_L5 L xs v1 v2 h R (fun (t2 : Int32 × Int32) => (some t2.1) = some o) (fun t2 e => ?_) 1000000 (0, 0) _ et2o e
  refine seg_Bg (pc' := 43) (lv' := [(0, .ref 4), (1, .int v1), (2, .int v2), (3, .int t2.1), (4, .int t2.2)]) (st' := [.int t2.1]) (lay' := LY88) (h' := h) 1 rfl ?_
  rw [hR, ← Option.some.inj e]; exact ret_Bg rfl

set_option maxRecDepth 100000 in
theorem BJpl_rankOf (L : Nat) (xs : Nat → Int32) (v1 : Int32) (h : Hp) (o : Int32) (e : Jpl_rankOf v1 h = some o) : Bg L xs 68 0 [(0, .ref 4), (1, .int v1)] [] LY88 h ([.int o], LY88, h) := by
  obtain ⟨R, hR⟩ : ∃ R : List Value × Lay × Hp, R = ([.int o], LY88, h) := ⟨_, rfl⟩
  rw [← hR]
  refine seg_Bg (pc' := 6) (lv' := [(0, .ref 4), (1, .int v1)]) (st' := [.int v1, .ref 4, .ref 8]) (lay' := LY88) (h' := h) 4 rfl ?_
  refine call_Bg (a := 66) (la := [(0, .ref 4), (1, .int v1)]) (np := 9) (lv' := [(0, .ref 4), (1, .int v1)]) (rest := [.ref 8]) (res := fun r => ([.int r], LY88, h)) rfl e (fun r e => BJpl_setOf L xs v1 h r e) (fun c1 e => ?_)
  show Bg L xs 68 9 [(0, .ref 4), (1, .int v1)] [.int c1, .ref 8] LY88 h R
  refine seg_Bg (pc' := 13) (lv' := [(0, .ref 4), (1, .int v1)]) (st' := [.int (c1 &&& (4095 : Int32)), .ref 8]) (lay' := LY88) (h' := h) 2 rfl ?_
  refine gd_Bg (pc' := 14) (lv' := [(0, .ref 4), (1, .int v1)]) (st' := [.int (h 8 (Int32.toNatClampNeg (c1 &&& (4095 : Int32))))]) (lay' := LY88) (h' := h) (g := ibB (c1 &&& (4095 : Int32)) 4096) rfl e fun e => ?_
  rw [hR, ← Option.some.inj e]; exact ret_Bg rfl

set_option maxRecDepth 100000 in
theorem BJyn_place (L : Nat) (xs : Nat → Int32) (v1 : Int32) (v2 : Int32) (h : Hp) (o : Int32) (e : Jyn_place v1 v2 h = some o) : Bg L xs 140 0 [(0, .ref 0), (1, .int v1), (2, .int v2)] [] LY88 h ([.int o], LY88, h) := by
  obtain ⟨R, hR⟩ : ∃ R : List Value × Lay × Hp, R = ([.int o], LY88, h) := ⟨_, rfl⟩
  rw [← hR]
  refine seg_Bg (pc' := 5) (lv' := [(0, .ref 0), (1, .int v1), (2, .int v2)]) (st' := [.int v1, .ref 4]) (lay' := LY88) (h' := h) 3 rfl ?_
  refine call_Bg (a := 64) (la := [(0, .ref 4), (1, .int v1)]) (np := 8) (lv' := [(0, .ref 0), (1, .int v1), (2, .int v2)]) (rest := []) (res := fun r => ([.int r], LY88, h)) rfl e (fun r e => BJpl_holds L xs v1 h r e) (fun c1 e => ?_)
  show Bg L xs 140 8 [(0, .ref 0), (1, .int v1), (2, .int v2)] [.int c1] LY88 h R
  refine seg_Bg (pc' := (if c1 = 0 then 11 else 14)) (lv' := [(0, .ref 0), (1, .int v1), (2, .int v2)]) (st' := []) (lay' := LY88) (h' := h) 1 rfl ?_
  refine pc_ite e (fun e => ?_) (fun e => ?_)
  · refine seg_Bg (pc' := 13) (lv' := [(0, .ref 0), (1, .int v1), (2, .int v2)]) (st' := [.int (-1000000001)]) (lay' := LY88) (h' := h) 1 rfl ?_
    rw [hR, ← Option.some.inj e]; exact ret_Bg rfl
  · refine seg_Bg (pc' := (if v2 = 0 then 48 else if v2 = 1 then 57 else if v2 = 2 then 73 else if v2 = 3 then 83 else if v2 = 4 then 93 else 102)) (lv' := [(0, .ref 0), (1, .int v1), (2, .int v2)]) (st' := []) (lay' := LY88) (h' := h) 2 rfl ?_
    refine pc_ite e (fun e => ?_) (fun e => ?_)
    · refine seg_Bg (pc' := 53) (lv' := [(0, .ref 0), (1, .int v1), (2, .int v2)]) (st' := [.int v1, .ref 4]) (lay' := LY88) (h' := h) 3 rfl ?_
      refine call_Bg (a := 66) (la := [(0, .ref 4), (1, .int v1)]) (np := 56) (lv' := [(0, .ref 0), (1, .int v1), (2, .int v2)]) (rest := []) (res := fun r => ([.int r], LY88, h)) rfl e (fun r e => BJpl_setOf L xs v1 h r e) (fun c2 e => ?_)
      show Bg L xs 140 56 [(0, .ref 0), (1, .int v1), (2, .int v2)] [.int c2] LY88 h R
      rw [hR, ← Option.some.inj e]; exact ret_Bg rfl
    · refine pc_ite e (fun e => ?_) (fun e => ?_)
      · refine seg_Bg (pc' := 66) (lv' := [(0, .ref 0), (1, .int v1), (2, .int v2)]) (st' := [.int v1, .ref 4, .ref 4]) (lay' := LY88) (h' := h) 5 rfl ?_
        refine call_Bg (a := 66) (la := [(0, .ref 4), (1, .int v1)]) (np := 69) (lv' := [(0, .ref 0), (1, .int v1), (2, .int v2)]) (rest := [.ref 4]) (res := fun r => ([.int r], LY88, h)) rfl e (fun r e => BJpl_setOf L xs v1 h r e) (fun c3 e => ?_)
        show Bg L xs 140 69 [(0, .ref 0), (1, .int v1), (2, .int v2)] [.int c3, .ref 4] LY88 h R
        refine call_Bg (a := 70) (la := [(0, .ref 4), (1, .int c3)]) (np := 72) (lv' := [(0, .ref 0), (1, .int v1), (2, .int v2)]) (rest := []) (res := fun r => ([.int r], LY88, h)) rfl e (fun r e => BJpl_countIn L xs c3 h r e) (fun c4 e => ?_)
        show Bg L xs 140 72 [(0, .ref 0), (1, .int v1), (2, .int v2)] [.int c4] LY88 h R
        rw [hR, ← Option.some.inj e]; exact ret_Bg rfl
      · refine pc_ite e (fun e => ?_) (fun e => ?_)
        · refine seg_Bg (pc' := 79) (lv' := [(0, .ref 0), (1, .int v1), (2, .int v2)]) (st' := [.int 1, .int v1, .ref 4]) (lay' := LY88) (h' := h) 4 rfl ?_
          refine call_Bg (a := 72) (la := [(0, .ref 4), (1, .int v1), (2, .int 1)]) (np := 82) (lv' := [(0, .ref 0), (1, .int v1), (2, .int v2)]) (rest := []) (res := fun r => ([.int r], LY88, h)) rfl e (fun r e => BJpl_countNext L xs v1 1 h r e) (fun c5 e => ?_)
          show Bg L xs 140 82 [(0, .ref 0), (1, .int v1), (2, .int v2)] [.int c5] LY88 h R
          rw [hR, ← Option.some.inj e]; exact ret_Bg rfl
        · refine pc_ite e (fun e => ?_) (fun e => ?_)
          · refine seg_Bg (pc' := 89) (lv' := [(0, .ref 0), (1, .int v1), (2, .int v2)]) (st' := [.int 0, .int v1, .ref 4]) (lay' := LY88) (h' := h) 4 rfl ?_
            refine call_Bg (a := 72) (la := [(0, .ref 4), (1, .int v1), (2, .int 0)]) (np := 92) (lv' := [(0, .ref 0), (1, .int v1), (2, .int v2)]) (rest := []) (res := fun r => ([.int r], LY88, h)) rfl e (fun r e => BJpl_countNext L xs v1 0 h r e) (fun c6 e => ?_)
            show Bg L xs 140 92 [(0, .ref 0), (1, .int v1), (2, .int v2)] [.int c6] LY88 h R
            rw [hR, ← Option.some.inj e]; exact ret_Bg rfl
          · refine pc_ite e (fun e => ?_) (fun e => ?_)
            · refine seg_Bg (pc' := 98) (lv' := [(0, .ref 0), (1, .int v1), (2, .int v2)]) (st' := [.int v1, .ref 4]) (lay' := LY88) (h' := h) 3 rfl ?_
              refine call_Bg (a := 68) (la := [(0, .ref 4), (1, .int v1)]) (np := 101) (lv' := [(0, .ref 0), (1, .int v1), (2, .int v2)]) (rest := []) (res := fun r => ([.int r], LY88, h)) rfl e (fun r e => BJpl_rankOf L xs v1 h r e) (fun c7 e => ?_)
              show Bg L xs 140 101 [(0, .ref 0), (1, .int v1), (2, .int v2)] [.int c7] LY88 h R
              rw [hR, ← Option.some.inj e]; exact ret_Bg rfl
            · refine seg_Bg (pc' := 104) (lv' := [(0, .ref 0), (1, .int v1), (2, .int v2)]) (st' := [.int (-1000000002)]) (lay' := LY88) (h' := h) 1 rfl ?_
              rw [hR, ← Option.some.inj e]; exact ret_Bg rfl

set_option maxRecDepth 100000 in
theorem BJm_isPlace (L : Nat) (xs : Nat → Int32) (v1 : Int32) (h : Hp) (o : Int32 × Hp) (e : Jm_isPlace v1 h = some o) : Bg L xs 189 0 [(0, .ref 37), (1, .int v1)] [] LY88 h ([.int o.1], LY88, o.2) := by
  obtain ⟨R, hR⟩ : ∃ R : List Value × Lay × Hp, R = ([.int o.1], LY88, o.2) := ⟨_, rfl⟩
  rw [← hR]
  refine seg_Bg (pc' := 1) (lv' := [(0, .ref 37), (1, .int v1)]) (st' := [.ref 37]) (lay' := LY88) (h' := h) 1 rfl ?_
  refine call_Bg (a := 187) (la := [(0, .ref 37)]) (np := 4) (lv' := [(0, .ref 37), (1, .int v1)]) (rest := []) (res := fun r => ([], LY88, r)) rfl e (fun r e => BJm_layPlaces L xs h r e) (fun c1 e => ?_)
  show Bg L xs 189 4 [(0, .ref 37), (1, .int v1)] [] LY88 c1 R
  refine seg_Bg (pc' := 14) (lv' := [(0, .ref 37), (1, .int v1)]) (st' := [.long (Int32.toInt64 ((c1 37 14) - (1 : Int32))), .long 0, .long (Int32.toInt64 v1)]) (lay' := LY88) (h' := c1) 8 rfl ?_
  refine call_Bg (a := 166) (la := [(0, .long (Int32.toInt64 v1)), (2, .long 0), (4, .long (Int32.toInt64 ((c1 37 14) - (1 : Int32))))]) (np := 17) (lv' := [(0, .ref 37), (1, .int v1)]) (rest := []) (res := fun r => ([.int r], LY88, c1)) rfl e (fun r e => BJm_in L xs (Int32.toInt64 v1) 0 (Int32.toInt64 ((c1 37 14) - (1 : Int32))) LY88 c1 r e) (fun c2 e => ?_)
  show Bg L xs 189 17 [(0, .ref 37), (1, .int v1)] [.int c2] LY88 c1 R
  exact retZ_Bg (g := isZ c2) rfl e fun e => (by rw [hR, ← Option.some.inj e])

set_option maxRecDepth 100000 in
theorem BJm_inside_L4_s (L : Nat) (xs : Nat → Int32) (v1 : Int32) (h : Hp) (R : List Value × Lay × Hp) (v2 v3 : Int32) (o : ((Int32 × Int32) ⊕ (Int32 × Int32))) (hH : ∀ s : Int32 × Int32, o = .inl s → Bg L xs 193 4 [(0, .ref 37), (1, .int v1), (2, .int s.1), (3, .int s.2)] [] LY88 h R) (hE : ∀ t : Int32 × Int32, o = .inr t → Bg L xs 193 43 [(0, .ref 37), (1, .int v1), (2, .int t.1), (3, .int t.2)] [] LY88 h R) (e : Jm_inside_L4 v1 h v2 v3 = some o) : Bg L xs 193 4 [(0, .ref 37), (1, .int v1), (2, .int v2), (3, .int v3)] [] LY88 h R := by
  refine seg_Bg (pc' := (if v3 < 256 then 11 else 43)) (lv' := [(0, .ref 37), (1, .int v1), (2, .int v2), (3, .int v3)]) (st' := []) (lay' := LY88) (h' := h) 3 rfl ?_
  refine pc_ite e (fun e => ?_) (fun e => ?_)
  · refine seg_Bg (pc' := 17) (lv' := [(0, .ref 37), (1, .int v1), (2, .int v2), (3, .int v3)]) (st' := [.int v3, .ref 43, .int v2]) (lay' := LY88) (h' := h) 4 rfl ?_
    refine gd_Bg (pc' := 18) (lv' := [(0, .ref 37), (1, .int v1), (2, .int v2), (3, .int v3)]) (st' := [.int (h 43 (Int32.toNatClampNeg v3)), .int v2]) (lay' := LY88) (h' := h) (g := ibB v3 256) rfl e fun e => ?_
    refine seg_Bg (pc' := 23) (lv' := [(0, .ref 37), (1, .int v1), (2, .int v2), (3, .int v3)]) (st' := [.int v1, .ref 44, .int (h 43 (Int32.toNatClampNeg v3)), .int v2]) (lay' := LY88) (h' := h) 3 rfl ?_
    refine gd_Bg (pc' := 24) (lv' := [(0, .ref 37), (1, .int v1), (2, .int v2), (3, .int v3)]) (st' := [.int (h 44 (Int32.toNatClampNeg v1)), .int (h 43 (Int32.toNatClampNeg v3)), .int v2]) (lay' := LY88) (h' := h) (g := ibB v1 512) rfl e fun e => ?_
    refine call_Bg (a := 185) (la := [(0, .int (h 43 (Int32.toNatClampNeg v3))), (1, .int (h 44 (Int32.toNatClampNeg v1)))]) (np := 27) (lv' := [(0, .ref 37), (1, .int v1), (2, .int v2), (3, .int v3)]) (rest := [.int v2]) (res := fun r => ([.int r], LY88, h)) rfl e (fun r e => BJm_hasAll L xs (h 43 (Int32.toNatClampNeg v3)) (h 44 (Int32.toNatClampNeg v1)) LY88 h r e) (fun c1 e => ?_)
    show Bg L xs 193 27 [(0, .ref 37), (1, .int v1), (2, .int v2), (3, .int v3)] [.int c1, .int v2] LY88 h R
    refine seg_Bg (pc' := (if c1 = 0 then 34 else 30)) (lv' := [(0, .ref 37), (1, .int v1), (2, .int v2), (3, .int v3)]) (st' := [.int v2]) (lay' := LY88) (h' := h) 1 rfl ?_
    refine pc_ite e (fun e => ?_) (fun e => ?_)
    · refine seg_Bg (pc' := 4) (lv' := [(0, .ref 37), (1, .int v1), (2, .int (v2 + (0 : Int32))), (3, .int (v3 + 1))]) (st' := []) (lay' := LY88) (h' := h) 5 rfl ?_
      exact hH (v2 + (0 : Int32), v3 + 1) (Option.some.inj e).symm
    · refine seg_Bg (pc' := 4) (lv' := [(0, .ref 37), (1, .int v1), (2, .int (v2 + (1 : Int32))), (3, .int (v3 + 1))]) (st' := []) (lay' := LY88) (h' := h) 6 rfl ?_
      exact hH (v2 + (1 : Int32), v3 + 1) (Option.some.inj e).symm
  · exact hE (v2, v3) (Option.some.inj e).symm
theorem BJm_inside_L4 (L : Nat) (xs : Nat → Int32) (v1 : Int32) (h : Hp) (R : List Value × Lay × Hp) (C : (Int32 × Int32) → Prop) (hE : ∀ t : Int32 × Int32, C t → Bg L xs 193 43 [(0, .ref 37), (1, .int v1), (2, .int t.1), (3, .int t.2)] [] LY88 h R) (n : Nat) (s : Int32 × Int32) (o : (Int32 × Int32)) (e : loopN n (fun s => Jm_inside_L4 v1 h s.1 s.2) s = some o) (hC : C o) : Bg L xs 193 4 [(0, .ref 37), (1, .int v1), (2, .int s.1), (3, .int s.2)] [] LY88 h R := by
  refine loop_B (fun s => Jm_inside_L4 v1 h s.1 s.2) (fun s : Int32 × Int32 => Bg L xs 193 4 [(0, .ref 37), (1, .int v1), (2, .int s.1), (3, .int s.2)] [] LY88 h R) C (fun s o e => ?_) n s o e hC
  intro hK
  refine BJm_inside_L4_s L xs v1 h R s.1 s.2 o (fun s q => by subst q; exact hK) (fun t q => by subst q; exact hE t hK) e
set_option maxRecDepth 100000 in
theorem BJm_inside (L : Nat) (xs : Nat → Int32) (v1 : Int32) (h : Hp) (o : Int32) (e : Jm_inside v1 h = some o) : Bg L xs 193 0 [(0, .ref 37), (1, .int v1)] [] LY88 h ([.int o], LY88, h) := by
  obtain ⟨R, hR⟩ : ∃ R : List Value × Lay × Hp, R = ([.int o], LY88, h) := ⟨_, rfl⟩
  rw [← hR]
  refine seg_Bg (pc' := 4) (lv' := [(0, .ref 37), (1, .int v1), (2, .int 0), (3, .int 0)]) (st' := []) (lay' := LY88) (h' := h) 4 rfl ?_
  obtain ⟨t2o, et2o, e⟩ := bd_s e
  refine BJm_inside_L4 L xs v1 h R (fun (t2 : Int32 × Int32) => (some t2.1) = some o) (fun t2 e => ?_) 1000000 (0, 0) _ et2o e
  refine seg_Bg (pc' := 44) (lv' := [(0, .ref 37), (1, .int v1), (2, .int t2.1), (3, .int t2.2)]) (st' := [.int t2.1]) (lay' := LY88) (h' := h) 1 rfl ?_
  rw [hR, ← Option.some.inj e]; exact ret_Bg rfl

set_option maxRecDepth 100000 in
theorem BJm_isAbove (L : Nat) (xs : Nat → Int32) (v1 : Int32) (v2 : Int32) (h : Hp) (o : Int32) (e : Jm_isAbove v1 v2 h = some o) : Bg L xs 190 0 [(0, .ref 37), (1, .int v1), (2, .int v2)] [] LY88 h ([.int o], LY88, h) := by
  obtain ⟨R, hR⟩ : ∃ R : List Value × Lay × Hp, R = ([.int o], LY88, h) := ⟨_, rfl⟩
  rw [← hR]
  refine seg_Bg (pc' := (if v1 = v2 then 27 else 5)) (lv' := [(0, .ref 37), (1, .int v1), (2, .int v2)]) (st' := []) (lay' := LY88) (h' := h) 3 rfl ?_
  refine pc_ite e (fun e => ?_) (fun e => ?_)
  · refine seg_Bg (pc' := 28) (lv' := [(0, .ref 37), (1, .int v1), (2, .int v2)]) (st' := [.int 0]) (lay' := LY88) (h' := h) 1 rfl ?_
    rw [hR, ← Option.some.inj e]; exact ret_Bg rfl
  · refine seg_Bg (pc' := 10) (lv' := [(0, .ref 37), (1, .int v1), (2, .int v2)]) (st' := [.int v2, .ref 44]) (lay' := LY88) (h' := h) 3 rfl ?_
    refine gd_Bg (pc' := 11) (lv' := [(0, .ref 37), (1, .int v1), (2, .int v2)]) (st' := [.int (h 44 (Int32.toNatClampNeg v2))]) (lay' := LY88) (h' := h) (g := ibB v2 512) rfl e fun e => ?_
    refine seg_Bg (pc' := 16) (lv' := [(0, .ref 37), (1, .int v1), (2, .int v2)]) (st' := [.int v1, .ref 44, .int (h 44 (Int32.toNatClampNeg v2))]) (lay' := LY88) (h' := h) 3 rfl ?_
    refine gd_Bg (pc' := 17) (lv' := [(0, .ref 37), (1, .int v1), (2, .int v2)]) (st' := [.int (h 44 (Int32.toNatClampNeg v1)), .int (h 44 (Int32.toNatClampNeg v2))]) (lay' := LY88) (h' := h) (g := ibB v1 512) rfl e fun e => ?_
    refine call_Bg (a := 185) (la := [(0, .int (h 44 (Int32.toNatClampNeg v2))), (1, .int (h 44 (Int32.toNatClampNeg v1)))]) (np := 20) (lv' := [(0, .ref 37), (1, .int v1), (2, .int v2)]) (rest := []) (res := fun r => ([.int r], LY88, h)) rfl e (fun r e => BJm_hasAll L xs (h 44 (Int32.toNatClampNeg v2)) (h 44 (Int32.toNatClampNeg v1)) LY88 h r e) (fun c1 e => ?_)
    show Bg L xs 190 20 [(0, .ref 37), (1, .int v1), (2, .int v2)] [.int c1] LY88 h R
    refine seg_Bg (pc' := (if c1 = 0 then 27 else 23)) (lv' := [(0, .ref 37), (1, .int v1), (2, .int v2)]) (st' := []) (lay' := LY88) (h' := h) 1 rfl ?_
    refine pc_ite e (fun e => ?_) (fun e => ?_)
    · refine seg_Bg (pc' := 28) (lv' := [(0, .ref 37), (1, .int v1), (2, .int v2)]) (st' := [.int 0]) (lay' := LY88) (h' := h) 1 rfl ?_
      rw [hR, ← Option.some.inj e]; exact ret_Bg rfl
    · refine seg_Bg (pc' := 28) (lv' := [(0, .ref 37), (1, .int v1), (2, .int v2)]) (st' := [.int 1]) (lay' := LY88) (h' := h) 2 rfl ?_
      rw [hR, ← Option.some.inj e]; exact ret_Bg rfl

set_option maxRecDepth 100000 in
theorem BJm_isJustAbove_L10_s (L : Nat) (xs : Nat → Int32) (v1 v2 : Int32) (h : Hp) (R : List Value × Lay × Hp) (v3 v4 : Int32) (o : ((Int32 × Int32) ⊕ (Int32 × Int32))) (hH : ∀ s : Int32 × Int32, o = .inl s → Bg L xs 191 10 [(0, .ref 37), (1, .int v1), (2, .int v2), (3, .int s.1), (4, .int s.2)] [] LY88 h R) (hE : ∀ t : Int32 × Int32, o = .inr t → Bg L xs 191 55 [(0, .ref 37), (1, .int v1), (2, .int v2), (3, .int t.1), (4, .int t.2)] [] LY88 h R) (e : Jm_isJustAbove_L10 v1 v2 h v3 v4 = some o) : Bg L xs 191 10 [(0, .ref 37), (1, .int v1), (2, .int v2), (3, .int v3), (4, .int v4)] [] LY88 h R := by
  refine seg_Bg (pc' := (if v4 < (h 37 14) then 19 else 55)) (lv' := [(0, .ref 37), (1, .int v1), (2, .int v2), (3, .int v3), (4, .int v4)]) (st' := []) (lay' := LY88) (h' := h) 4 rfl ?_
  refine pc_ite e (fun e => ?_) (fun e => ?_)
  · refine seg_Bg (pc' := (if v3 = 0 then 47 else 23)) (lv' := [(0, .ref 37), (1, .int v1), (2, .int v2), (3, .int v3), (4, .int v4)]) (st' := []) (lay' := LY88) (h' := h) 2 rfl ?_
    refine pc_ite e (fun e => ?_) (fun e => ?_)
    · refine seg_Bg (pc' := 10) (lv' := [(0, .ref 37), (1, .int v1), (2, .int v2), (3, .int 0), (4, .int (v4 + 1))]) (st' := []) (lay' := LY88) (h' := h) 4 rfl ?_
      exact hH (0, v4 + 1) (Option.some.inj e).symm
    · refine seg_Bg (pc' := 27) (lv' := [(0, .ref 37), (1, .int v1), (2, .int v2), (3, .int v3), (4, .int v4)]) (st' := [.int v4, .int v1, .ref 37]) (lay' := LY88) (h' := h) 3 rfl ?_
      refine call_Bg (a := 190) (la := [(0, .ref 37), (1, .int v1), (2, .int v4)]) (np := 30) (lv' := [(0, .ref 37), (1, .int v1), (2, .int v2), (3, .int v3), (4, .int v4)]) (rest := []) (res := fun r => ([.int r], LY88, h)) rfl e (fun r e => BJm_isAbove L xs v1 v4 h r e) (fun c2 e => ?_)
      show Bg L xs 191 30 [(0, .ref 37), (1, .int v1), (2, .int v2), (3, .int v3), (4, .int v4)] [.int c2] LY88 h R
      refine seg_Bg (pc' := (if c2 = 0 then 43 else 33)) (lv' := [(0, .ref 37), (1, .int v1), (2, .int v2), (3, .int v3), (4, .int v4)]) (st' := []) (lay' := LY88) (h' := h) 1 rfl ?_
      refine pc_ite e (fun e => ?_) (fun e => ?_)
      · refine seg_Bg (pc' := 10) (lv' := [(0, .ref 37), (1, .int v1), (2, .int v2), (3, .int 1), (4, .int (v4 + 1))]) (st' := []) (lay' := LY88) (h' := h) 5 rfl ?_
        exact hH (1, v4 + 1) (Option.some.inj e).symm
      · refine seg_Bg (pc' := 37) (lv' := [(0, .ref 37), (1, .int v1), (2, .int v2), (3, .int v3), (4, .int v4)]) (st' := [.int v2, .int v4, .ref 37]) (lay' := LY88) (h' := h) 3 rfl ?_
        refine call_Bg (a := 190) (la := [(0, .ref 37), (1, .int v4), (2, .int v2)]) (np := 40) (lv' := [(0, .ref 37), (1, .int v1), (2, .int v2), (3, .int v3), (4, .int v4)]) (rest := []) (res := fun r => ([.int r], LY88, h)) rfl e (fun r e => BJm_isAbove L xs v4 v2 h r e) (fun c3 e => ?_)
        show Bg L xs 191 40 [(0, .ref 37), (1, .int v1), (2, .int v2), (3, .int v3), (4, .int v4)] [.int c3] LY88 h R
        refine seg_Bg (pc' := (if c3 = 0 then 43 else 47)) (lv' := [(0, .ref 37), (1, .int v1), (2, .int v2), (3, .int v3), (4, .int v4)]) (st' := []) (lay' := LY88) (h' := h) 1 rfl ?_
        refine pc_ite e (fun e => ?_) (fun e => ?_)
        · refine seg_Bg (pc' := 10) (lv' := [(0, .ref 37), (1, .int v1), (2, .int v2), (3, .int 1), (4, .int (v4 + 1))]) (st' := []) (lay' := LY88) (h' := h) 5 rfl ?_
          exact hH (1, v4 + 1) (Option.some.inj e).symm
        · refine seg_Bg (pc' := 10) (lv' := [(0, .ref 37), (1, .int v1), (2, .int v2), (3, .int 0), (4, .int (v4 + 1))]) (st' := []) (lay' := LY88) (h' := h) 4 rfl ?_
          exact hH (0, v4 + 1) (Option.some.inj e).symm
  · exact hE (v3, v4) (Option.some.inj e).symm
theorem BJm_isJustAbove_L10 (L : Nat) (xs : Nat → Int32) (v1 v2 : Int32) (h : Hp) (R : List Value × Lay × Hp) (C : (Int32 × Int32) → Prop) (hE : ∀ t : Int32 × Int32, C t → Bg L xs 191 55 [(0, .ref 37), (1, .int v1), (2, .int v2), (3, .int t.1), (4, .int t.2)] [] LY88 h R) (n : Nat) (s : Int32 × Int32) (o : (Int32 × Int32)) (e : loopN n (fun s => Jm_isJustAbove_L10 v1 v2 h s.1 s.2) s = some o) (hC : C o) : Bg L xs 191 10 [(0, .ref 37), (1, .int v1), (2, .int v2), (3, .int s.1), (4, .int s.2)] [] LY88 h R := by
  refine loop_B (fun s => Jm_isJustAbove_L10 v1 v2 h s.1 s.2) (fun s : Int32 × Int32 => Bg L xs 191 10 [(0, .ref 37), (1, .int v1), (2, .int v2), (3, .int s.1), (4, .int s.2)] [] LY88 h R) C (fun s o e => ?_) n s o e hC
  intro hK
  refine BJm_isJustAbove_L10_s L xs v1 v2 h R s.1 s.2 o (fun s q => by subst q; exact hK) (fun t q => by subst q; exact hE t hK) e
set_option maxRecDepth 100000 in
theorem BJm_isJustAbove (L : Nat) (xs : Nat → Int32) (v1 : Int32) (v2 : Int32) (h : Hp) (o : Int32) (e : Jm_isJustAbove v1 v2 h = some o) : Bg L xs 191 0 [(0, .ref 37), (1, .int v1), (2, .int v2)] [] LY88 h ([.int o], LY88, h) := by
  obtain ⟨R, hR⟩ : ∃ R : List Value × Lay × Hp, R = ([.int o], LY88, h) := ⟨_, rfl⟩
  rw [← hR]
  refine seg_Bg (pc' := 3) (lv' := [(0, .ref 37), (1, .int v1), (2, .int v2)]) (st' := [.int v2, .int v1, .ref 37]) (lay' := LY88) (h' := h) 3 rfl ?_
  refine call_Bg (a := 190) (la := [(0, .ref 37), (1, .int v1), (2, .int v2)]) (np := 6) (lv' := [(0, .ref 37), (1, .int v1), (2, .int v2)]) (rest := []) (res := fun r => ([.int r], LY88, h)) rfl e (fun r e => BJm_isAbove L xs v1 v2 h r e) (fun c1 e => ?_)
  show Bg L xs 191 6 [(0, .ref 37), (1, .int v1), (2, .int v2)] [.int c1] LY88 h R
  refine seg_Bg (pc' := 10) (lv' := [(0, .ref 37), (1, .int v1), (2, .int v2), (3, .int c1), (4, .int 0)]) (st' := []) (lay' := LY88) (h' := h) 3 rfl ?_
  obtain ⟨t4o, et4o, e⟩ := bd_s e
  refine BJm_isJustAbove_L10 L xs v1 v2 h R (fun (t4 : Int32 × Int32) => (bif isZ t4.1 then some t4.1 else none) = some o) (fun t4 e => ?_) 1000000 (c1, 0) _ et4o e
  refine seg_Bg (pc' := 56) (lv' := [(0, .ref 37), (1, .int v1), (2, .int v2), (3, .int t4.1), (4, .int t4.2)]) (st' := [.int t4.1]) (lay' := LY88) (h' := h) 1 rfl ?_
  exact retZ_Bg (g := isZ t4.1) rfl e fun e => (by rw [hR, ← Option.some.inj e])

set_option maxRecDepth 100000 in
theorem BJm_neighbour_J36 (L : Nat) (xs : Nat → Int32) (v1 v2 v3 v4 v5 s0 : Int32) (h : Hp) (o : ((Int32 × Int32) ⊕ ((Int32 × Int32) ⊕ (Int32)))) (e : Jm_neighbour_J36 v1 v2 v3 v4 v5 s0 h = some o) (R : List Value × Lay × Hp) (hH : ∀ s : Int32 × Int32, o = .inl s → Bg L xs 192 6 [(0, .ref 37), (1, .int v1), (2, .int v2), (3, .int v3), (4, .int s.1), (5, .int s.2)] [] LY88 h R) (hE : ∀ t : Int32 × Int32, o = .inr (.inl t) → Bg L xs 192 73 [(0, .ref 37), (1, .int v1), (2, .int v2), (3, .int v3), (4, .int t.1), (5, .int t.2)] [] LY88 h R) (hR : ∀ r : Int32, o = .inr (.inr r) → R = ([.int r], LY88, h)) : Bg L xs 192 36 [(0, .ref 37), (1, .int v1), (2, .int v2), (3, .int v3), (4, .int v4), (5, .int v5)] [.int s0] LY88 h R := by
  refine seg_Bg (pc' := (if s0 = 0 then 52 else 43)) (lv' := [(0, .ref 37), (1, .int v1), (2, .int v2), (3, .int v3), (4, .int v4), (5, .int v5), (6, .int s0)]) (st' := []) (lay' := LY88) (h' := h) 3 rfl ?_
  refine pc_ite e (fun e => ?_) (fun e => ?_)
  · refine seg_Bg (pc' := (if s0 = 0 then 63 else 59)) (lv' := [(0, .ref 37), (1, .int v1), (2, .int v2), (3, .int v3), (4, .int v4), (5, .int v5), (6, .int s0)]) (st' := [.int v4]) (lay' := LY88) (h' := h) 3 rfl ?_
    refine pc_ite e (fun e => ?_) (fun e => ?_)
    · refine seg_Bg (pc' := 6) (lv' := [(0, .ref 37), (1, .int v1), (2, .int v2), (3, .int v3), (4, .int (v4 + (0 : Int32))), (5, .int (v5 + 1)), (6, .int s0)]) (st' := []) (lay' := LY88) (h' := h) 5 rfl ?_
      refine kp_Bg (lv' := [(0, .ref 37), (1, .int v1), (2, .int v2), (3, .int v3), (4, .int (v4 + (0 : Int32))), (5, .int (v5 + 1))]) rfl rfl ?_
      exact hH (v4 + (0 : Int32), v5 + 1) (Option.some.inj e).symm
    · refine seg_Bg (pc' := 6) (lv' := [(0, .ref 37), (1, .int v1), (2, .int v2), (3, .int v3), (4, .int (v4 + (1 : Int32))), (5, .int (v5 + 1)), (6, .int s0)]) (st' := []) (lay' := LY88) (h' := h) 6 rfl ?_
      refine kp_Bg (lv' := [(0, .ref 37), (1, .int v1), (2, .int v2), (3, .int v3), (4, .int (v4 + (1 : Int32))), (5, .int (v5 + 1))]) rfl rfl ?_
      exact hH (v4 + (1 : Int32), v5 + 1) (Option.some.inj e).symm
  · refine seg_Bg (pc' := (if v4 = v2 then 49 else 52)) (lv' := [(0, .ref 37), (1, .int v1), (2, .int v2), (3, .int v3), (4, .int v4), (5, .int v5), (6, .int s0)]) (st' := []) (lay' := LY88) (h' := h) 3 rfl ?_
    refine pc_ite e (fun e => ?_) (fun e => ?_)
    · refine seg_Bg (pc' := 51) (lv' := [(0, .ref 37), (1, .int v1), (2, .int v2), (3, .int v3), (4, .int v4), (5, .int v5), (6, .int s0)]) (st' := [.int v5]) (lay' := LY88) (h' := h) 1 rfl ?_
      rw [hR v5 (Option.some.inj e).symm]; exact ret_Bg rfl
    · refine seg_Bg (pc' := (if s0 = 0 then 63 else 59)) (lv' := [(0, .ref 37), (1, .int v1), (2, .int v2), (3, .int v3), (4, .int v4), (5, .int v5), (6, .int s0)]) (st' := [.int v4]) (lay' := LY88) (h' := h) 3 rfl ?_
      refine pc_ite e (fun e => ?_) (fun e => ?_)
      · refine seg_Bg (pc' := 6) (lv' := [(0, .ref 37), (1, .int v1), (2, .int v2), (3, .int v3), (4, .int (v4 + (0 : Int32))), (5, .int (v5 + 1)), (6, .int s0)]) (st' := []) (lay' := LY88) (h' := h) 5 rfl ?_
        refine kp_Bg (lv' := [(0, .ref 37), (1, .int v1), (2, .int v2), (3, .int v3), (4, .int (v4 + (0 : Int32))), (5, .int (v5 + 1))]) rfl rfl ?_
        exact hH (v4 + (0 : Int32), v5 + 1) (Option.some.inj e).symm
      · refine seg_Bg (pc' := 6) (lv' := [(0, .ref 37), (1, .int v1), (2, .int v2), (3, .int v3), (4, .int (v4 + (1 : Int32))), (5, .int (v5 + 1)), (6, .int s0)]) (st' := []) (lay' := LY88) (h' := h) 6 rfl ?_
        refine kp_Bg (lv' := [(0, .ref 37), (1, .int v1), (2, .int v2), (3, .int v3), (4, .int (v4 + (1 : Int32))), (5, .int (v5 + 1))]) rfl rfl ?_
        exact hH (v4 + (1 : Int32), v5 + 1) (Option.some.inj e).symm
set_option maxRecDepth 100000 in
theorem BJm_neighbour_L6_s (L : Nat) (xs : Nat → Int32) (v1 v2 v3 : Int32) (h : Hp) (R : List Value × Lay × Hp) (v4 v5 : Int32) (o : ((Int32 × Int32) ⊕ ((Int32 × Int32) ⊕ (Int32)))) (hH : ∀ s : Int32 × Int32, o = .inl s → Bg L xs 192 6 [(0, .ref 37), (1, .int v1), (2, .int v2), (3, .int v3), (4, .int s.1), (5, .int s.2)] [] LY88 h R) (hE : ∀ t : Int32 × Int32, o = .inr (.inl t) → Bg L xs 192 73 [(0, .ref 37), (1, .int v1), (2, .int v2), (3, .int v3), (4, .int t.1), (5, .int t.2)] [] LY88 h R) (hR : ∀ r : Int32, o = .inr (.inr r) → R = ([.int r], LY88, h)) (e : Jm_neighbour_L6 v1 v2 v3 h v4 v5 = some o) : Bg L xs 192 6 [(0, .ref 37), (1, .int v1), (2, .int v2), (3, .int v3), (4, .int v4), (5, .int v5)] [] LY88 h R := by
  refine seg_Bg (pc' := (if v5 < (h 37 14) then 15 else 73)) (lv' := [(0, .ref 37), (1, .int v1), (2, .int v2), (3, .int v3), (4, .int v4), (5, .int v5)]) (st' := []) (lay' := LY88) (h' := h) 4 rfl ?_
  refine pc_ite e (fun e => ?_) (fun e => ?_)
  · refine seg_Bg (pc' := (if v3 = 0 then 29 else 19)) (lv' := [(0, .ref 37), (1, .int v1), (2, .int v2), (3, .int v3), (4, .int v4), (5, .int v5)]) (st' := []) (lay' := LY88) (h' := h) 2 rfl ?_
    refine pc_ite e (fun e => ?_) (fun e => ?_)
    · refine seg_Bg (pc' := 33) (lv' := [(0, .ref 37), (1, .int v1), (2, .int v2), (3, .int v3), (4, .int v4), (5, .int v5)]) (st' := [.int v5, .int v1, .ref 37]) (lay' := LY88) (h' := h) 3 rfl ?_
      refine call_Bg (a := 191) (la := [(0, .ref 37), (1, .int v1), (2, .int v5)]) (np := 36) (lv' := [(0, .ref 37), (1, .int v1), (2, .int v2), (3, .int v3), (4, .int v4), (5, .int v5)]) (rest := []) (res := fun r => ([.int r], LY88, h)) rfl e (fun r e => BJm_isJustAbove L xs v1 v5 h r e) (fun c1 e => ?_)
      show Bg L xs 192 36 [(0, .ref 37), (1, .int v1), (2, .int v2), (3, .int v3), (4, .int v4), (5, .int v5)] [.int c1] LY88 h R
      refine seg_Bg (pc' := (if c1 = 0 then 52 else 43)) (lv' := [(0, .ref 37), (1, .int v1), (2, .int v2), (3, .int v3), (4, .int v4), (5, .int v5), (6, .int c1)]) (st' := []) (lay' := LY88) (h' := h) 3 rfl ?_
      refine pc_ite e (fun e => ?_) (fun e => ?_)
      · refine seg_Bg (pc' := (if c1 = 0 then 63 else 59)) (lv' := [(0, .ref 37), (1, .int v1), (2, .int v2), (3, .int v3), (4, .int v4), (5, .int v5), (6, .int c1)]) (st' := [.int v4]) (lay' := LY88) (h' := h) 3 rfl ?_
        refine pc_ite e (fun e => ?_) (fun e => ?_)
        · refine seg_Bg (pc' := 6) (lv' := [(0, .ref 37), (1, .int v1), (2, .int v2), (3, .int v3), (4, .int (v4 + (0 : Int32))), (5, .int (v5 + 1)), (6, .int c1)]) (st' := []) (lay' := LY88) (h' := h) 5 rfl ?_
          refine kp_Bg (lv' := [(0, .ref 37), (1, .int v1), (2, .int v2), (3, .int v3), (4, .int (v4 + (0 : Int32))), (5, .int (v5 + 1))]) rfl rfl ?_
          exact hH (v4 + (0 : Int32), v5 + 1) (Option.some.inj e).symm
        · refine seg_Bg (pc' := 6) (lv' := [(0, .ref 37), (1, .int v1), (2, .int v2), (3, .int v3), (4, .int (v4 + (1 : Int32))), (5, .int (v5 + 1)), (6, .int c1)]) (st' := []) (lay' := LY88) (h' := h) 6 rfl ?_
          refine kp_Bg (lv' := [(0, .ref 37), (1, .int v1), (2, .int v2), (3, .int v3), (4, .int (v4 + (1 : Int32))), (5, .int (v5 + 1))]) rfl rfl ?_
          exact hH (v4 + (1 : Int32), v5 + 1) (Option.some.inj e).symm
      · refine seg_Bg (pc' := (if v4 = v2 then 49 else 52)) (lv' := [(0, .ref 37), (1, .int v1), (2, .int v2), (3, .int v3), (4, .int v4), (5, .int v5), (6, .int c1)]) (st' := []) (lay' := LY88) (h' := h) 3 rfl ?_
        refine pc_ite e (fun e => ?_) (fun e => ?_)
        · refine seg_Bg (pc' := 51) (lv' := [(0, .ref 37), (1, .int v1), (2, .int v2), (3, .int v3), (4, .int v4), (5, .int v5), (6, .int c1)]) (st' := [.int v5]) (lay' := LY88) (h' := h) 1 rfl ?_
          rw [hR v5 (Option.some.inj e).symm]; exact ret_Bg rfl
        · refine seg_Bg (pc' := (if c1 = 0 then 63 else 59)) (lv' := [(0, .ref 37), (1, .int v1), (2, .int v2), (3, .int v3), (4, .int v4), (5, .int v5), (6, .int c1)]) (st' := [.int v4]) (lay' := LY88) (h' := h) 3 rfl ?_
          refine pc_ite e (fun e => ?_) (fun e => ?_)
          · refine seg_Bg (pc' := 6) (lv' := [(0, .ref 37), (1, .int v1), (2, .int v2), (3, .int v3), (4, .int (v4 + (0 : Int32))), (5, .int (v5 + 1)), (6, .int c1)]) (st' := []) (lay' := LY88) (h' := h) 5 rfl ?_
            refine kp_Bg (lv' := [(0, .ref 37), (1, .int v1), (2, .int v2), (3, .int v3), (4, .int (v4 + (0 : Int32))), (5, .int (v5 + 1))]) rfl rfl ?_
            exact hH (v4 + (0 : Int32), v5 + 1) (Option.some.inj e).symm
          · refine seg_Bg (pc' := 6) (lv' := [(0, .ref 37), (1, .int v1), (2, .int v2), (3, .int v3), (4, .int (v4 + (1 : Int32))), (5, .int (v5 + 1)), (6, .int c1)]) (st' := []) (lay' := LY88) (h' := h) 6 rfl ?_
            refine kp_Bg (lv' := [(0, .ref 37), (1, .int v1), (2, .int v2), (3, .int v3), (4, .int (v4 + (1 : Int32))), (5, .int (v5 + 1))]) rfl rfl ?_
            exact hH (v4 + (1 : Int32), v5 + 1) (Option.some.inj e).symm
    · refine seg_Bg (pc' := 23) (lv' := [(0, .ref 37), (1, .int v1), (2, .int v2), (3, .int v3), (4, .int v4), (5, .int v5)]) (st' := [.int v1, .int v5, .ref 37]) (lay' := LY88) (h' := h) 3 rfl ?_
      refine call_Bg (a := 191) (la := [(0, .ref 37), (1, .int v5), (2, .int v1)]) (np := 26) (lv' := [(0, .ref 37), (1, .int v1), (2, .int v2), (3, .int v3), (4, .int v4), (5, .int v5)]) (rest := []) (res := fun r => ([.int r], LY88, h)) rfl e (fun r e => BJm_isJustAbove L xs v5 v1 h r e) (fun c2 e => ?_)
      show Bg L xs 192 26 [(0, .ref 37), (1, .int v1), (2, .int v2), (3, .int v3), (4, .int v4), (5, .int v5)] [.int c2] LY88 h R
      refine seg_Bg (pc' := 36) (lv' := [(0, .ref 37), (1, .int v1), (2, .int v2), (3, .int v3), (4, .int v4), (5, .int v5)]) (st' := [.int c2]) (lay' := LY88) (h' := h) 1 rfl ?_
      exact BJm_neighbour_J36 L xs v1 v2 v3 v4 v5 c2 h o e R hH hE hR
  · exact hE (v4, v5) (Option.some.inj e).symm
theorem BJm_neighbour_L6 (L : Nat) (xs : Nat → Int32) (v1 v2 v3 : Int32) (h : Hp) (R : List Value × Lay × Hp) (C : ((Int32 × Int32) ⊕ (Int32)) → Prop) (hE : ∀ t : Int32 × Int32, C (.inl t) → Bg L xs 192 73 [(0, .ref 37), (1, .int v1), (2, .int v2), (3, .int v3), (4, .int t.1), (5, .int t.2)] [] LY88 h R) (hR : ∀ r : Int32, C (.inr r) → R = ([.int r], LY88, h)) (n : Nat) (s : Int32 × Int32) (o : ((Int32 × Int32) ⊕ (Int32))) (e : loopN n (fun s => Jm_neighbour_L6 v1 v2 v3 h s.1 s.2) s = some o) (hC : C o) : Bg L xs 192 6 [(0, .ref 37), (1, .int v1), (2, .int v2), (3, .int v3), (4, .int s.1), (5, .int s.2)] [] LY88 h R := by
  refine loop_B (fun s => Jm_neighbour_L6 v1 v2 v3 h s.1 s.2) (fun s : Int32 × Int32 => Bg L xs 192 6 [(0, .ref 37), (1, .int v1), (2, .int v2), (3, .int v3), (4, .int s.1), (5, .int s.2)] [] LY88 h R) C (fun s o e => ?_) n s o e hC
  intro hK
  refine BJm_neighbour_L6_s L xs v1 v2 v3 h R s.1 s.2 o (fun s q => by subst q; exact hK) (fun t q => by subst q; exact hE t hK) (fun r q => by subst q; exact hR r hK) e
set_option maxRecDepth 100000 in
theorem BJm_neighbour (L : Nat) (xs : Nat → Int32) (v1 : Int32) (v2 : Int32) (v3 : Int32) (h : Hp) (o : Int32) (e : Jm_neighbour v1 v2 v3 h = some o) : Bg L xs 192 0 [(0, .ref 37), (1, .int v1), (2, .int v2), (3, .int v3)] [] LY88 h ([.int o], LY88, h) := by
  obtain ⟨R, hR⟩ : ∃ R : List Value × Lay × Hp, R = ([.int o], LY88, h) := ⟨_, rfl⟩
  rw [← hR]
  refine seg_Bg (pc' := 6) (lv' := [(0, .ref 37), (1, .int v1), (2, .int v2), (3, .int v3), (4, .int 0), (5, .int 0)]) (st' := []) (lay' := LY88) (h' := h) 4 rfl ?_
  obtain ⟨t3o, et3o, e⟩ := bd_s e
  refine BJm_neighbour_L6 L xs v1 v2 v3 h R (fun (t3x : (Int32 × Int32) ⊕ (Int32)) => (sm t3x (fun t3 => if v2 < 0 then some t3.1 else some (-1)) (fun r3 => some r3)) = some o) (fun t3 e => ?_) (fun r3 e => ?_) 1000000 (0, 0) _ et3o e
  · refine seg_Bg (pc' := (if v2 < 0 then 77 else 82)) (lv' := [(0, .ref 37), (1, .int v1), (2, .int v2), (3, .int v3), (4, .int t3.1), (5, .int t3.2)]) (st' := []) (lay' := LY88) (h' := h) 2 rfl ?_
    refine pc_ite e (fun e => ?_) (fun e => ?_)
    · refine seg_Bg (pc' := 83) (lv' := [(0, .ref 37), (1, .int v1), (2, .int v2), (3, .int v3), (4, .int t3.1), (5, .int t3.2)]) (st' := [.int t3.1]) (lay' := LY88) (h' := h) 2 rfl ?_
      rw [hR, ← Option.some.inj e]; exact ret_Bg rfl
    · refine seg_Bg (pc' := 83) (lv' := [(0, .ref 37), (1, .int v1), (2, .int v2), (3, .int v3), (4, .int t3.1), (5, .int t3.2)]) (st' := [.int (-1)]) (lay' := LY88) (h' := h) 1 rfl ?_
      rw [hR, ← Option.some.inj e]; exact ret_Bg rfl
  · rw [hR]; exact congrArg (fun r => (([.int r], LY88, h) : List Value × Lay × Hp)) (Option.some.inj e).symm

