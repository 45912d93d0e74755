/-! Runs of the small machine are the functions of the methods. (Written by wip/p30/gen3.py.) -/
set_option maxRecDepth 100000 in
theorem BJco_turnedOver_L4_s (L : Nat) (xs : Nat → Int32) (v0 : Int32) (lay : Lay) (h : Hp) (R : List Value × Lay × Hp) (v1 v2 : Int32) (o : ((Int32 × Int32) ⊕ (Int32 × Int32))) (hH : ∀ s : Int32 × Int32, o = .inl s → Bg L xs 8 4 [(0, .int v0), (1, .int s.1), (2, .int s.2)] [] lay h R) (hE : ∀ t : Int32 × Int32, o = .inr t → Bg L xs 8 31 [(0, .int v0), (1, .int t.1), (2, .int t.2)] [] lay h R) (e : Jco_turnedOver_L4 v0 v1 v2 = some o) : Bg L xs 8 4 [(0, .int v0), (1, .int v1), (2, .int v2)] [] lay h R := by
  refine seg_Bg (pc' := (if v2 < 8 then 10 else 31)) (lv' := [(0, .int v0), (1, .int v1), (2, .int v2)]) (st' := []) (lay' := lay) (h' := h) 3 rfl ?_
  refine pc_ite e (fun e => ?_) (fun e => ?_)
  · refine seg_Bg (pc' := 17) (lv' := [(0, .int v0), (1, .int v1), (2, .int v2)]) (st' := [.int ((7 : Int32) - v2), .int v0, .int 1, .int v1]) (lay' := lay) (h' := h) 6 rfl ?_
    refine call_Bg (a := 3) (la := [(0, .int v0), (1, .int ((7 : Int32) - v2))]) (np := 20) (lv' := [(0, .int v0), (1, .int v1), (2, .int v2)]) (rest := [.int 1, .int v1]) (res := fun r => ([.int r], lay, h)) rfl e (fun r e => BJco_tells L xs v0 ((7 : Int32) - v2) lay h r e) (fun c1 e => ?_)
    show Bg L xs 8 20 [(0, .int v0), (1, .int v1), (2, .int v2)] [.int c1, .int 1, .int v1] lay h R
    refine seg_Bg (pc' := 4) (lv' := [(0, .int v0), (1, .int (v1 ||| (((1 : Int32) - c1) <<< (v2 &&& 31) : Int32))), (2, .int (v2 + 1))]) (st' := []) (lay' := lay) (h' := h) 7 rfl ?_
    exact hH (v1 ||| (((1 : Int32) - c1) <<< (v2 &&& 31) : Int32), v2 + 1) (Option.some.inj e).symm
  · exact hE (v1, v2) (Option.some.inj e).symm
theorem BJco_turnedOver_L4 (L : Nat) (xs : Nat → Int32) (v0 : Int32) (lay : Lay) (h : Hp) (R : List Value × Lay × Hp) (C : (Int32 × Int32) → Prop) (hE : ∀ t : Int32 × Int32, C t → Bg L xs 8 31 [(0, .int v0), (1, .int t.1), (2, .int t.2)] [] lay h R) (n : Nat) (s : Int32 × Int32) (o : (Int32 × Int32)) (e : loopN n (fun s => Jco_turnedOver_L4 v0 s.1 s.2) s = some o) (hC : C o) : Bg L xs 8 4 [(0, .int v0), (1, .int s.1), (2, .int s.2)] [] lay h R := by
  refine loop_B (fun s => Jco_turnedOver_L4 v0 s.1 s.2) (fun s : Int32 × Int32 => Bg L xs 8 4 [(0, .int v0), (1, .int s.1), (2, .int s.2)] [] lay h R) C (fun s o e => ?_) n s o e hC
  intro hK
  refine BJco_turnedOver_L4_s L xs v0 lay h R s.1 s.2 o (fun s q => by subst q; exact hK) (fun t q => by subst q; exact hE t hK) e
set_option maxRecDepth 100000 in
theorem BJco_turnedOver (L : Nat) (xs : Nat → Int32) (v0 : Int32) (lay : Lay) (h : Hp) (o : Int32) (e : Jco_turnedOver v0 = some o) : Bg L xs 8 0 [(0, .int v0)] [] lay h ([.int o], lay, h) := by
  obtain ⟨R, hR⟩ : ∃ R : List Value × Lay × Hp, R = ([.int o], lay, h) := ⟨_, rfl⟩
  rw [← hR]
  refine seg_Bg (pc' := 4) (lv' := [(0, .int v0), (1, .int 0), (2, .int 0)]) (st' := []) (lay' := lay) (h' := h) 4 rfl ?_
  obtain ⟨t2o, et2o, e⟩ := bd_s e
  refine BJco_turnedOver_L4 L xs v0 lay h R (fun (t2 : Int32 × Int32) => (some t2.1) = some o) (fun t2 e => ?_) 1000000 (0, 0) _ et2o e
  refine seg_Bg (pc' := 32) (lv' := [(0, .int v0), (1, .int t2.1), (2, .int t2.2)]) (st' := [.int t2.1]) (lay' := lay) (h' := h) 1 rfl ?_
  rw [hR, ← Option.some.inj e]; exact ret_Bg rfl

set_option maxRecDepth 100000 in
theorem BJyn_function (L : Nat) (xs : Nat → Int32) (v1 : Int32) (v2 : Int32) (h : Hp) (o : Int32 × Hp) (e : Jyn_function v1 v2 h = some o) : Bg L xs 115 0 [(0, .ref 0), (1, .int v1), (2, .int v2)] [] LY70 h ([.int o.1], LY70, o.2) := by
  obtain ⟨R, hR⟩ : ∃ R : List Value × Lay × Hp, R = ([.int o.1], LY70, o.2) := ⟨_, rfl⟩
  rw [← hR]
  refine seg_Bg (pc' := 5) (lv' := [(0, .ref 0), (1, .int v1), (2, .int v2)]) (st' := [.int v1, .ref 29]) (lay' := LY70) (h' := h) 3 rfl ?_
  refine call_Bg (a := 76) (la := [(0, .ref 29), (1, .int v1)]) (np := 8) (lv' := [(0, .ref 0), (1, .int v1), (2, .int v2)]) (rest := []) (res := fun r => ([.int r], LY70, h)) rfl e (fun r e => BJsh_holds L xs v1 h r e) (fun c1 e => ?_)
  show Bg L xs 115 8 [(0, .ref 0), (1, .int v1), (2, .int v2)] [.int c1] LY70 h R
  refine seg_Bg (pc' := (if c1 = 0 then 11 else 14)) (lv' := [(0, .ref 0), (1, .int v1), (2, .int v2)]) (st' := []) (lay' := LY70) (h' := h) 1 rfl ?_
  refine pc_ite e (fun e => ?_) (fun e => ?_)
  · refine seg_Bg (pc' := 13) (lv' := [(0, .ref 0), (1, .int v1), (2, .int v2)]) (st' := [.int (-1000000001)]) (lay' := LY70) (h' := h) 1 rfl ?_
    rw [hR, ← Option.some.inj e]; exact ret_Bg rfl
  · refine seg_Bg (pc' := 19) (lv' := [(0, .ref 0), (1, .int v1), (2, .int v2)]) (st' := [.int v1, .ref 29]) (lay' := LY70) (h' := h) 3 rfl ?_
    refine call_Bg (a := 77) (la := [(0, .ref 29), (1, .int v1)]) (np := 22) (lv' := [(0, .ref 0), (1, .int v1), (2, .int v2)]) (rest := []) (res := fun r => ([.int r], LY70, h)) rfl e (fun r e => BJsh_codeAt L xs v1 h r e) (fun c2 e => ?_)
    show Bg L xs 115 22 [(0, .ref 0), (1, .int v1), (2, .int v2)] [.int c2] LY70 h R
    refine seg_Bg (pc' := (if v2 = 0 then 68 else if v2 = 1 then 70 else if v2 = 2 then 75 else if v2 = 3 then 80 else if v2 = 4 then 85 else if v2 = 5 then 94 else if v2 = 6 then 99 else 108)) (lv' := [(0, .ref 0), (1, .int v1), (2, .int v2), (3, .int c2)]) (st' := []) (lay' := LY70) (h' := h) 3 rfl ?_
    refine pc_ite e (fun e => ?_) (fun e => ?_)
    · refine seg_Bg (pc' := 69) (lv' := [(0, .ref 0), (1, .int v1), (2, .int v2), (3, .int c2)]) (st' := [.int c2]) (lay' := LY70) (h' := h) 1 rfl ?_
      rw [hR, ← Option.some.inj e]; exact ret_Bg rfl
    · refine pc_ite e (fun e => ?_) (fun e => ?_)
      · refine seg_Bg (pc' := 71) (lv' := [(0, .ref 0), (1, .int v1), (2, .int v2), (3, .int c2)]) (st' := [.int c2]) (lay' := LY70) (h' := h) 1 rfl ?_
        refine call_Bg (a := 10) (la := [(0, .int c2)]) (np := 74) (lv' := [(0, .ref 0), (1, .int v1), (2, .int v2), (3, .int c2)]) (rest := []) (res := fun r => ([.int r], LY70, h)) rfl e (fun r e => BJco_variablesOf L xs c2 LY70 h r e) (fun c3 e => ?_)
        show Bg L xs 115 74 [(0, .ref 0), (1, .int v1), (2, .int v2), (3, .int c2)] [.int c3] LY70 h R
        rw [hR, ← Option.some.inj e]; exact ret_Bg rfl
      · refine pc_ite e (fun e => ?_) (fun e => ?_)
        · refine seg_Bg (pc' := 76) (lv' := [(0, .ref 0), (1, .int v1), (2, .int v2), (3, .int c2)]) (st' := [.int c2]) (lay' := LY70) (h' := h) 1 rfl ?_
          refine call_Bg (a := 11) (la := [(0, .int c2)]) (np := 79) (lv' := [(0, .ref 0), (1, .int v1), (2, .int v2), (3, .int c2)]) (rest := []) (res := fun r => ([.int r], LY70, h)) rfl e (fun r e => BJco_arityOf L xs c2 LY70 h r e) (fun c4 e => ?_)
          show Bg L xs 115 79 [(0, .ref 0), (1, .int v1), (2, .int v2), (3, .int c2)] [.int c4] LY70 h R
          rw [hR, ← Option.some.inj e]; exact ret_Bg rfl
        · refine pc_ite e (fun e => ?_) (fun e => ?_)
          · refine seg_Bg (pc' := 81) (lv' := [(0, .ref 0), (1, .int v1), (2, .int v2), (3, .int c2)]) (st' := [.int c2]) (lay' := LY70) (h' := h) 1 rfl ?_
            refine call_Bg (a := 12) (la := [(0, .int c2)]) (np := 84) (lv' := [(0, .ref 0), (1, .int v1), (2, .int v2), (3, .int c2)]) (rest := []) (res := fun r => ([.int r], LY70, h)) rfl e (fun r e => BJco_sumOf L xs c2 LY70 h r e) (fun c5 e => ?_)
            show Bg L xs 115 84 [(0, .ref 0), (1, .int v1), (2, .int v2), (3, .int c2)] [.int c5] LY70 h R
            rw [hR, ← Option.some.inj e]; exact ret_Bg rfl
          · refine pc_ite e (fun e => ?_) (fun e => ?_)
            · refine seg_Bg (pc' := 90) (lv' := [(0, .ref 0), (1, .int v1), (2, .int v2), (3, .int c2)]) (st' := [.int c2, .ref 4]) (lay' := LY70) (h' := h) 3 rfl ?_
              refine call_Bg (a := 59) (la := [(0, .ref 4), (1, .int c2)]) (np := 93) (lv' := [(0, .ref 0), (1, .int v1), (2, .int v2), (3, .int c2)]) (rest := []) (res := fun r => ([.int r], LY70, h)) rfl e (fun r e => BJpl_traitsOf L xs c2 h r e) (fun c6 e => ?_)
              show Bg L xs 115 93 [(0, .ref 0), (1, .int v1), (2, .int v2), (3, .int c2)] [.int c6] LY70 h R
              rw [hR, ← Option.some.inj e]; exact ret_Bg rfl
            · refine pc_ite e (fun e => ?_) (fun e => ?_)
              · refine seg_Bg (pc' := 95) (lv' := [(0, .ref 0), (1, .int v1), (2, .int v2), (3, .int c2)]) (st' := [.int c2]) (lay' := LY70) (h' := h) 1 rfl ?_
                refine call_Bg (a := 8) (la := [(0, .int c2)]) (np := 98) (lv' := [(0, .ref 0), (1, .int v1), (2, .int v2), (3, .int c2)]) (rest := []) (res := fun r => ([.int r], LY70, h)) rfl e (fun r e => BJco_turnedOver L xs c2 LY70 h r e) (fun c7 e => ?_)
                show Bg L xs 115 98 [(0, .ref 0), (1, .int v1), (2, .int v2), (3, .int c2)] [.int c7] LY70 h R
                rw [hR, ← Option.some.inj e]; exact ret_Bg rfl
              · refine pc_ite e (fun e => ?_) (fun e => ?_)
                · refine seg_Bg (pc' := 100) (lv' := [(0, .ref 0), (1, .int v1), (2, .int v2), (3, .int c2)]) (st' := [.ref 0]) (lay' := LY70) (h' := h) 1 rfl ?_
                  refine call_Bg (a := 126) (la := [(0, .ref 0)]) (np := 103) (lv' := [(0, .ref 0), (1, .int v1), (2, .int v2), (3, .int c2)]) (rest := []) (res := fun r => ([.ref 10], LY70, r)) rfl e (fun r e => BJyn_reckoned L xs h r e) (fun c8 e => ?_)
                  show Bg L xs 115 103 [(0, .ref 0), (1, .int v1), (2, .int v2), (3, .int c2)] [.ref 10] LY70 c8 R
                  refine seg_Bg (pc' := 104) (lv' := [(0, .ref 0), (1, .int v1), (2, .int v2), (3, .int c2)]) (st' := [.int c2, .ref 10]) (lay' := LY70) (h' := c8) 1 rfl ?_
                  refine call_Bg (a := 33) (la := [(0, .ref 10), (1, .int c2)]) (np := 107) (lv' := [(0, .ref 0), (1, .int v1), (2, .int v2), (3, .int c2)]) (rest := []) (res := fun r => ([.int r], LY70, c8)) rfl e (fun r e => BJcs_costOf L xs c2 c8 r e) (fun c9 e => ?_)
                  show Bg L xs 115 107 [(0, .ref 0), (1, .int v1), (2, .int v2), (3, .int c2)] [.int c9] LY70 c8 R
                  rw [hR, ← Option.some.inj e]; exact ret_Bg rfl
                · refine seg_Bg (pc' := 110) (lv' := [(0, .ref 0), (1, .int v1), (2, .int v2), (3, .int c2)]) (st' := [.int (-1000000002)]) (lay' := LY70) (h' := h) 1 rfl ?_
                  rw [hR, ← Option.some.inj e]; exact ret_Bg rfl

set_option maxRecDepth 100000 in
theorem BJcs_topOf (L : Nat) (xs : Nat → Int32) (v1 : Int32) (h : Hp) (o : Int32) (e : Jcs_topOf v1 h = some o) : Bg L xs 34 0 [(0, .ref 10), (1, .int v1)] [] LY70 h ([.int o], LY70, h) := by
  obtain ⟨R, hR⟩ : ∃ R : List Value × Lay × Hp, R = ([.int o], LY70, h) := ⟨_, rfl⟩
  rw [← hR]
  refine seg_Bg (pc' := 1) (lv' := [(0, .ref 10), (1, .int v1)]) (st' := [.int v1]) (lay' := LY70) (h' := h) 1 rfl ?_
  refine call_Bg (a := 122) (la := [(0, .int v1)]) (np := 4) (lv' := [(0, .ref 10), (1, .int v1)]) (rest := []) (res := fun r => ([.int r], LY70, h)) rfl e (fun r e => BJyn_isCode L xs v1 LY70 h r e) (fun c1 e => ?_)
  show Bg L xs 34 4 [(0, .ref 10), (1, .int v1)] [.int c1] LY70 h R
  refine seg_Bg (pc' := (if c1 = 0 then 16 else 7)) (lv' := [(0, .ref 10), (1, .int v1)]) (st' := []) (lay' := LY70) (h' := h) 1 rfl ?_
  refine pc_ite e (fun e => ?_) (fun e => ?_)
  · refine seg_Bg (pc' := 17) (lv' := [(0, .ref 10), (1, .int v1)]) (st' := [.int (-1)]) (lay' := LY70) (h' := h) 1 rfl ?_
    rw [hR, ← Option.some.inj e]; exact ret_Bg rfl
  · refine seg_Bg (pc' := 12) (lv' := [(0, .ref 10), (1, .int v1)]) (st' := [.int v1, .ref 12]) (lay' := LY70) (h' := h) 3 rfl ?_
    refine gd_Bg (pc' := 13) (lv' := [(0, .ref 10), (1, .int v1)]) (st' := [.int (h 12 (Int32.toNatClampNeg v1))]) (lay' := LY70) (h' := h) (g := ibB v1 256) rfl e fun e => ?_
    refine seg_Bg (pc' := 17) (lv' := [(0, .ref 10), (1, .int v1)]) (st' := [.int (h 12 (Int32.toNatClampNeg v1))]) (lay' := LY70) (h' := h) 1 rfl ?_
    rw [hR, ← Option.some.inj e]; exact ret_Bg rfl

set_option maxRecDepth 100000 in
theorem BJcs_topCodeOf (L : Nat) (xs : Nat → Int32) (v1 : Int32) (h : Hp) (o : Int32) (e : Jcs_topCodeOf v1 h = some o) : Bg L xs 35 0 [(0, .ref 10), (1, .int v1)] [] LY70 h ([.int o], LY70, h) := by
  obtain ⟨R, hR⟩ : ∃ R : List Value × Lay × Hp, R = ([.int o], LY70, h) := ⟨_, rfl⟩
  rw [← hR]
  refine seg_Bg (pc' := 2) (lv' := [(0, .ref 10), (1, .int v1)]) (st' := [.int v1, .ref 10]) (lay' := LY70) (h' := h) 2 rfl ?_
  refine call_Bg (a := 34) (la := [(0, .ref 10), (1, .int v1)]) (np := 5) (lv' := [(0, .ref 10), (1, .int v1)]) (rest := []) (res := fun r => ([.int r], LY70, h)) rfl e (fun r e => BJcs_topOf L xs v1 h r e) (fun c1 e => ?_)
  show Bg L xs 35 5 [(0, .ref 10), (1, .int v1)] [.int c1] LY70 h R
  refine seg_Bg (pc' := (if c1 < 0 then 25 else 10)) (lv' := [(0, .ref 10), (1, .int v1), (2, .int c1)]) (st' := []) (lay' := LY70) (h' := h) 3 rfl ?_
  refine pc_ite e (fun e => ?_) (fun e => ?_)
  · refine seg_Bg (pc' := 26) (lv' := [(0, .ref 10), (1, .int v1), (2, .int c1)]) (st' := [.int 0]) (lay' := LY70) (h' := h) 1 rfl ?_
    rw [hR, ← Option.some.inj e]; exact ret_Bg rfl
  · refine seg_Bg (pc' := (if c1 < 6 then 16 else 25)) (lv' := [(0, .ref 10), (1, .int v1), (2, .int c1)]) (st' := []) (lay' := LY70) (h' := h) 3 rfl ?_
    refine pc_ite e (fun e => ?_) (fun e => ?_)
    · refine seg_Bg (pc' := 21) (lv' := [(0, .ref 10), (1, .int v1), (2, .int c1)]) (st' := [.int c1, .ref 17]) (lay' := LY70) (h' := h) 3 rfl ?_
      refine gd_Bg (pc' := 22) (lv' := [(0, .ref 10), (1, .int v1), (2, .int c1)]) (st' := [.int (h 17 (Int32.toNatClampNeg c1))]) (lay' := LY70) (h' := h) (g := ibB c1 6) rfl e fun e => ?_
      refine seg_Bg (pc' := 26) (lv' := [(0, .ref 10), (1, .int v1), (2, .int c1)]) (st' := [.int (h 17 (Int32.toNatClampNeg c1))]) (lay' := LY70) (h' := h) 1 rfl ?_
      rw [hR, ← Option.some.inj e]; exact ret_Bg rfl
    · refine seg_Bg (pc' := 26) (lv' := [(0, .ref 10), (1, .int v1), (2, .int c1)]) (st' := [.int 0]) (lay' := LY70) (h' := h) 1 rfl ?_
      rw [hR, ← Option.some.inj e]; exact ret_Bg rfl

set_option maxRecDepth 100000 in
theorem BJpu_begin_1 (L : Nat) (xs : Nat → Int32) (v1 : Int32) (h : Hp) (o : Hp) (e : Jpu_begin_1 v1 h = some o) : Bg L xs 63 0 [(0, .ref 20), (1, .int v1)] [] LY70 h ([], LY70, o) := by
  obtain ⟨R, hR⟩ : ∃ R : List Value × Lay × Hp, R = ([], LY70, o) := ⟨_, rfl⟩
  rw [← hR]
  refine seg_Bg (pc' := 2) (lv' := [(0, .ref 20), (1, .int v1)]) (st' := [.int v1, .ref 20]) (lay' := LY70) (h' := h) 2 rfl ?_
  refine put_Bg (pc' := 5) (lv' := [(0, .ref 20), (1, .int v1)]) (st' := []) (lay' := LY70) (x := hset h 20 0 v1) rfl e fun h1 e => ?_
  refine seg_Bg (pc' := 7) (lv' := [(0, .ref 20), (1, .int v1)]) (st' := [.int v1, .ref 20]) (lay' := LY70) (h' := h1) 2 rfl ?_
  refine call_Bg (a := 10) (la := [(0, .int v1)]) (np := 10) (lv' := [(0, .ref 20), (1, .int v1)]) (rest := [.ref 20]) (res := fun r => ([.int r], LY70, h1)) rfl e (fun r e => BJco_variablesOf L xs v1 LY70 h1 r e) (fun c2 e => ?_)
  show Bg L xs 63 10 [(0, .ref 20), (1, .int v1)] [.int c2, .ref 20] LY70 h1 R
  refine put_Bg (pc' := 13) (lv' := [(0, .ref 20), (1, .int v1)]) (st' := []) (lay' := LY70) (x := hset h1 20 1 c2) rfl e fun h3 e => ?_
  refine seg_Bg (pc' := 15) (lv' := [(0, .ref 20), (1, .int v1)]) (st' := [.int v1, .ref 20]) (lay' := LY70) (h' := h3) 2 rfl ?_
  refine call_Bg (a := 11) (la := [(0, .int v1)]) (np := 18) (lv' := [(0, .ref 20), (1, .int v1)]) (rest := [.ref 20]) (res := fun r => ([.int r], LY70, h3)) rfl e (fun r e => BJco_arityOf L xs v1 LY70 h3 r e) (fun c4 e => ?_)
  show Bg L xs 63 18 [(0, .ref 20), (1, .int v1)] [.int c4, .ref 20] LY70 h3 R
  refine put_Bg (pc' := 21) (lv' := [(0, .ref 20), (1, .int v1)]) (st' := []) (lay' := LY70) (x := hset h3 20 2 c4) rfl e fun h5 e => ?_
  rw [hR, ← Option.some.inj e]; exact ret_Bg rfl

set_option maxRecDepth 100000 in
theorem BJpu_hangsOn_1 (L : Nat) (xs : Nat → Int32) (v1 : Int32) (h : Hp) (o : Int32) (e : Jpu_hangsOn_1 v1 h = some o) : Bg L xs 65 0 [(0, .ref 20), (1, .int v1)] [] LY70 h ([.int o], LY70, h) := by
  obtain ⟨R, hR⟩ : ∃ R : List Value × Lay × Hp, R = ([.int o], LY70, h) := ⟨_, rfl⟩
  rw [← hR]
  refine seg_Bg (pc' := (if (((h 20 1) >>> (v1 &&& 31) : Int32) &&& (1 : Int32)) = 0 then 15 else 11)) (lv' := [(0, .ref 20), (1, .int v1)]) (st' := []) (lay' := LY70) (h' := h) 7 rfl ?_
  refine pc_ite e (fun e => ?_) (fun e => ?_)
  · refine seg_Bg (pc' := 16) (lv' := [(0, .ref 20), (1, .int v1)]) (st' := [.int 0]) (lay' := LY70) (h' := h) 1 rfl ?_
    rw [hR, ← Option.some.inj e]; exact ret_Bg rfl
  · refine seg_Bg (pc' := 16) (lv' := [(0, .ref 20), (1, .int v1)]) (st' := [.int 1]) (lay' := LY70) (h' := h) 2 rfl ?_
    rw [hR, ← Option.some.inj e]; exact ret_Bg rfl

set_option maxRecDepth 100000 in
theorem BJwy_isPart (L : Nat) (xs : Nat → Int32) (v1 : Int32) (v2 : Int32) (v3 : Int32) (h : Hp) (o : Int32) (e : Jwy_isPart v1 v2 v3 h = some o) : Bg L xs 103 0 [(0, .ref 9), (1, .int v1), (2, .int v2), (3, .int v3)] [] LY70 h ([.int o], LY70, h) := by
  obtain ⟨R, hR⟩ : ∃ R : List Value × Lay × Hp, R = ([.int o], LY70, h) := ⟨_, rfl⟩
  rw [← hR]
  refine seg_Bg (pc' := 5) (lv' := [(0, .ref 9), (1, .int v1), (2, .int v2), (3, .int v3)]) (st' := [.int v2, .ref 20]) (lay' := LY70) (h' := h) 3 rfl ?_
  refine call_Bg (a := 65) (la := [(0, .ref 20), (1, .int v2)]) (np := 8) (lv' := [(0, .ref 9), (1, .int v1), (2, .int v2), (3, .int v3)]) (rest := []) (res := fun r => ([.int r], LY70, h)) rfl e (fun r e => BJpu_hangsOn_1 L xs v2 h r e) (fun c1 e => ?_)
  show Bg L xs 103 8 [(0, .ref 9), (1, .int v1), (2, .int v2), (3, .int v3)] [.int c1] LY70 h R
  refine seg_Bg (pc' := (if c1 = 0 then 11 else 24)) (lv' := [(0, .ref 9), (1, .int v1), (2, .int v2), (3, .int v3)]) (st' := []) (lay' := LY70) (h' := h) 1 rfl ?_
  refine pc_ite e (fun e => ?_) (fun e => ?_)
  · refine seg_Bg (pc' := (if v1 = 170 then 18 else 22)) (lv' := [(0, .ref 9), (1, .int v1), (2, .int v2), (3, .int v3)]) (st' := []) (lay' := LY70) (h' := h) 3 rfl ?_
    refine pc_ite e (fun e => ?_) (fun e => ?_)
    · refine seg_Bg (pc' := 23) (lv' := [(0, .ref 9), (1, .int v1), (2, .int v2), (3, .int v3)]) (st' := [.int 1]) (lay' := LY70) (h' := h) 2 rfl ?_
      rw [hR, ← Option.some.inj e]; exact ret_Bg rfl
    · refine seg_Bg (pc' := 23) (lv' := [(0, .ref 9), (1, .int v1), (2, .int v2), (3, .int v3)]) (st' := [.int 0]) (lay' := LY70) (h' := h) 1 rfl ?_
      rw [hR, ← Option.some.inj e]; exact ret_Bg rfl
  · refine seg_Bg (pc' := 29) (lv' := [(0, .ref 9), (1, .int v1), (2, .int v2), (3, .int v3)]) (st' := [.int v1, .ref 10]) (lay' := LY70) (h' := h) 3 rfl ?_
    refine call_Bg (a := 33) (la := [(0, .ref 10), (1, .int v1)]) (np := 32) (lv' := [(0, .ref 9), (1, .int v1), (2, .int v2), (3, .int v3)]) (rest := []) (res := fun r => ([.int r], LY70, h)) rfl e (fun r e => BJcs_costOf L xs v1 h r e) (fun c2 e => ?_)
    show Bg L xs 103 32 [(0, .ref 9), (1, .int v1), (2, .int v2), (3, .int v3)] [.int c2] LY70 h R
    refine seg_Bg (pc' := (if c2 = (-1) then 50 else 40)) (lv' := [(0, .ref 9), (1, .int v1), (2, .int v2), (3, .int v3), (4, .int c2)]) (st' := []) (lay' := LY70) (h' := h) 4 rfl ?_
    refine pc_ite e (fun e => ?_) (fun e => ?_)
    · refine seg_Bg (pc' := 51) (lv' := [(0, .ref 9), (1, .int v1), (2, .int v2), (3, .int v3), (4, .int c2)]) (st' := [.int 0]) (lay' := LY70) (h' := h) 1 rfl ?_
      rw [hR, ← Option.some.inj e]; exact ret_Bg rfl
    · refine seg_Bg (pc' := (if v3 < c2 then 50 else 46)) (lv' := [(0, .ref 9), (1, .int v1), (2, .int v2), (3, .int v3), (4, .int c2)]) (st' := []) (lay' := LY70) (h' := h) 3 rfl ?_
      refine pc_ite e (fun e => ?_) (fun e => ?_)
      · refine seg_Bg (pc' := 51) (lv' := [(0, .ref 9), (1, .int v1), (2, .int v2), (3, .int v3), (4, .int c2)]) (st' := [.int 0]) (lay' := LY70) (h' := h) 1 rfl ?_
        rw [hR, ← Option.some.inj e]; exact ret_Bg rfl
      · refine seg_Bg (pc' := 51) (lv' := [(0, .ref 9), (1, .int v1), (2, .int v2), (3, .int v3), (4, .int c2)]) (st' := [.int 1]) (lay' := LY70) (h' := h) 2 rfl ?_
        rw [hR, ← Option.some.inj e]; exact ret_Bg rfl

set_option maxRecDepth 100000 in
theorem BJpu_spread_1 (L : Nat) (xs : Nat → Int32) (v1 : Int32) (h : Hp) (o : Int32) (e : Jpu_spread_1 v1 h = some o) : Bg L xs 71 0 [(0, .ref 20), (1, .int v1)] [] LY70 h ([.int o], LY70, h) := by
  obtain ⟨R, hR⟩ : ∃ R : List Value × Lay × Hp, R = ([.int o], LY70, h) := ⟨_, rfl⟩
  rw [← hR]
  refine seg_Bg (pc' := 5) (lv' := [(0, .ref 20), (1, .int v1)]) (st' := [.int v1, .int (h 20 0)]) (lay' := LY70) (h' := h) 3 rfl ?_
  refine call_Bg (a := 3) (la := [(0, .int (h 20 0)), (1, .int v1)]) (np := 8) (lv' := [(0, .ref 20), (1, .int v1)]) (rest := []) (res := fun r => ([.int r], LY70, h)) rfl e (fun r e => BJco_tells L xs (h 20 0) v1 LY70 h r e) (fun c1 e => ?_)
  show Bg L xs 71 8 [(0, .ref 20), (1, .int v1)] [.int c1] LY70 h R
  refine seg_Bg (pc' := (if c1 = 1 then 12 else 18)) (lv' := [(0, .ref 20), (1, .int v1)]) (st' := []) (lay' := LY70) (h' := h) 2 rfl ?_
  refine pc_ite e (fun e => ?_) (fun e => ?_)
  · refine seg_Bg (pc' := 19) (lv' := [(0, .ref 20), (1, .int v1)]) (st' := [.int 255]) (lay' := LY70) (h' := h) 2 rfl ?_
    rw [hR, ← Option.some.inj e]; exact ret_Bg rfl
  · refine seg_Bg (pc' := 19) (lv' := [(0, .ref 20), (1, .int v1)]) (st' := [.int 0]) (lay' := LY70) (h' := h) 1 rfl ?_
    rw [hR, ← Option.some.inj e]; exact ret_Bg rfl

set_option maxRecDepth 100000 in
theorem BJpu_first_1_L2_s (L : Nat) (xs : Nat → Int32) (v1 : Int32) (R : List Value × Lay × Hp) (v2 : Int32) (h : Hp) (o : ((Int32 × Hp) ⊕ (Int32 × Hp))) (hH : ∀ s : Int32 × Hp, o = .inl s → Bg L xs 66 2 [(0, .ref 20), (1, .int v1), (2, .int s.1)] [] LY70 s.2 R) (hE : ∀ t : Int32 × Hp, o = .inr t → Bg L xs 66 35 [(0, .ref 20), (1, .int v1), (2, .int t.1)] [] LY70 t.2 R) (e : Jpu_first_1_L2 v1 v2 h = some o) : Bg L xs 66 2 [(0, .ref 20), (1, .int v1), (2, .int v2)] [] LY70 h R := by
  refine seg_Bg (pc' := (if v2 < 4 then 7 else 35)) (lv' := [(0, .ref 20), (1, .int v1), (2, .int v2)]) (st' := []) (lay' := LY70) (h' := h) 3 rfl ?_
  refine pc_ite e (fun e => ?_) (fun e => ?_)
  · refine seg_Bg (pc' := 17) (lv' := [(0, .ref 20), (1, .int v1), (2, .int v2)]) (st' := [.int ((4 : Int32) + v2), .ref 20, .int v1, .int v2, .ref 21]) (lay' := LY70) (h' := h) 8 rfl ?_
    refine call_Bg (a := 71) (la := [(0, .ref 20), (1, .int ((4 : Int32) + v2))]) (np := 20) (lv' := [(0, .ref 20), (1, .int v1), (2, .int v2)]) (rest := [.int v1, .int v2, .ref 21]) (res := fun r => ([.int r], LY70, h)) rfl e (fun r e => BJpu_spread_1 L xs ((4 : Int32) + v2) h r e) (fun c1 e => ?_)
    show Bg L xs 66 20 [(0, .ref 20), (1, .int v1), (2, .int v2)] [.int c1, .int v1, .int v2, .ref 21] LY70 h R
    refine seg_Bg (pc' := 22) (lv' := [(0, .ref 20), (1, .int v1), (2, .int v2)]) (st' := [.int v2, .ref 20, .int c1, .int v1, .int v2, .ref 21]) (lay' := LY70) (h' := h) 2 rfl ?_
    refine call_Bg (a := 71) (la := [(0, .ref 20), (1, .int v2)]) (np := 25) (lv' := [(0, .ref 20), (1, .int v1), (2, .int v2)]) (rest := [.int c1, .int v1, .int v2, .ref 21]) (res := fun r => ([.int r], LY70, h)) rfl e (fun r e => BJpu_spread_1 L xs v2 h r e) (fun c2 e => ?_)
    show Bg L xs 66 25 [(0, .ref 20), (1, .int v1), (2, .int v2)] [.int c2, .int c1, .int v1, .int v2, .ref 21] LY70 h R
    refine call_Bg (a := 72) (la := [(0, .int v1), (1, .int c1), (2, .int c2)]) (np := 28) (lv' := [(0, .ref 20), (1, .int v1), (2, .int v2)]) (rest := [.int v2, .ref 21]) (res := fun r => ([.int r], LY70, h)) rfl e (fun r e => BJpu_choose L xs v1 c1 c2 LY70 h r e) (fun c3 e => ?_)
    show Bg L xs 66 28 [(0, .ref 20), (1, .int v1), (2, .int v2)] [.int c3, .int v2, .ref 21] LY70 h R
    refine gp_Bg (pc' := 29) (lv' := [(0, .ref 20), (1, .int v1), (2, .int v2)]) (st' := []) (lay' := LY70) (x := hset h 21 (Int32.toNatClampNeg v2) c3) (g := ibB v2 4) rfl e fun h4 e => ?_
    refine seg_Bg (pc' := 2) (lv' := [(0, .ref 20), (1, .int v1), (2, .int (v2 + 1))]) (st' := []) (lay' := LY70) (h' := h4) 2 rfl ?_
    exact hH (v2 + 1, h4) (Option.some.inj e).symm
  · exact hE (v2, h) (Option.some.inj e).symm
theorem BJpu_first_1_L2 (L : Nat) (xs : Nat → Int32) (v1 : Int32) (R : List Value × Lay × Hp) (C : (Int32 × Hp) → Prop) (hE : ∀ t : Int32 × Hp, C t → Bg L xs 66 35 [(0, .ref 20), (1, .int v1), (2, .int t.1)] [] LY70 t.2 R) (n : Nat) (s : Int32 × Hp) (o : (Int32 × Hp)) (e : loopN n (fun s => Jpu_first_1_L2 v1 s.1 s.2) s = some o) (hC : C o) : Bg L xs 66 2 [(0, .ref 20), (1, .int v1), (2, .int s.1)] [] LY70 s.2 R := by
  refine loop_B (fun s => Jpu_first_1_L2 v1 s.1 s.2) (fun s : Int32 × Hp => Bg L xs 66 2 [(0, .ref 20), (1, .int v1), (2, .int s.1)] [] LY70 s.2 R) C (fun s o e => ?_) n s o e hC
  intro hK
  refine BJpu_first_1_L2_s L xs v1 R s.1 s.2 o (fun s q => by subst q; exact hK) (fun t q => by subst q; exact hE t hK) e
set_option maxRecDepth 100000 in
theorem BJpu_first_1 (L : Nat) (xs : Nat → Int32) (v1 : Int32) (h : Hp) (o : Hp) (e : Jpu_first_1 v1 h = some o) : Bg L xs 66 0 [(0, .ref 20), (1, .int v1)] [] LY70 h ([], LY70, o) := by
  obtain ⟨R, hR⟩ : ∃ R : List Value × Lay × Hp, R = ([], LY70, o) := ⟨_, rfl⟩
  rw [← hR]
  refine seg_Bg (pc' := 2) (lv' := [(0, .ref 20), (1, .int v1), (2, .int 0)]) (st' := []) (lay' := LY70) (h' := h) 2 rfl ?_
  obtain ⟨t5o, et5o, e⟩ := bd_s e
  refine BJpu_first_1_L2 L xs v1 R (fun (t5 : Int32 × Hp) => (some t5.2) = some o) (fun t5 e => ?_) 1000000 (0, h) _ et5o e
  rw [hR, ← Option.some.inj e]; exact ret_Bg rfl

set_option maxRecDepth 100000 in
theorem BJpu_mayBecome_1_L9_s (L : Nat) (xs : Nat → Int32) (v1 : Int32) (h : Hp) (R : List Value × Lay × Hp) (v2 v3 v4 : Int32) (o : ((Int32 × Int32 × Int32) ⊕ (Int32 × Int32 × Int32))) (hH : ∀ s : Int32 × Int32 × Int32, o = .inl s → Bg L xs 67 9 [(0, .ref 20), (1, .int v1), (2, .int s.1), (3, .int s.2.1), (4, .int s.2.2)] [] LY70 h R) (hE : ∀ t : Int32 × Int32 × Int32, o = .inr t → Bg L xs 67 41 [(0, .ref 20), (1, .int v1), (2, .int t.1), (3, .int t.2.1), (4, .int t.2.2)] [] LY70 h R) (e : Jpu_mayBecome_1_L9 v1 h v2 v3 v4 = some o) : Bg L xs 67 9 [(0, .ref 20), (1, .int v1), (2, .int v2), (3, .int v3), (4, .int v4)] [] LY70 h R := by
  refine seg_Bg (pc' := (if v4 < 4 then 15 else 41)) (lv' := [(0, .ref 20), (1, .int v1), (2, .int v2), (3, .int v3), (4, .int v4)]) (st' := []) (lay' := LY70) (h' := h) 3 rfl ?_
  refine pc_ite e (fun e => ?_) (fun e => ?_)
  · refine seg_Bg (pc' := 22) (lv' := [(0, .ref 20), (1, .int v1), (2, .int v2), (3, .int v3), (4, .int v4)]) (st' := [.int v4, .ref 21, .int v2]) (lay' := LY70) (h' := h) 4 rfl ?_
    refine gd_Bg (pc' := 23) (lv' := [(0, .ref 20), (1, .int v1), (2, .int v2), (3, .int v3), (4, .int v4)]) (st' := [.int (h 21 (Int32.toNatClampNeg v4)), .int v2]) (lay' := LY70) (h' := h) (g := ibB v4 4) rfl e fun e => ?_
    refine seg_Bg (pc' := 32) (lv' := [(0, .ref 20), (1, .int v1), (2, .int (v2 ||| (h 21 (Int32.toNatClampNeg v4)))), (3, .int v3), (4, .int v4)]) (st' := [.int v4, .ref 21, .int v3]) (lay' := LY70) (h' := h) 6 rfl ?_
    refine gd_Bg (pc' := 33) (lv' := [(0, .ref 20), (1, .int v1), (2, .int (v2 ||| (h 21 (Int32.toNatClampNeg v4)))), (3, .int v3), (4, .int v4)]) (st' := [.int (h 21 (Int32.toNatClampNeg v4)), .int v3]) (lay' := LY70) (h' := h) (g := ibB v4 4) rfl e fun e => ?_
    refine seg_Bg (pc' := 9) (lv' := [(0, .ref 20), (1, .int v1), (2, .int (v2 ||| (h 21 (Int32.toNatClampNeg v4)))), (3, .int (v3 &&& (h 21 (Int32.toNatClampNeg v4)))), (4, .int (v4 + 1))]) (st' := []) (lay' := LY70) (h' := h) 4 rfl ?_
    exact hH (v2 ||| (h 21 (Int32.toNatClampNeg v4)), v3 &&& (h 21 (Int32.toNatClampNeg v4)), v4 + 1) (Option.some.inj e).symm
  · exact hE (v2, v3, v4) (Option.some.inj e).symm
theorem BJpu_mayBecome_1_L9 (L : Nat) (xs : Nat → Int32) (v1 : Int32) (h : Hp) (R : List Value × Lay × Hp) (C : (Int32 × Int32 × Int32) → Prop) (hE : ∀ t : Int32 × Int32 × Int32, C t → Bg L xs 67 41 [(0, .ref 20), (1, .int v1), (2, .int t.1), (3, .int t.2.1), (4, .int t.2.2)] [] LY70 h R) (n : Nat) (s : Int32 × Int32 × Int32) (o : (Int32 × Int32 × Int32)) (e : loopN n (fun s => Jpu_mayBecome_1_L9 v1 h s.1 s.2.1 s.2.2) s = some o) (hC : C o) : Bg L xs 67 9 [(0, .ref 20), (1, .int v1), (2, .int s.1), (3, .int s.2.1), (4, .int s.2.2)] [] LY70 h R := by
  refine loop_B (fun s => Jpu_mayBecome_1_L9 v1 h s.1 s.2.1 s.2.2) (fun s : Int32 × Int32 × Int32 => Bg L xs 67 9 [(0, .ref 20), (1, .int v1), (2, .int s.1), (3, .int s.2.1), (4, .int s.2.2)] [] LY70 h R) C (fun s o e => ?_) n s o e hC
  intro hK
  refine BJpu_mayBecome_1_L9_s L xs v1 h R s.1 s.2.1 s.2.2 o (fun s q => by subst q; exact hK) (fun t q => by subst q; exact hE t hK) e
set_option maxRecDepth 100000 in
theorem BJpu_mayBecome_1 (L : Nat) (xs : Nat → Int32) (v1 : Int32) (h : Hp) (o : Int32) (e : Jpu_mayBecome_1 v1 h = some o) : Bg L xs 67 0 [(0, .ref 20), (1, .int v1)] [] LY70 h ([.int o], LY70, h) := by
  obtain ⟨R, hR⟩ : ∃ R : List Value × Lay × Hp, R = ([.int o], LY70, h) := ⟨_, rfl⟩
  rw [← hR]
  refine seg_Bg (pc' := 9) (lv' := [(0, .ref 20), (1, .int v1), (2, .int 0), (3, .int 255), (4, .int 0)]) (st' := []) (lay' := LY70) (h' := h) 6 rfl ?_
  obtain ⟨t1o, et1o, e⟩ := bd_s e
  refine BJpu_mayBecome_1_L9 L xs v1 h R (fun (t1 : Int32 × Int32 × Int32) => (if (v1 &&& (t1.1 ^^^ (-1 : Int32))) = 0 then if (t1.2.1 &&& (v1 ^^^ (-1 : Int32))) = 0 then some 1 else some 0 else some 0) = some o) (fun t1 e => ?_) 1000000 (0, 255, 0) _ et1o e
  refine seg_Bg (pc' := (if (v1 &&& (t1.1 ^^^ (-1 : Int32))) = 0 then 49 else 61)) (lv' := [(0, .ref 20), (1, .int v1), (2, .int t1.1), (3, .int t1.2.1), (4, .int t1.2.2)]) (st' := []) (lay' := LY70) (h' := h) 6 rfl ?_
  refine pc_ite e (fun e => ?_) (fun e => ?_)
  · refine seg_Bg (pc' := (if (t1.2.1 &&& (v1 ^^^ (-1 : Int32))) = 0 then 57 else 61)) (lv' := [(0, .ref 20), (1, .int v1), (2, .int t1.1), (3, .int t1.2.1), (4, .int t1.2.2)]) (st' := []) (lay' := LY70) (h' := h) 6 rfl ?_
    refine pc_ite e (fun e => ?_) (fun e => ?_)
    · refine seg_Bg (pc' := 62) (lv' := [(0, .ref 20), (1, .int v1), (2, .int t1.1), (3, .int t1.2.1), (4, .int t1.2.2)]) (st' := [.int 1]) (lay' := LY70) (h' := h) 2 rfl ?_
      rw [hR, ← Option.some.inj e]; exact ret_Bg rfl
    · refine seg_Bg (pc' := 62) (lv' := [(0, .ref 20), (1, .int v1), (2, .int t1.1), (3, .int t1.2.1), (4, .int t1.2.2)]) (st' := [.int 0]) (lay' := LY70) (h' := h) 1 rfl ?_
      rw [hR, ← Option.some.inj e]; exact ret_Bg rfl
  · refine seg_Bg (pc' := 62) (lv' := [(0, .ref 20), (1, .int v1), (2, .int t1.1), (3, .int t1.2.1), (4, .int t1.2.2)]) (st' := [.int 0]) (lay' := LY70) (h' := h) 1 rfl ?_
    rw [hR, ← Option.some.inj e]; exact ret_Bg rfl

set_option maxRecDepth 100000 in
theorem BJpu_second_1 (L : Nat) (xs : Nat → Int32) (v1 : Int32) (h : Hp) (o : Hp) (e : Jpu_second_1 v1 h = some o) : Bg L xs 68 0 [(0, .ref 20), (1, .int v1)] [] LY70 h ([], LY70, o) := by
  obtain ⟨R, hR⟩ : ∃ R : List Value × Lay × Hp, R = ([], LY70, o) := ⟨_, rfl⟩
  rw [← hR]
  refine seg_Bg (pc' := 14) (lv' := [(0, .ref 20), (1, .int v1)]) (st' := [.int (h 21 0), .int (h 21 2), .int v1, .ref 20]) (lay' := LY70) (h' := h) 10 rfl ?_
  refine call_Bg (a := 72) (la := [(0, .int v1), (1, .int (h 21 2)), (2, .int (h 21 0))]) (np := 17) (lv' := [(0, .ref 20), (1, .int v1)]) (rest := [.ref 20]) (res := fun r => ([.int r], LY70, h)) rfl e (fun r e => BJpu_choose L xs v1 (h 21 2) (h 21 0) LY70 h r e) (fun c1 e => ?_)
  show Bg L xs 68 17 [(0, .ref 20), (1, .int v1)] [.int c1, .ref 20] LY70 h R
  refine put_Bg (pc' := 20) (lv' := [(0, .ref 20), (1, .int v1)]) (st' := []) (lay' := LY70) (x := hset h 20 4 c1) rfl e fun h2 e => ?_
  refine seg_Bg (pc' := 38) (lv' := [(0, .ref 20), (1, .int v1)]) (st' := [.int (h2 21 1), .int (h2 21 3), .int v1, .int (h2 20 4), .ref 20]) (lay' := LY70) (h' := h2) 12 rfl ?_
  refine call_Bg (a := 72) (la := [(0, .int v1), (1, .int (h2 21 3)), (2, .int (h2 21 1))]) (np := 41) (lv' := [(0, .ref 20), (1, .int v1)]) (rest := [.int (h2 20 4), .ref 20]) (res := fun r => ([.int r], LY70, h2)) rfl e (fun r e => BJpu_choose L xs v1 (h2 21 3) (h2 21 1) LY70 h2 r e) (fun c3 e => ?_)
  show Bg L xs 68 41 [(0, .ref 20), (1, .int v1)] [.int c3, .int (h2 20 4), .ref 20] LY70 h2 R
  refine seg_Bg (pc' := 42) (lv' := [(0, .ref 20), (1, .int v1)]) (st' := [.int ((h2 20 4) ^^^ c3), .ref 20]) (lay' := LY70) (h' := h2) 1 rfl ?_
  refine put_Bg (pc' := 45) (lv' := [(0, .ref 20), (1, .int v1)]) (st' := []) (lay' := LY70) (x := hset h2 20 5 ((h2 20 4) ^^^ c3)) rfl e fun h4 e => ?_
  rw [hR, ← Option.some.inj e]; exact ret_Bg rfl

set_option maxRecDepth 100000 in
theorem BJpu_canBecome_1 (L : Nat) (xs : Nat → Int32) (v1 : Int32) (h : Hp) (o : Int32) (e : Jpu_canBecome_1 v1 h = some o) : Bg L xs 69 0 [(0, .ref 20), (1, .int v1)] [] LY70 h ([.int o], LY70, h) := by
  obtain ⟨R, hR⟩ : ∃ R : List Value × Lay × Hp, R = ([.int o], LY70, h) := ⟨_, rfl⟩
  rw [← hR]
  refine seg_Bg (pc' := (if ((v1 ^^^ (h 20 4)) &&& ((h 20 5) ^^^ (-1 : Int32))) = 0 then 16 else 20)) (lv' := [(0, .ref 20), (1, .int v1)]) (st' := []) (lay' := LY70) (h' := h) 10 rfl ?_
  refine pc_ite e (fun e => ?_) (fun e => ?_)
  · refine seg_Bg (pc' := 21) (lv' := [(0, .ref 20), (1, .int v1)]) (st' := [.int 1]) (lay' := LY70) (h' := h) 2 rfl ?_
    rw [hR, ← Option.some.inj e]; exact ret_Bg rfl
  · refine seg_Bg (pc' := 21) (lv' := [(0, .ref 20), (1, .int v1)]) (st' := [.int 0]) (lay' := LY70) (h' := h) 1 rfl ?_
    rw [hR, ← Option.some.inj e]; exact ret_Bg rfl

set_option maxRecDepth 100000 in
theorem BJpu_arity (L : Nat) (xs : Nat → Int32) (h : Hp) (o : Int32) (e : Jpu_arity h = some o) : Bg L xs 64 0 [(0, .ref 20)] [] LY70 h ([.int o], LY70, h) := by
  obtain ⟨R, hR⟩ : ∃ R : List Value × Lay × Hp, R = ([.int o], LY70, h) := ⟨_, rfl⟩
  rw [← hR]
  refine seg_Bg (pc' := 4) (lv' := [(0, .ref 20)]) (st' := [.int (h 20 2)]) (lay' := LY70) (h' := h) 2 rfl ?_
  rw [hR, ← Option.some.inj e]; exact ret_Bg rfl

set_option maxRecDepth 100000 in
theorem BJwy_know_J63 (L : Nat) (xs : Nat → Int32) (v1 v2 v3 v4 s1 s2 : Int32) (h : Hp) (o : (Hp)) (e : Jwy_know_J63 v1 v2 v3 v4 s1 s2 h = some o) (R : List Value × Lay × Hp) (hR : R = ([], LY70, o)) : Bg L xs 104 63 [(0, .ref 9), (1, .int v1), (2, .int v2), (3, .int v3), (4, .int v4)] [.int s2, .int s1, .ref 22] LY70 h R := by
  refine gp_Bg (pc' := 64) (lv' := [(0, .ref 9), (1, .int v1), (2, .int v2), (3, .int v3), (4, .int v4)]) (st' := []) (lay' := LY70) (x := hset h 22 (Int32.toNatClampNeg s1) s2) (g := ibB s1 768) rfl e fun h6 e => ?_
  refine seg_Bg (pc' := 77) (lv' := [(0, .ref 9), (1, .int v1), (2, .int v2), (3, .int v3), (4, .int v4)]) (st' := [.ref 20, .int (((3 : Int32) * v1) + (2 : Int32)), .ref 22]) (lay' := LY70) (h' := h6) 9 rfl ?_
  refine call_Bg (a := 64) (la := [(0, .ref 20)]) (np := 80) (lv' := [(0, .ref 9), (1, .int v1), (2, .int v2), (3, .int v3), (4, .int v4)]) (rest := [.int (((3 : Int32) * v1) + (2 : Int32)), .ref 22]) (res := fun r => ([.int r], LY70, h6)) rfl e (fun r e => BJpu_arity L xs h6 r e) (fun c7 e => ?_)
  show Bg L xs 104 80 [(0, .ref 9), (1, .int v1), (2, .int v2), (3, .int v3), (4, .int v4)] [.int c7, .int (((3 : Int32) * v1) + (2 : Int32)), .ref 22] LY70 h6 R
  refine seg_Bg (pc' := (if 2 < c7 then 84 else 89)) (lv' := [(0, .ref 9), (1, .int v1), (2, .int v2), (3, .int v3), (4, .int v4)]) (st' := [.int (((3 : Int32) * v1) + (2 : Int32)), .ref 22]) (lay' := LY70) (h' := h6) 2 rfl ?_
  refine pc_ite e (fun e => ?_) (fun e => ?_)
  · refine seg_Bg (pc' := 90) (lv' := [(0, .ref 9), (1, .int v1), (2, .int v2), (3, .int v3), (4, .int v4)]) (st' := [.int v4, .int (((3 : Int32) * v1) + (2 : Int32)), .ref 22]) (lay' := LY70) (h' := h6) 2 rfl ?_
    refine gp_Bg (pc' := 91) (lv' := [(0, .ref 9), (1, .int v1), (2, .int v2), (3, .int v3), (4, .int v4)]) (st' := []) (lay' := LY70) (x := hset h6 22 (Int32.toNatClampNeg (((3 : Int32) * v1) + (2 : Int32))) v4) (g := ibB (((3 : Int32) * v1) + (2 : Int32)) 768) rfl e fun h8 e => ?_
    rw [hR, ← Option.some.inj e]; exact ret_Bg rfl
  · refine seg_Bg (pc' := 90) (lv' := [(0, .ref 9), (1, .int v1), (2, .int v2), (3, .int v3), (4, .int v4)]) (st' := [.int (-1), .int (((3 : Int32) * v1) + (2 : Int32)), .ref 22]) (lay' := LY70) (h' := h6) 1 rfl ?_
    refine gp_Bg (pc' := 91) (lv' := [(0, .ref 9), (1, .int v1), (2, .int v2), (3, .int v3), (4, .int v4)]) (st' := []) (lay' := LY70) (x := hset h6 22 (Int32.toNatClampNeg (((3 : Int32) * v1) + (2 : Int32))) (-1)) (g := ibB (((3 : Int32) * v1) + (2 : Int32)) 768) rfl e fun h9 e => ?_
    rw [hR, ← Option.some.inj e]; exact ret_Bg rfl
set_option maxRecDepth 100000 in
theorem BJwy_know_J37 (L : Nat) (xs : Nat → Int32) (v1 v2 v3 v4 s1 s2 : Int32) (h : Hp) (o : (Hp)) (e : Jwy_know_J37 v1 v2 v3 v4 s1 s2 h = some o) (R : List Value × Lay × Hp) (hR : R = ([], LY70, o)) : Bg L xs 104 37 [(0, .ref 9), (1, .int v1), (2, .int v2), (3, .int v3), (4, .int v4)] [.int s2, .int s1, .ref 22] LY70 h R := by
  refine gp_Bg (pc' := 38) (lv' := [(0, .ref 9), (1, .int v1), (2, .int v2), (3, .int v3), (4, .int v4)]) (st' := []) (lay' := LY70) (x := hset h 22 (Int32.toNatClampNeg s1) s2) (g := ibB s1 768) rfl e fun h4 e => ?_
  refine seg_Bg (pc' := 51) (lv' := [(0, .ref 9), (1, .int v1), (2, .int v2), (3, .int v3), (4, .int v4)]) (st' := [.ref 20, .int (((3 : Int32) * v1) + (1 : Int32)), .ref 22]) (lay' := LY70) (h' := h4) 9 rfl ?_
  refine call_Bg (a := 64) (la := [(0, .ref 20)]) (np := 54) (lv' := [(0, .ref 9), (1, .int v1), (2, .int v2), (3, .int v3), (4, .int v4)]) (rest := [.int (((3 : Int32) * v1) + (1 : Int32)), .ref 22]) (res := fun r => ([.int r], LY70, h4)) rfl e (fun r e => BJpu_arity L xs h4 r e) (fun c5 e => ?_)
  show Bg L xs 104 54 [(0, .ref 9), (1, .int v1), (2, .int v2), (3, .int v3), (4, .int v4)] [.int c5, .int (((3 : Int32) * v1) + (1 : Int32)), .ref 22] LY70 h4 R
  refine seg_Bg (pc' := (if 1 < c5 then 58 else 62)) (lv' := [(0, .ref 9), (1, .int v1), (2, .int v2), (3, .int v3), (4, .int v4)]) (st' := [.int (((3 : Int32) * v1) + (1 : Int32)), .ref 22]) (lay' := LY70) (h' := h4) 2 rfl ?_
  refine pc_ite e (fun e => ?_) (fun e => ?_)
  · refine seg_Bg (pc' := 63) (lv' := [(0, .ref 9), (1, .int v1), (2, .int v2), (3, .int v3), (4, .int v4)]) (st' := [.int v3, .int (((3 : Int32) * v1) + (1 : Int32)), .ref 22]) (lay' := LY70) (h' := h4) 2 rfl ?_
    exact BJwy_know_J63 L xs v1 v2 v3 v4 (((3 : Int32) * v1) + (1 : Int32)) v3 h4 o e R hR
  · refine seg_Bg (pc' := 63) (lv' := [(0, .ref 9), (1, .int v1), (2, .int v2), (3, .int v3), (4, .int v4)]) (st' := [.int (-1), .int (((3 : Int32) * v1) + (1 : Int32)), .ref 22]) (lay' := LY70) (h' := h4) 1 rfl ?_
    exact BJwy_know_J63 L xs v1 v2 v3 v4 (((3 : Int32) * v1) + (1 : Int32)) (-1) h4 o e R hR
set_option maxRecDepth 100000 in
theorem BJwy_know (L : Nat) (xs : Nat → Int32) (v1 : Int32) (v2 : Int32) (v3 : Int32) (v4 : Int32) (h : Hp) (o : Hp) (e : Jwy_know v1 v2 v3 v4 h = some o) : Bg L xs 104 0 [(0, .ref 9), (1, .int v1), (2, .int v2), (3, .int v3), (4, .int v4)] [] LY70 h ([], LY70, o) := by
  obtain ⟨R, hR⟩ : ∃ R : List Value × Lay × Hp, R = ([], LY70, o) := ⟨_, rfl⟩
  rw [← hR]
  refine seg_Bg (pc' := 1) (lv' := [(0, .ref 9), (1, .int v1), (2, .int v2), (3, .int v3), (4, .int v4)]) (st' := [.int v1]) (lay' := LY70) (h' := h) 1 rfl ?_
  refine call_Bg (a := 122) (la := [(0, .int v1)]) (np := 4) (lv' := [(0, .ref 9), (1, .int v1), (2, .int v2), (3, .int v3), (4, .int v4)]) (rest := []) (res := fun r => ([.int r], LY70, h)) rfl e (fun r e => BJyn_isCode L xs v1 LY70 h r e) (fun c1 e => ?_)
  show Bg L xs 104 4 [(0, .ref 9), (1, .int v1), (2, .int v2), (3, .int v3), (4, .int v4)] [.int c1] LY70 h R
  refine seg_Bg (pc' := (if c1 = 0 then 7 else 8)) (lv' := [(0, .ref 9), (1, .int v1), (2, .int v2), (3, .int v3), (4, .int v4)]) (st' := []) (lay' := LY70) (h' := h) 1 rfl ?_
  refine pc_ite e (fun e => ?_) (fun e => ?_)
  · rw [hR, ← Option.some.inj e]; exact ret_Bg rfl
  · refine seg_Bg (pc' := 14) (lv' := [(0, .ref 9), (1, .int v1), (2, .int v2), (3, .int v3), (4, .int v4)]) (st' := [.int 1, .int v1, .ref 23]) (lay' := LY70) (h' := h) 4 rfl ?_
    refine gp_Bg (pc' := 15) (lv' := [(0, .ref 9), (1, .int v1), (2, .int v2), (3, .int v3), (4, .int v4)]) (st' := []) (lay' := LY70) (x := hset h 23 (Int32.toNatClampNeg v1) (vp_nar .boolean 1)) (g := ibB v1 256) rfl e fun h2 e => ?_
    refine seg_Bg (pc' := 26) (lv' := [(0, .ref 9), (1, .int v1), (2, .int v2), (3, .int v3), (4, .int v4)]) (st' := [.ref 20, .int ((3 : Int32) * v1), .ref 22]) (lay' := LY70) (h' := h2) 7 rfl ?_
    refine call_Bg (a := 64) (la := [(0, .ref 20)]) (np := 29) (lv' := [(0, .ref 9), (1, .int v1), (2, .int v2), (3, .int v3), (4, .int v4)]) (rest := [.int ((3 : Int32) * v1), .ref 22]) (res := fun r => ([.int r], LY70, h2)) rfl e (fun r e => BJpu_arity L xs h2 r e) (fun c3 e => ?_)
    show Bg L xs 104 29 [(0, .ref 9), (1, .int v1), (2, .int v2), (3, .int v3), (4, .int v4)] [.int c3, .int ((3 : Int32) * v1), .ref 22] LY70 h2 R
    refine seg_Bg (pc' := (if 0 < c3 then 32 else 36)) (lv' := [(0, .ref 9), (1, .int v1), (2, .int v2), (3, .int v3), (4, .int v4)]) (st' := [.int ((3 : Int32) * v1), .ref 22]) (lay' := LY70) (h' := h2) 1 rfl ?_
    refine pc_ite e (fun e => ?_) (fun e => ?_)
    · refine seg_Bg (pc' := 37) (lv' := [(0, .ref 9), (1, .int v1), (2, .int v2), (3, .int v3), (4, .int v4)]) (st' := [.int v2, .int ((3 : Int32) * v1), .ref 22]) (lay' := LY70) (h' := h2) 2 rfl ?_
      exact BJwy_know_J37 L xs v1 v2 v3 v4 ((3 : Int32) * v1) v2 h2 o e R hR
    · refine seg_Bg (pc' := 37) (lv' := [(0, .ref 9), (1, .int v1), (2, .int v2), (3, .int v3), (4, .int v4)]) (st' := [.int (-1), .int ((3 : Int32) * v1), .ref 22]) (lay' := LY70) (h' := h2) 1 rfl ?_
      exact BJwy_know_J37 L xs v1 v2 v3 v4 ((3 : Int32) * v1) (-1) h2 o e R hR

set_option maxRecDepth 100000 in
theorem BJpu_third_1 (L : Nat) (xs : Nat → Int32) (v1 : Int32) (h : Hp) (o : Int32) (e : Jpu_third_1 v1 h = some o) : Bg L xs 70 0 [(0, .ref 20), (1, .int v1)] [] LY70 h ([.int o], LY70, h) := by
  obtain ⟨R, hR⟩ : ∃ R : List Value × Lay × Hp, R = ([.int o], LY70, h) := ⟨_, rfl⟩
  rw [← hR]
  refine seg_Bg (pc' := 15) (lv' := [(0, .ref 20), (1, .int v1)]) (st' := [.int (((h 20 4) ^^^ ((h 20 5) &&& v1)) &&& (255 : Int32))]) (lay' := LY70) (h' := h) 9 rfl ?_
  rw [hR, ← Option.some.inj e]; exact ret_Bg rfl

set_option maxRecDepth 100000 in
theorem BJwy_third_L35_s (L : Nat) (xs : Nat → Int32) (v1 v2 v3 : Int32) (h : Hp) (R : List Value × Lay × Hp) (v4 : Int32) (o : ((Int32) ⊕ ((Int32) ⊕ (Int32)))) (hH : ∀ s : Int32, o = .inl s → Bg L xs 102 35 [(0, .ref 9), (1, .int v1), (2, .int v2), (3, .int v3), (4, .int s)] [] LY70 h R) (hE : ∀ t : Int32, o = .inr (.inl t) → Bg L xs 102 85 [(0, .ref 9), (1, .int v1), (2, .int v2), (3, .int v3), (4, .int t)] [] LY70 h R) (hR : ∀ r : Int32, o = .inr (.inr r) → R = ([.int r], LY70, h)) (e : Jwy_third_L35 v1 v2 v3 h v4 = some o) : Bg L xs 102 35 [(0, .ref 9), (1, .int v1), (2, .int v2), (3, .int v3), (4, .int v4)] [] LY70 h R := by
  refine seg_Bg (pc' := (if v4 < v3 then 41 else 85)) (lv' := [(0, .ref 9), (1, .int v1), (2, .int v2), (3, .int v3), (4, .int v4)]) (st' := []) (lay' := LY70) (h' := h) 3 rfl ?_
  refine pc_ite e (fun e => ?_) (fun e => ?_)
  · refine seg_Bg (pc' := (if v4 < 256 then 49 else 85)) (lv' := [(0, .ref 9), (1, .int v1), (2, .int v2), (3, .int v3), (4, .int v4)]) (st' := []) (lay' := LY70) (h' := h) 3 rfl ?_
    refine pc_ite e (fun e => ?_) (fun e => ?_)
    · refine seg_Bg (pc' := 59) (lv' := [(0, .ref 9), (1, .int v1), (2, .int v2), (3, .int v3), (4, .int v4)]) (st' := [.int v4, .ref 10, .ref 20]) (lay' := LY70) (h' := h) 5 rfl ?_
      refine call_Bg (a := 28) (la := [(0, .ref 10), (1, .int v4)]) (np := 62) (lv' := [(0, .ref 9), (1, .int v1), (2, .int v2), (3, .int v3), (4, .int v4)]) (rest := [.ref 20]) (res := fun r => ([.int r], LY70, h)) rfl e (fun r e => BJcs_madeAt L xs v4 h r e) (fun c5 e => ?_)
      show Bg L xs 102 62 [(0, .ref 9), (1, .int v1), (2, .int v2), (3, .int v3), (4, .int v4)] [.int c5, .ref 20] LY70 h R
      refine call_Bg (a := 70) (la := [(0, .ref 20), (1, .int c5)]) (np := 65) (lv' := [(0, .ref 9), (1, .int v1), (2, .int v2), (3, .int v3), (4, .int v4)]) (rest := []) (res := fun r => ([.int r], LY70, h)) rfl e (fun r e => BJpu_third_1 L xs c5 h r e) (fun c6 e => ?_)
      show Bg L xs 102 65 [(0, .ref 9), (1, .int v1), (2, .int v2), (3, .int v3), (4, .int v4)] [.int c6] LY70 h R
      refine seg_Bg (pc' := (if c6 = v1 then 69 else 79)) (lv' := [(0, .ref 9), (1, .int v1), (2, .int v2), (3, .int v3), (4, .int v4)]) (st' := []) (lay' := LY70) (h' := h) 2 rfl ?_
      refine pc_ite e (fun e => ?_) (fun e => ?_)
      · refine seg_Bg (pc' := 75) (lv' := [(0, .ref 9), (1, .int v1), (2, .int v2), (3, .int v3), (4, .int v4)]) (st' := [.int v4, .ref 10]) (lay' := LY70) (h' := h) 3 rfl ?_
        refine call_Bg (a := 28) (la := [(0, .ref 10), (1, .int v4)]) (np := 78) (lv' := [(0, .ref 9), (1, .int v1), (2, .int v2), (3, .int v3), (4, .int v4)]) (rest := []) (res := fun r => ([.int r], LY70, h)) rfl e (fun r e => BJcs_madeAt L xs v4 h r e) (fun c7 e => ?_)
        show Bg L xs 102 78 [(0, .ref 9), (1, .int v1), (2, .int v2), (3, .int v3), (4, .int v4)] [.int c7] LY70 h R
        rw [hR c7 (Option.some.inj e).symm]; exact ret_Bg rfl
      · refine seg_Bg (pc' := 35) (lv' := [(0, .ref 9), (1, .int v1), (2, .int v2), (3, .int v3), (4, .int (v4 + 1))]) (st' := []) (lay' := LY70) (h' := h) 2 rfl ?_
        exact hH (v4 + 1) (Option.some.inj e).symm
    · exact hE v4 (Option.some.inj e).symm
  · exact hE v4 (Option.some.inj e).symm
theorem BJwy_third_L35 (L : Nat) (xs : Nat → Int32) (v1 v2 v3 : Int32) (h : Hp) (R : List Value × Lay × Hp) (C : ((Int32) ⊕ (Int32)) → Prop) (hE : ∀ t : Int32, C (.inl t) → Bg L xs 102 85 [(0, .ref 9), (1, .int v1), (2, .int v2), (3, .int v3), (4, .int t)] [] LY70 h R) (hR : ∀ r : Int32, C (.inr r) → R = ([.int r], LY70, h)) (n : Nat) (s : Int32) (o : ((Int32) ⊕ (Int32))) (e : loopN n (fun s => Jwy_third_L35 v1 v2 v3 h s) s = some o) (hC : C o) : Bg L xs 102 35 [(0, .ref 9), (1, .int v1), (2, .int v2), (3, .int v3), (4, .int s)] [] LY70 h R := by
  refine loop_B (fun s => Jwy_third_L35 v1 v2 v3 h s) (fun s : Int32 => Bg L xs 102 35 [(0, .ref 9), (1, .int v1), (2, .int v2), (3, .int v3), (4, .int s)] [] LY70 h R) C (fun s o e => ?_) n s o e hC
  intro hK
  refine BJwy_third_L35_s L xs v1 v2 v3 h R s o (fun s q => by subst q; exact hK) (fun t q => by subst q; exact hE t hK) (fun r q => by subst q; exact hR r hK) e
set_option maxRecDepth 100000 in
theorem BJwy_third (L : Nat) (xs : Nat → Int32) (v1 : Int32) (v2 : Int32) (h : Hp) (o : Int32) (e : Jwy_third v1 v2 h = some o) : Bg L xs 102 0 [(0, .ref 9), (1, .int v1), (2, .int v2)] [] LY70 h ([.int o], LY70, h) := by
  obtain ⟨R, hR⟩ : ∃ R : List Value × Lay × Hp, R = ([.int o], LY70, h) := ⟨_, rfl⟩
  rw [← hR]
  refine seg_Bg (pc' := 10) (lv' := [(0, .ref 9), (1, .int v1), (2, .int v2)]) (st' := [.int 2, .ref 20, .int v2, .ref 10]) (lay' := LY70) (h' := h) 6 rfl ?_
  refine call_Bg (a := 65) (la := [(0, .ref 20), (1, .int 2)]) (np := 13) (lv' := [(0, .ref 9), (1, .int v1), (2, .int v2)]) (rest := [.int v2, .ref 10]) (res := fun r => ([.int r], LY70, h)) rfl e (fun r e => BJpu_hangsOn_1 L xs 2 h r e) (fun c1 e => ?_)
  show Bg L xs 102 13 [(0, .ref 9), (1, .int v1), (2, .int v2)] [.int c1, .int v2, .ref 10] LY70 h R
  refine call_Bg (a := 27) (la := [(0, .ref 10), (1, .int v2), (2, .int c1)]) (np := 16) (lv' := [(0, .ref 9), (1, .int v1), (2, .int v2)]) (rest := []) (res := fun r => ([.int r], LY70, h)) rfl e (fun r e => BJcs_partsTo L xs v2 c1 h r e) (fun c2 e => ?_)
  show Bg L xs 102 16 [(0, .ref 9), (1, .int v1), (2, .int v2)] [.int c2] LY70 h R
  refine seg_Bg (pc' := 27) (lv' := [(0, .ref 9), (1, .int v1), (2, .int v2), (3, .int c2)]) (st' := [.int 2, .ref 20, .int v2, .ref 10]) (lay' := LY70) (h' := h) 7 rfl ?_
  refine call_Bg (a := 65) (la := [(0, .ref 20), (1, .int 2)]) (np := 30) (lv' := [(0, .ref 9), (1, .int v1), (2, .int v2), (3, .int c2)]) (rest := [.int v2, .ref 10]) (res := fun r => ([.int r], LY70, h)) rfl e (fun r e => BJpu_hangsOn_1 L xs 2 h r e) (fun c3 e => ?_)
  show Bg L xs 102 30 [(0, .ref 9), (1, .int v1), (2, .int v2), (3, .int c2)] [.int c3, .int v2, .ref 10] LY70 h R
  refine call_Bg (a := 26) (la := [(0, .ref 10), (1, .int v2), (2, .int c3)]) (np := 33) (lv' := [(0, .ref 9), (1, .int v1), (2, .int v2), (3, .int c2)]) (rest := []) (res := fun r => ([.int r], LY70, h)) rfl e (fun r e => BJcs_partsFrom L xs v2 c3 h r e) (fun c4 e => ?_)
  show Bg L xs 102 33 [(0, .ref 9), (1, .int v1), (2, .int v2), (3, .int c2)] [.int c4] LY70 h R
  refine seg_Bg (pc' := 35) (lv' := [(0, .ref 9), (1, .int v1), (2, .int v2), (3, .int c2), (4, .int c4)]) (st' := []) (lay' := LY70) (h' := h) 1 rfl ?_
  obtain ⟨t8o, et8o, e⟩ := bd_s e
  refine BJwy_third_L35 L xs v1 v2 c2 h R (fun (t8x : (Int32) ⊕ (Int32)) => (sm t8x (fun t8 => some (-1)) (fun r8 => some r8)) = some o) (fun t8 e => ?_) (fun r8 e => ?_) 1000000 c4 _ et8o e
  · refine seg_Bg (pc' := 86) (lv' := [(0, .ref 9), (1, .int v1), (2, .int v2), (3, .int c2), (4, .int t8)]) (st' := [.int (-1)]) (lay' := LY70) (h' := h) 1 rfl ?_
    rw [hR, ← Option.some.inj e]; exact ret_Bg rfl
  · rw [hR]; exact congrArg (fun r => (([.int r], LY70, h) : List Value × Lay × Hp)) (Option.some.inj e).symm

set_option maxRecDepth 100000 in
theorem BJwy_lookForSecond_J62 (L : Nat) (xs : Nat → Int32) (v1 v2 v3 v4 s0 : Int32) (h : Hp) (o : ((Int32 × Hp) ⊕ ((Int32 × Hp) ⊕ (Int32 × Hp)))) (e : Jwy_lookForSecond_J62 v1 v2 v3 v4 s0 h = some o) (R : List Value × Lay × Hp) (hH : ∀ s : Int32 × Hp, o = .inl s → Bg L xs 101 3 [(0, .ref 9), (1, .int v1), (2, .int v2), (3, .int v3), (4, .int s.1)] [] LY70 s.2 R) (hE : ∀ t : Int32 × Hp, o = .inr (.inl t) → Bg L xs 101 88 [(0, .ref 9), (1, .int v1), (2, .int v2), (3, .int v3), (4, .int t.1)] [] LY70 t.2 R) (hR : ∀ r : Int32 × Hp, o = .inr (.inr r) → R = ([.int r.1], LY70, r.2)) : Bg L xs 101 62 [(0, .ref 9), (1, .int v1), (2, .int v2), (3, .int v3), (4, .int v4)] [.int s0] LY70 h R := by
  refine seg_Bg (pc' := (if s0 = (-1) then 82 else 70)) (lv' := [(0, .ref 9), (1, .int v1), (2, .int v2), (3, .int v3), (4, .int v4), (5, .int s0)]) (st' := []) (lay' := LY70) (h' := h) 4 rfl ?_
  refine pc_ite e (fun e => ?_) (fun e => ?_)
  · refine seg_Bg (pc' := 3) (lv' := [(0, .ref 9), (1, .int v1), (2, .int v2), (3, .int v3), (4, .int (v4 + 1))]) (st' := []) (lay' := LY70) (h' := h) 2 rfl ?_
    exact hH (v4 + 1, h) (Option.some.inj e).symm
  · refine seg_Bg (pc' := 77) (lv' := [(0, .ref 9), (1, .int v1), (2, .int v2), (3, .int v3), (4, .int v4), (5, .int s0)]) (st' := [.int s0, .int v4, .int v2, .int v1, .ref 9]) (lay' := LY70) (h' := h) 5 rfl ?_
    refine call_Bg (a := 104) (la := [(0, .ref 9), (1, .int v1), (2, .int v2), (3, .int v4), (4, .int s0)]) (np := 80) (lv' := [(0, .ref 9), (1, .int v1), (2, .int v2), (3, .int v3), (4, .int v4), (5, .int s0)]) (rest := []) (res := fun r => ([], LY70, r)) rfl e (fun r e => BJwy_know L xs v1 v2 v4 s0 h r e) (fun c4 e => ?_)
    show Bg L xs 101 80 [(0, .ref 9), (1, .int v1), (2, .int v2), (3, .int v3), (4, .int v4), (5, .int s0)] [] LY70 c4 R
    refine seg_Bg (pc' := 81) (lv' := [(0, .ref 9), (1, .int v1), (2, .int v2), (3, .int v3), (4, .int v4), (5, .int s0)]) (st' := [.int 1]) (lay' := LY70) (h' := c4) 1 rfl ?_
    rw [hR (1, c4) (Option.some.inj e).symm]; exact ret_Bg rfl
set_option maxRecDepth 100000 in
theorem BJwy_lookForSecond_L3_s (L : Nat) (xs : Nat → Int32) (v1 v2 v3 : Int32) (R : List Value × Lay × Hp) (v4 : Int32) (h : Hp) (o : ((Int32 × Hp) ⊕ ((Int32 × Hp) ⊕ (Int32 × Hp)))) (hH : ∀ s : Int32 × Hp, o = .inl s → Bg L xs 101 3 [(0, .ref 9), (1, .int v1), (2, .int v2), (3, .int v3), (4, .int s.1)] [] LY70 s.2 R) (hE : ∀ t : Int32 × Hp, o = .inr (.inl t) → Bg L xs 101 88 [(0, .ref 9), (1, .int v1), (2, .int v2), (3, .int v3), (4, .int t.1)] [] LY70 t.2 R) (hR : ∀ r : Int32 × Hp, o = .inr (.inr r) → R = ([.int r.1], LY70, r.2)) (e : Jwy_lookForSecond_L3 v1 v2 v3 v4 h = some o) : Bg L xs 101 3 [(0, .ref 9), (1, .int v1), (2, .int v2), (3, .int v3), (4, .int v4)] [] LY70 h R := by
  refine seg_Bg (pc' := (if v4 < 256 then 11 else 88)) (lv' := [(0, .ref 9), (1, .int v1), (2, .int v2), (3, .int v3), (4, .int v4)]) (st' := []) (lay' := LY70) (h' := h) 3 rfl ?_
  refine pc_ite e (fun e => ?_) (fun e => ?_)
  · refine seg_Bg (pc' := 16) (lv' := [(0, .ref 9), (1, .int v1), (2, .int v2), (3, .int v3), (4, .int v4)]) (st' := [.int v3, .int 1, .int v4, .ref 9]) (lay' := LY70) (h' := h) 4 rfl ?_
    refine call_Bg (a := 103) (la := [(0, .ref 9), (1, .int v4), (2, .int 1), (3, .int v3)]) (np := 19) (lv' := [(0, .ref 9), (1, .int v1), (2, .int v2), (3, .int v3), (4, .int v4)]) (rest := []) (res := fun r => ([.int r], LY70, h)) rfl e (fun r e => BJwy_isPart L xs v4 1 v3 h r e) (fun c1 e => ?_)
    show Bg L xs 101 19 [(0, .ref 9), (1, .int v1), (2, .int v2), (3, .int v3), (4, .int v4)] [.int c1] LY70 h R
    refine seg_Bg (pc' := (if c1 = 0 then 82 else 22)) (lv' := [(0, .ref 9), (1, .int v1), (2, .int v2), (3, .int v3), (4, .int v4)]) (st' := []) (lay' := LY70) (h' := h) 1 rfl ?_
    refine pc_ite e (fun e => ?_) (fun e => ?_)
    · refine seg_Bg (pc' := 3) (lv' := [(0, .ref 9), (1, .int v1), (2, .int v2), (3, .int v3), (4, .int (v4 + 1))]) (st' := []) (lay' := LY70) (h' := h) 2 rfl ?_
      exact hH (v4 + 1, h) (Option.some.inj e).symm
    · refine seg_Bg (pc' := 28) (lv' := [(0, .ref 9), (1, .int v1), (2, .int v2), (3, .int v3), (4, .int v4)]) (st' := [.int v4, .ref 20]) (lay' := LY70) (h' := h) 3 rfl ?_
      refine call_Bg (a := 68) (la := [(0, .ref 20), (1, .int v4)]) (np := 31) (lv' := [(0, .ref 9), (1, .int v1), (2, .int v2), (3, .int v3), (4, .int v4)]) (rest := []) (res := fun r => ([], LY70, r)) rfl e (fun r e => BJpu_second_1 L xs v4 h r e) (fun c2 e => ?_)
      show Bg L xs 101 31 [(0, .ref 9), (1, .int v1), (2, .int v2), (3, .int v3), (4, .int v4)] [] LY70 c2 R
      refine seg_Bg (pc' := 36) (lv' := [(0, .ref 9), (1, .int v1), (2, .int v2), (3, .int v3), (4, .int v4)]) (st' := [.int v1, .ref 20]) (lay' := LY70) (h' := c2) 3 rfl ?_
      refine call_Bg (a := 69) (la := [(0, .ref 20), (1, .int v1)]) (np := 39) (lv' := [(0, .ref 9), (1, .int v1), (2, .int v2), (3, .int v3), (4, .int v4)]) (rest := []) (res := fun r => ([.int r], LY70, c2)) rfl e (fun r e => BJpu_canBecome_1 L xs v1 c2 r e) (fun c3 e => ?_)
      show Bg L xs 101 39 [(0, .ref 9), (1, .int v1), (2, .int v2), (3, .int v3), (4, .int v4)] [.int c3] LY70 c2 R
      refine seg_Bg (pc' := (if c3 = 0 then 61 else 42)) (lv' := [(0, .ref 9), (1, .int v1), (2, .int v2), (3, .int v3), (4, .int v4)]) (st' := []) (lay' := LY70) (h' := c2) 1 rfl ?_
      refine pc_ite e (fun e => ?_) (fun e => ?_)
      · refine seg_Bg (pc' := 62) (lv' := [(0, .ref 9), (1, .int v1), (2, .int v2), (3, .int v3), (4, .int v4)]) (st' := [.int (-1)]) (lay' := LY70) (h' := c2) 1 rfl ?_
        exact BJwy_lookForSecond_J62 L xs v1 v2 v3 v4 (-1) c2 o e R hH hE hR
      · refine seg_Bg (pc' := 51) (lv' := [(0, .ref 9), (1, .int v1), (2, .int v2), (3, .int v3), (4, .int v4)]) (st' := [.int v4, .ref 10, .int v3, .int v1, .ref 9]) (lay' := LY70) (h' := c2) 6 rfl ?_
        refine call_Bg (a := 33) (la := [(0, .ref 10), (1, .int v4)]) (np := 54) (lv' := [(0, .ref 9), (1, .int v1), (2, .int v2), (3, .int v3), (4, .int v4)]) (rest := [.int v3, .int v1, .ref 9]) (res := fun r => ([.int r], LY70, c2)) rfl e (fun r e => BJcs_costOf L xs v4 c2 r e) (fun c5 e => ?_)
        show Bg L xs 101 54 [(0, .ref 9), (1, .int v1), (2, .int v2), (3, .int v3), (4, .int v4)] [.int c5, .int v3, .int v1, .ref 9] LY70 c2 R
        refine seg_Bg (pc' := 55) (lv' := [(0, .ref 9), (1, .int v1), (2, .int v2), (3, .int v3), (4, .int v4)]) (st' := [.int (v3 - c5), .int v1, .ref 9]) (lay' := LY70) (h' := c2) 1 rfl ?_
        refine call_Bg (a := 102) (la := [(0, .ref 9), (1, .int v1), (2, .int (v3 - c5))]) (np := 58) (lv' := [(0, .ref 9), (1, .int v1), (2, .int v2), (3, .int v3), (4, .int v4)]) (rest := []) (res := fun r => ([.int r], LY70, c2)) rfl e (fun r e => BJwy_third L xs v1 (v3 - c5) c2 r e) (fun c6 e => ?_)
        show Bg L xs 101 58 [(0, .ref 9), (1, .int v1), (2, .int v2), (3, .int v3), (4, .int v4)] [.int c6] LY70 c2 R
        refine seg_Bg (pc' := 62) (lv' := [(0, .ref 9), (1, .int v1), (2, .int v2), (3, .int v3), (4, .int v4)]) (st' := [.int c6]) (lay' := LY70) (h' := c2) 1 rfl ?_
        exact BJwy_lookForSecond_J62 L xs v1 v2 v3 v4 c6 c2 o e R hH hE hR
  · exact hE (v4, h) (Option.some.inj e).symm
theorem BJwy_lookForSecond_L3 (L : Nat) (xs : Nat → Int32) (v1 v2 v3 : Int32) (R : List Value × Lay × Hp) (C : ((Int32 × Hp) ⊕ (Int32 × Hp)) → Prop) (hE : ∀ t : Int32 × Hp, C (.inl t) → Bg L xs 101 88 [(0, .ref 9), (1, .int v1), (2, .int v2), (3, .int v3), (4, .int t.1)] [] LY70 t.2 R) (hR : ∀ r : Int32 × Hp, C (.inr r) → R = ([.int r.1], LY70, r.2)) (n : Nat) (s : Int32 × Hp) (o : ((Int32 × Hp) ⊕ (Int32 × Hp))) (e : loopN n (fun s => Jwy_lookForSecond_L3 v1 v2 v3 s.1 s.2) s = some o) (hC : C o) : Bg L xs 101 3 [(0, .ref 9), (1, .int v1), (2, .int v2), (3, .int v3), (4, .int s.1)] [] LY70 s.2 R := by
  refine loop_B (fun s => Jwy_lookForSecond_L3 v1 v2 v3 s.1 s.2) (fun s : Int32 × Hp => Bg L xs 101 3 [(0, .ref 9), (1, .int v1), (2, .int v2), (3, .int v3), (4, .int s.1)] [] LY70 s.2 R) C (fun s o e => ?_) n s o e hC
  intro hK
  refine BJwy_lookForSecond_L3_s L xs v1 v2 v3 R s.1 s.2 o (fun s q => by subst q; exact hK) (fun t q => by subst q; exact hE t hK) (fun r q => by subst q; exact hR r hK) e
set_option maxRecDepth 100000 in
theorem BJwy_lookForSecond (L : Nat) (xs : Nat → Int32) (v1 : Int32) (v2 : Int32) (v3 : Int32) (h : Hp) (o : Int32 × Hp) (e : Jwy_lookForSecond v1 v2 v3 h = some o) : Bg L xs 101 0 [(0, .ref 9), (1, .int v1), (2, .int v2), (3, .int v3)] [] LY70 h ([.int o.1], LY70, o.2) := by
  obtain ⟨R, hR⟩ : ∃ R : List Value × Lay × Hp, R = ([.int o.1], LY70, o.2) := ⟨_, rfl⟩
  rw [← hR]
  refine seg_Bg (pc' := 3) (lv' := [(0, .ref 9), (1, .int v1), (2, .int v2), (3, .int v3), (4, .int 0)]) (st' := []) (lay' := LY70) (h' := h) 2 rfl ?_
  obtain ⟨t7o, et7o, e⟩ := bd_s e
  refine BJwy_lookForSecond_L3 L xs v1 v2 v3 R (fun (t7x : (Int32 × Hp) ⊕ (Int32 × Hp)) => (sm t7x (fun t7 => some (0, t7.2)) (fun r7 => some r7)) = some o) (fun t7 e => ?_) (fun r7 e => ?_) 1000000 (0, h) _ et7o e
  · refine seg_Bg (pc' := 89) (lv' := [(0, .ref 9), (1, .int v1), (2, .int v2), (3, .int v3), (4, .int t7.1)]) (st' := [.int 0]) (lay' := LY70) (h' := t7.2) 1 rfl ?_
    rw [hR, ← Option.some.inj e]; exact ret_Bg rfl
  · rw [hR]; exact congrArg (fun r => (([.int r.1], LY70, r.2) : List Value × Lay × Hp)) (Option.some.inj e).symm

set_option maxRecDepth 100000 in
theorem BJwy_lookFor_L45_s (L : Nat) (xs : Nat → Int32) (v1 v2 : Int32) (R : List Value × Lay × Hp) (v3 v4 : Int32) (h : Hp) (o : ((Int32 × Int32 × Hp) ⊕ (Int32 × Int32 × Hp))) (hH : ∀ s : Int32 × Int32 × Hp, o = .inl s → Bg L xs 100 45 [(0, .ref 9), (1, .int v1), (2, .int v2), (3, .int s.1), (4, .int s.2.1)] [] LY70 s.2.2 R) (hE : ∀ t : Int32 × Int32 × Hp, o = .inr t → Bg L xs 100 121 [(0, .ref 9), (1, .int v1), (2, .int v2), (3, .int t.1), (4, .int t.2.1)] [] LY70 t.2.2 R) (e : Jwy_lookFor_L45 v1 v2 v3 v4 h = some o) : Bg L xs 100 45 [(0, .ref 9), (1, .int v1), (2, .int v2), (3, .int v3), (4, .int v4)] [] LY70 h R := by
  refine seg_Bg (pc' := (if v4 < 256 then 53 else 121)) (lv' := [(0, .ref 9), (1, .int v1), (2, .int v2), (3, .int v3), (4, .int v4)]) (st' := []) (lay' := LY70) (h' := h) 3 rfl ?_
  refine pc_ite e (fun e => ?_) (fun e => ?_)
  · refine seg_Bg (pc' := (if v3 = 0 then 57 else 121)) (lv' := [(0, .ref 9), (1, .int v1), (2, .int v2), (3, .int v3), (4, .int v4)]) (st' := []) (lay' := LY70) (h' := h) 2 rfl ?_
    refine pc_ite e (fun e => ?_) (fun e => ?_)
    · refine seg_Bg (pc' := 62) (lv' := [(0, .ref 9), (1, .int v1), (2, .int v2), (3, .int v3), (4, .int v4)]) (st' := [.int v2, .int 0, .int v4, .ref 9]) (lay' := LY70) (h' := h) 4 rfl ?_
      refine call_Bg (a := 103) (la := [(0, .ref 9), (1, .int v4), (2, .int 0), (3, .int v2)]) (np := 65) (lv' := [(0, .ref 9), (1, .int v1), (2, .int v2), (3, .int v3), (4, .int v4)]) (rest := []) (res := fun r => ([.int r], LY70, h)) rfl e (fun r e => BJwy_isPart L xs v4 0 v2 h r e) (fun c4 e => ?_)
      show Bg L xs 100 65 [(0, .ref 9), (1, .int v1), (2, .int v2), (3, .int v3), (4, .int v4)] [.int c4] LY70 h R
      refine seg_Bg (pc' := (if c4 = 0 then 115 else 68)) (lv' := [(0, .ref 9), (1, .int v1), (2, .int v2), (3, .int v3), (4, .int v4)]) (st' := []) (lay' := LY70) (h' := h) 1 rfl ?_
      refine pc_ite e (fun e => ?_) (fun e => ?_)
      · refine seg_Bg (pc' := 45) (lv' := [(0, .ref 9), (1, .int v1), (2, .int v2), (3, .int v3), (4, .int (v4 + 1))]) (st' := []) (lay' := LY70) (h' := h) 2 rfl ?_
        exact hH (v3, v4 + 1, h) (Option.some.inj e).symm
      · refine seg_Bg (pc' := 74) (lv' := [(0, .ref 9), (1, .int v1), (2, .int v2), (3, .int v3), (4, .int v4)]) (st' := [.int v4, .ref 20]) (lay' := LY70) (h' := h) 3 rfl ?_
        refine call_Bg (a := 66) (la := [(0, .ref 20), (1, .int v4)]) (np := 77) (lv' := [(0, .ref 9), (1, .int v1), (2, .int v2), (3, .int v3), (4, .int v4)]) (rest := []) (res := fun r => ([], LY70, r)) rfl e (fun r e => BJpu_first_1 L xs v4 h r e) (fun c5 e => ?_)
        show Bg L xs 100 77 [(0, .ref 9), (1, .int v1), (2, .int v2), (3, .int v3), (4, .int v4)] [] LY70 c5 R
        refine seg_Bg (pc' := 82) (lv' := [(0, .ref 9), (1, .int v1), (2, .int v2), (3, .int v3), (4, .int v4)]) (st' := [.int v1, .ref 20]) (lay' := LY70) (h' := c5) 3 rfl ?_
        refine call_Bg (a := 67) (la := [(0, .ref 20), (1, .int v1)]) (np := 85) (lv' := [(0, .ref 9), (1, .int v1), (2, .int v2), (3, .int v3), (4, .int v4)]) (rest := []) (res := fun r => ([.int r], LY70, c5)) rfl e (fun r e => BJpu_mayBecome_1 L xs v1 c5 r e) (fun c6 e => ?_)
        show Bg L xs 100 85 [(0, .ref 9), (1, .int v1), (2, .int v2), (3, .int v3), (4, .int v4)] [.int c6] LY70 c5 R
        refine seg_Bg (pc' := (if c6 = 0 then 113 else 88)) (lv' := [(0, .ref 9), (1, .int v1), (2, .int v2), (3, .int v3), (4, .int v4)]) (st' := []) (lay' := LY70) (h' := c5) 1 rfl ?_
        refine pc_ite e (fun e => ?_) (fun e => ?_)
        · refine seg_Bg (pc' := 45) (lv' := [(0, .ref 9), (1, .int v1), (2, .int v2), (3, .int 0), (4, .int (v4 + 1))]) (st' := []) (lay' := LY70) (h' := c5) 4 rfl ?_
          exact hH (0, v4 + 1, c5) (Option.some.inj e).symm
        · refine seg_Bg (pc' := 99) (lv' := [(0, .ref 9), (1, .int v1), (2, .int v2), (3, .int v3), (4, .int v4)]) (st' := [.int v4, .ref 10, .int v2, .int v4, .int v1, .ref 9]) (lay' := LY70) (h' := c5) 7 rfl ?_
          refine call_Bg (a := 33) (la := [(0, .ref 10), (1, .int v4)]) (np := 102) (lv' := [(0, .ref 9), (1, .int v1), (2, .int v2), (3, .int v3), (4, .int v4)]) (rest := [.int v2, .int v4, .int v1, .ref 9]) (res := fun r => ([.int r], LY70, c5)) rfl e (fun r e => BJcs_costOf L xs v4 c5 r e) (fun c7 e => ?_)
          show Bg L xs 100 102 [(0, .ref 9), (1, .int v1), (2, .int v2), (3, .int v3), (4, .int v4)] [.int c7, .int v2, .int v4, .int v1, .ref 9] LY70 c5 R
          refine seg_Bg (pc' := 103) (lv' := [(0, .ref 9), (1, .int v1), (2, .int v2), (3, .int v3), (4, .int v4)]) (st' := [.int (v2 - c7), .int v4, .int v1, .ref 9]) (lay' := LY70) (h' := c5) 1 rfl ?_
          refine call_Bg (a := 101) (la := [(0, .ref 9), (1, .int v1), (2, .int v4), (3, .int (v2 - c7))]) (np := 106) (lv' := [(0, .ref 9), (1, .int v1), (2, .int v2), (3, .int v3), (4, .int v4)]) (rest := []) (res := fun r => ([.int r.1], LY70, r.2)) rfl e (fun r e => BJwy_lookForSecond L xs v1 v4 (v2 - c7) c5 r e) (fun c8 e => ?_)
          show Bg L xs 100 106 [(0, .ref 9), (1, .int v1), (2, .int v2), (3, .int v3), (4, .int v4)] [.int c8.1] LY70 c8.2 R
          refine seg_Bg (pc' := (if c8.1 = 0 then 113 else 109)) (lv' := [(0, .ref 9), (1, .int v1), (2, .int v2), (3, .int v3), (4, .int v4)]) (st' := []) (lay' := LY70) (h' := c8.2) 1 rfl ?_
          refine pc_ite e (fun e => ?_) (fun e => ?_)
          · refine seg_Bg (pc' := 45) (lv' := [(0, .ref 9), (1, .int v1), (2, .int v2), (3, .int 0), (4, .int (v4 + 1))]) (st' := []) (lay' := LY70) (h' := c8.2) 4 rfl ?_
            exact hH (0, v4 + 1, c8.2) (Option.some.inj e).symm
          · refine seg_Bg (pc' := 45) (lv' := [(0, .ref 9), (1, .int v1), (2, .int v2), (3, .int 1), (4, .int (v4 + 1))]) (st' := []) (lay' := LY70) (h' := c8.2) 5 rfl ?_
            exact hH (1, v4 + 1, c8.2) (Option.some.inj e).symm
    · exact hE (v3, v4, h) (Option.some.inj e).symm
  · exact hE (v3, v4, h) (Option.some.inj e).symm
theorem BJwy_lookFor_L45 (L : Nat) (xs : Nat → Int32) (v1 v2 : Int32) (R : List Value × Lay × Hp) (C : (Int32 × Int32 × Hp) → Prop) (hE : ∀ t : Int32 × Int32 × Hp, C t → Bg L xs 100 121 [(0, .ref 9), (1, .int v1), (2, .int v2), (3, .int t.1), (4, .int t.2.1)] [] LY70 t.2.2 R) (n : Nat) (s : Int32 × Int32 × Hp) (o : (Int32 × Int32 × Hp)) (e : loopN n (fun s => Jwy_lookFor_L45 v1 v2 s.1 s.2.1 s.2.2) s = some o) (hC : C o) : Bg L xs 100 45 [(0, .ref 9), (1, .int v1), (2, .int v2), (3, .int s.1), (4, .int s.2.1)] [] LY70 s.2.2 R := by
  refine loop_B (fun s => Jwy_lookFor_L45 v1 v2 s.1 s.2.1 s.2.2) (fun s : Int32 × Int32 × Hp => Bg L xs 100 45 [(0, .ref 9), (1, .int v1), (2, .int v2), (3, .int s.1), (4, .int s.2.1)] [] LY70 s.2.2 R) C (fun s o e => ?_) n s o e hC
  intro hK
  refine BJwy_lookFor_L45_s L xs v1 v2 R s.1 s.2.1 s.2.2 o (fun s q => by subst q; exact hK) (fun t q => by subst q; exact hE t hK) e
set_option maxRecDepth 100000 in
theorem BJwy_lookFor (L : Nat) (xs : Nat → Int32) (v1 : Int32) (h : Hp) (o : Hp) (e : Jwy_lookFor v1 h = some o) : Bg L xs 100 0 [(0, .ref 9), (1, .int v1)] [] LY70 h ([], LY70, o) := by
  obtain ⟨R, hR⟩ : ∃ R : List Value × Lay × Hp, R = ([], LY70, o) := ⟨_, rfl⟩
  rw [← hR]
  refine seg_Bg (pc' := 5) (lv' := [(0, .ref 9), (1, .int v1)]) (st' := [.int v1, .ref 10]) (lay' := LY70) (h' := h) 3 rfl ?_
  refine call_Bg (a := 33) (la := [(0, .ref 10), (1, .int v1)]) (np := 8) (lv' := [(0, .ref 9), (1, .int v1)]) (rest := []) (res := fun r => ([.int r], LY70, h)) rfl e (fun r e => BJcs_costOf L xs v1 h r e) (fun c1 e => ?_)
  show Bg L xs 100 8 [(0, .ref 9), (1, .int v1)] [.int c1] LY70 h R
  refine seg_Bg (pc' := (if (c1 - (1 : Int32)) < 0 then 24 else 15)) (lv' := [(0, .ref 9), (1, .int v1), (2, .int (c1 - (1 : Int32)))]) (st' := []) (lay' := LY70) (h' := h) 5 rfl ?_
  refine pc_ite e (fun e => ?_) (fun e => ?_)
  · rw [hR, ← Option.some.inj e]; exact ret_Bg rfl
  · refine seg_Bg (pc' := 20) (lv' := [(0, .ref 9), (1, .int v1), (2, .int (c1 - (1 : Int32)))]) (st' := [.int v1, .ref 23]) (lay' := LY70) (h' := h) 3 rfl ?_
    refine gd_Bg (pc' := 21) (lv' := [(0, .ref 9), (1, .int v1), (2, .int (c1 - (1 : Int32)))]) (st' := [.int (h 23 (Int32.toNatClampNeg v1))]) (lay' := LY70) (h' := h) (g := ibB v1 256) rfl e fun e => ?_
    refine seg_Bg (pc' := (if (h 23 (Int32.toNatClampNeg v1)) = 0 then 25 else 24)) (lv' := [(0, .ref 9), (1, .int v1), (2, .int (c1 - (1 : Int32)))]) (st' := []) (lay' := LY70) (h' := h) 1 rfl ?_
    refine pc_ite e (fun e => ?_) (fun e => ?_)
    · refine seg_Bg (pc' := 34) (lv' := [(0, .ref 9), (1, .int v1), (2, .int (c1 - (1 : Int32)))]) (st' := [.int v1, .ref 10, .ref 20]) (lay' := LY70) (h' := h) 5 rfl ?_
      refine call_Bg (a := 35) (la := [(0, .ref 10), (1, .int v1)]) (np := 37) (lv' := [(0, .ref 9), (1, .int v1), (2, .int (c1 - (1 : Int32)))]) (rest := [.ref 20]) (res := fun r => ([.int r], LY70, h)) rfl e (fun r e => BJcs_topCodeOf L xs v1 h r e) (fun c2 e => ?_)
      show Bg L xs 100 37 [(0, .ref 9), (1, .int v1), (2, .int (c1 - (1 : Int32)))] [.int c2, .ref 20] LY70 h R
      refine call_Bg (a := 63) (la := [(0, .ref 20), (1, .int c2)]) (np := 40) (lv' := [(0, .ref 9), (1, .int v1), (2, .int (c1 - (1 : Int32)))]) (rest := []) (res := fun r => ([], LY70, r)) rfl e (fun r e => BJpu_begin_1 L xs c2 h r e) (fun c3 e => ?_)
      show Bg L xs 100 40 [(0, .ref 9), (1, .int v1), (2, .int (c1 - (1 : Int32)))] [] LY70 c3 R
      refine seg_Bg (pc' := 45) (lv' := [(0, .ref 9), (1, .int v1), (2, .int (c1 - (1 : Int32))), (3, .int 0), (4, .int 0)]) (st' := []) (lay' := LY70) (h' := c3) 4 rfl ?_
      obtain ⟨t9o, et9o, e⟩ := bd_s e
      refine BJwy_lookFor_L45 L xs v1 (c1 - (1 : Int32)) R (fun (t9 : Int32 × Int32 × Hp) => (some t9.2.2) = some o) (fun t9 e => ?_) 1000000 (0, 0, c3) _ et9o e
      rw [hR, ← Option.some.inj e]; exact ret_Bg rfl
    · rw [hR, ← Option.some.inj e]; exact ret_Bg rfl

set_option maxRecDepth 100000 in
theorem BJwy_knownPart (L : Nat) (xs : Nat → Int32) (v1 : Int32) (v2 : Int32) (h : Hp) (o : Int32) (e : Jwy_knownPart v1 v2 h = some o) : Bg L xs 99 0 [(0, .ref 9), (1, .int v1), (2, .int v2)] [] LY70 h ([.int o], LY70, h) := by
  obtain ⟨R, hR⟩ : ∃ R : List Value × Lay × Hp, R = ([.int o], LY70, h) := ⟨_, rfl⟩
  rw [← hR]
  refine seg_Bg (pc' := 1) (lv' := [(0, .ref 9), (1, .int v1), (2, .int v2)]) (st' := [.int v1]) (lay' := LY70) (h' := h) 1 rfl ?_
  refine call_Bg (a := 122) (la := [(0, .int v1)]) (np := 4) (lv' := [(0, .ref 9), (1, .int v1), (2, .int v2)]) (rest := []) (res := fun r => ([.int r], LY70, h)) rfl e (fun r e => BJyn_isCode L xs v1 LY70 h r e) (fun c1 e => ?_)
  show Bg L xs 99 4 [(0, .ref 9), (1, .int v1), (2, .int v2)] [.int c1] LY70 h R
  refine seg_Bg (pc' := (if c1 = 0 then 38 else 7)) (lv' := [(0, .ref 9), (1, .int v1), (2, .int v2)]) (st' := []) (lay' := LY70) (h' := h) 1 rfl ?_
  refine pc_ite e (fun e => ?_) (fun e => ?_)
  · refine seg_Bg (pc' := 39) (lv' := [(0, .ref 9), (1, .int v1), (2, .int v2)]) (st' := [.int (-1)]) (lay' := LY70) (h' := h) 1 rfl ?_
    rw [hR, ← Option.some.inj e]; exact ret_Bg rfl
  · refine seg_Bg (pc' := 12) (lv' := [(0, .ref 9), (1, .int v1), (2, .int v2)]) (st' := [.int v1, .ref 23]) (lay' := LY70) (h' := h) 3 rfl ?_
    refine gd_Bg (pc' := 13) (lv' := [(0, .ref 9), (1, .int v1), (2, .int v2)]) (st' := [.int (h 23 (Int32.toNatClampNeg v1))]) (lay' := LY70) (h' := h) (g := ibB v1 256) rfl e fun e => ?_
    refine seg_Bg (pc' := (if (h 23 (Int32.toNatClampNeg v1)) = 0 then 38 else 16)) (lv' := [(0, .ref 9), (1, .int v1), (2, .int v2)]) (st' := []) (lay' := LY70) (h' := h) 1 rfl ?_
    refine pc_ite e (fun e => ?_) (fun e => ?_)
    · refine seg_Bg (pc' := 39) (lv' := [(0, .ref 9), (1, .int v1), (2, .int v2)]) (st' := [.int (-1)]) (lay' := LY70) (h' := h) 1 rfl ?_
      rw [hR, ← Option.some.inj e]; exact ret_Bg rfl
    · refine seg_Bg (pc' := (if v2 < 0 then 38 else 20)) (lv' := [(0, .ref 9), (1, .int v1), (2, .int v2)]) (st' := []) (lay' := LY70) (h' := h) 2 rfl ?_
      refine pc_ite e (fun e => ?_) (fun e => ?_)
      · refine seg_Bg (pc' := 39) (lv' := [(0, .ref 9), (1, .int v1), (2, .int v2)]) (st' := [.int (-1)]) (lay' := LY70) (h' := h) 1 rfl ?_
        rw [hR, ← Option.some.inj e]; exact ret_Bg rfl
      · refine seg_Bg (pc' := (if v2 < 3 then 25 else 38)) (lv' := [(0, .ref 9), (1, .int v1), (2, .int v2)]) (st' := []) (lay' := LY70) (h' := h) 3 rfl ?_
        refine pc_ite e (fun e => ?_) (fun e => ?_)
        · refine seg_Bg (pc' := 34) (lv' := [(0, .ref 9), (1, .int v1), (2, .int v2)]) (st' := [.int (((3 : Int32) * v1) + v2), .ref 22]) (lay' := LY70) (h' := h) 7 rfl ?_
          refine gd_Bg (pc' := 35) (lv' := [(0, .ref 9), (1, .int v1), (2, .int v2)]) (st' := [.int (h 22 (Int32.toNatClampNeg (((3 : Int32) * v1) + v2)))]) (lay' := LY70) (h' := h) (g := ibB (((3 : Int32) * v1) + v2) 768) rfl e fun e => ?_
          refine seg_Bg (pc' := 39) (lv' := [(0, .ref 9), (1, .int v1), (2, .int v2)]) (st' := [.int (h 22 (Int32.toNatClampNeg (((3 : Int32) * v1) + v2)))]) (lay' := LY70) (h' := h) 1 rfl ?_
          rw [hR, ← Option.some.inj e]; exact ret_Bg rfl
        · refine seg_Bg (pc' := 39) (lv' := [(0, .ref 9), (1, .int v1), (2, .int v2)]) (st' := [.int (-1)]) (lay' := LY70) (h' := h) 1 rfl ?_
          rw [hR, ← Option.some.inj e]; exact ret_Bg rfl

set_option maxRecDepth 100000 in
theorem BJwy_partOf (L : Nat) (xs : Nat → Int32) (v1 : Int32) (v2 : Int32) (h : Hp) (o : Int32 × Hp) (e : Jwy_partOf v1 v2 h = some o) : Bg L xs 98 0 [(0, .ref 9), (1, .int v1), (2, .int v2)] [] LY70 h ([.int o.1], LY70, o.2) := by
  obtain ⟨R, hR⟩ : ∃ R : List Value × Lay × Hp, R = ([.int o.1], LY70, o.2) := ⟨_, rfl⟩
  rw [← hR]
  refine seg_Bg (pc' := 2) (lv' := [(0, .ref 9), (1, .int v1), (2, .int v2)]) (st' := [.int v1, .ref 9]) (lay' := LY70) (h' := h) 2 rfl ?_
  refine call_Bg (a := 100) (la := [(0, .ref 9), (1, .int v1)]) (np := 5) (lv' := [(0, .ref 9), (1, .int v1), (2, .int v2)]) (rest := []) (res := fun r => ([], LY70, r)) rfl e (fun r e => BJwy_lookFor L xs v1 h r e) (fun c1 e => ?_)
  show Bg L xs 98 5 [(0, .ref 9), (1, .int v1), (2, .int v2)] [] LY70 c1 R
  refine seg_Bg (pc' := 8) (lv' := [(0, .ref 9), (1, .int v1), (2, .int v2)]) (st' := [.int v2, .int v1, .ref 9]) (lay' := LY70) (h' := c1) 3 rfl ?_
  refine call_Bg (a := 99) (la := [(0, .ref 9), (1, .int v1), (2, .int v2)]) (np := 11) (lv' := [(0, .ref 9), (1, .int v1), (2, .int v2)]) (rest := []) (res := fun r => ([.int r], LY70, c1)) rfl e (fun r e => BJwy_knownPart L xs v1 v2 c1 r e) (fun c2 e => ?_)
  show Bg L xs 98 11 [(0, .ref 9), (1, .int v1), (2, .int v2)] [.int c2] LY70 c1 R
  rw [hR, ← Option.some.inj e]; exact ret_Bg rfl

set_option maxRecDepth 100000 in
theorem BJwy_needParts_L24_s (L : Nat) (xs : Nat → Int32) (v1 : Int32) (R : List Value × Lay × Hp) (v2 : Int32) (h : Hp) (o : ((Int32 × Hp) ⊕ (Int32 × Hp))) (hH : ∀ s : Int32 × Hp, o = .inl s → Bg L xs 106 24 [(0, .ref 9), (1, .int v1), (2, .int s.1)] [] LY70 s.2 R) (hE : ∀ t : Int32 × Hp, o = .inr t → Bg L xs 106 56 [(0, .ref 9), (1, .int v1), (2, .int t.1)] [] LY70 t.2 R) (e : Jwy_needParts_L24 v1 v2 h = some o) : Bg L xs 106 24 [(0, .ref 9), (1, .int v1), (2, .int v2)] [] LY70 h R := by
  refine seg_Bg (pc' := (if v2 < 3 then 29 else 56)) (lv' := [(0, .ref 9), (1, .int v1), (2, .int v2)]) (st' := []) (lay' := LY70) (h' := h) 3 rfl ?_
  refine pc_ite e (fun e => ?_) (fun e => ?_)
  · refine seg_Bg (pc' := 32) (lv' := [(0, .ref 9), (1, .int v1), (2, .int v2)]) (st' := [.int v2, .int v1, .ref 9]) (lay' := LY70) (h' := h) 3 rfl ?_
    refine call_Bg (a := 99) (la := [(0, .ref 9), (1, .int v1), (2, .int v2)]) (np := 35) (lv' := [(0, .ref 9), (1, .int v1), (2, .int v2)]) (rest := []) (res := fun r => ([.int r], LY70, h)) rfl e (fun r e => BJwy_knownPart L xs v1 v2 h r e) (fun c3 e => ?_)
    show Bg L xs 106 35 [(0, .ref 9), (1, .int v1), (2, .int v2)] [.int c3] LY70 h R
    refine seg_Bg (pc' := 37) (lv' := [(0, .ref 9), (1, .int v1), (2, .int v2), (3, .int c3)]) (st' := [.int c3]) (lay' := LY70) (h' := h) 2 rfl ?_
    refine call_Bg (a := 122) (la := [(0, .int c3)]) (np := 40) (lv' := [(0, .ref 9), (1, .int v1), (2, .int v2), (3, .int c3)]) (rest := []) (res := fun r => ([.int r], LY70, h)) rfl e (fun r e => BJyn_isCode L xs c3 LY70 h r e) (fun c4 e => ?_)
    show Bg L xs 106 40 [(0, .ref 9), (1, .int v1), (2, .int v2), (3, .int c3)] [.int c4] LY70 h R
    refine seg_Bg (pc' := (if c4 = 0 then 50 else 43)) (lv' := [(0, .ref 9), (1, .int v1), (2, .int v2), (3, .int c3)]) (st' := []) (lay' := LY70) (h' := h) 1 rfl ?_
    refine pc_ite e (fun e => ?_) (fun e => ?_)
    · refine seg_Bg (pc' := 24) (lv' := [(0, .ref 9), (1, .int v1), (2, .int (v2 + 1)), (3, .int c3)]) (st' := []) (lay' := LY70) (h' := h) 2 rfl ?_
      refine kp_Bg (lv' := [(0, .ref 9), (1, .int v1), (2, .int (v2 + 1))]) rfl rfl ?_
      exact hH (v2 + 1, h) (Option.some.inj e).symm
    · refine seg_Bg (pc' := 49) (lv' := [(0, .ref 9), (1, .int v1), (2, .int v2), (3, .int c3)]) (st' := [.int 1, .int c3, .ref 24]) (lay' := LY70) (h' := h) 4 rfl ?_
      refine gp_Bg (pc' := 50) (lv' := [(0, .ref 9), (1, .int v1), (2, .int v2), (3, .int c3)]) (st' := []) (lay' := LY70) (x := hset h 24 (Int32.toNatClampNeg c3) (vp_nar .boolean 1)) (g := ibB c3 256) rfl e fun h5 e => ?_
      refine seg_Bg (pc' := 24) (lv' := [(0, .ref 9), (1, .int v1), (2, .int (v2 + 1)), (3, .int c3)]) (st' := []) (lay' := LY70) (h' := h5) 2 rfl ?_
      refine kp_Bg (lv' := [(0, .ref 9), (1, .int v1), (2, .int (v2 + 1))]) rfl rfl ?_
      exact hH (v2 + 1, h5) (Option.some.inj e).symm
  · exact hE (v2, h) (Option.some.inj e).symm
theorem BJwy_needParts_L24 (L : Nat) (xs : Nat → Int32) (v1 : Int32) (R : List Value × Lay × Hp) (C : (Int32 × Hp) → Prop) (hE : ∀ t : Int32 × Hp, C t → Bg L xs 106 56 [(0, .ref 9), (1, .int v1), (2, .int t.1)] [] LY70 t.2 R) (n : Nat) (s : Int32 × Hp) (o : (Int32 × Hp)) (e : loopN n (fun s => Jwy_needParts_L24 v1 s.1 s.2) s = some o) (hC : C o) : Bg L xs 106 24 [(0, .ref 9), (1, .int v1), (2, .int s.1)] [] LY70 s.2 R := by
  refine loop_B (fun s => Jwy_needParts_L24 v1 s.1 s.2) (fun s : Int32 × Hp => Bg L xs 106 24 [(0, .ref 9), (1, .int v1), (2, .int s.1)] [] LY70 s.2 R) C (fun s o e => ?_) n s o e hC
  intro hK
  refine BJwy_needParts_L24_s L xs v1 R s.1 s.2 o (fun s q => by subst q; exact hK) (fun t q => by subst q; exact hE t hK) e
set_option maxRecDepth 100000 in
theorem BJwy_needParts (L : Nat) (xs : Nat → Int32) (v1 : Int32) (h : Hp) (o : Hp) (e : Jwy_needParts v1 h = some o) : Bg L xs 106 0 [(0, .ref 9), (1, .int v1)] [] LY70 h ([], LY70, o) := by
  obtain ⟨R, hR⟩ : ∃ R : List Value × Lay × Hp, R = ([], LY70, o) := ⟨_, rfl⟩
  rw [← hR]
  refine seg_Bg (pc' := 1) (lv' := [(0, .ref 9), (1, .int v1)]) (st' := [.int v1]) (lay' := LY70) (h' := h) 1 rfl ?_
  refine call_Bg (a := 122) (la := [(0, .int v1)]) (np := 4) (lv' := [(0, .ref 9), (1, .int v1)]) (rest := []) (res := fun r => ([.int r], LY70, h)) rfl e (fun r e => BJyn_isCode L xs v1 LY70 h r e) (fun c1 e => ?_)
  show Bg L xs 106 4 [(0, .ref 9), (1, .int v1)] [.int c1] LY70 h R
  refine seg_Bg (pc' := (if c1 = 0 then 16 else 7)) (lv' := [(0, .ref 9), (1, .int v1)]) (st' := []) (lay' := LY70) (h' := h) 1 rfl ?_
  refine pc_ite e (fun e => ?_) (fun e => ?_)
  · rw [hR, ← Option.some.inj e]; exact ret_Bg rfl
  · refine seg_Bg (pc' := 12) (lv' := [(0, .ref 9), (1, .int v1)]) (st' := [.int v1, .ref 24]) (lay' := LY70) (h' := h) 3 rfl ?_
    refine gd_Bg (pc' := 13) (lv' := [(0, .ref 9), (1, .int v1)]) (st' := [.int (h 24 (Int32.toNatClampNeg v1))]) (lay' := LY70) (h' := h) (g := ibB v1 256) rfl e fun e => ?_
    refine seg_Bg (pc' := (if (h 24 (Int32.toNatClampNeg v1)) = 0 then 16 else 17)) (lv' := [(0, .ref 9), (1, .int v1)]) (st' := []) (lay' := LY70) (h' := h) 1 rfl ?_
    refine pc_ite e (fun e => ?_) (fun e => ?_)
    · rw [hR, ← Option.some.inj e]; exact ret_Bg rfl
    · refine seg_Bg (pc' := 19) (lv' := [(0, .ref 9), (1, .int v1)]) (st' := [.int v1, .ref 9]) (lay' := LY70) (h' := h) 2 rfl ?_
      refine call_Bg (a := 100) (la := [(0, .ref 9), (1, .int v1)]) (np := 22) (lv' := [(0, .ref 9), (1, .int v1)]) (rest := []) (res := fun r => ([], LY70, r)) rfl e (fun r e => BJwy_lookFor L xs v1 h r e) (fun c2 e => ?_)
      show Bg L xs 106 22 [(0, .ref 9), (1, .int v1)] [] LY70 c2 R
      refine seg_Bg (pc' := 24) (lv' := [(0, .ref 9), (1, .int v1), (2, .int 0)]) (st' := []) (lay' := LY70) (h' := c2) 2 rfl ?_
      obtain ⟨t6o, et6o, e⟩ := bd_s e
      refine BJwy_needParts_L24 L xs v1 R (fun (t6 : Int32 × Hp) => (some t6.2) = some o) (fun t6 e => ?_) 1000000 (0, c2) _ et6o e
      rw [hR, ← Option.some.inj e]; exact ret_Bg rfl

set_option maxRecDepth 100000 in
theorem BJwy_partLength (L : Nat) (xs : Nat → Int32) (v1 : Int32) (v2 : Int32) (h : Hp) (o : Int32) (e : Jwy_partLength v1 v2 h = some o) : Bg L xs 108 0 [(0, .ref 9), (1, .int v1), (2, .int v2)] [] LY70 h ([.int o], LY70, h) := by
  obtain ⟨R, hR⟩ : ∃ R : List Value × Lay × Hp, R = ([.int o], LY70, h) := ⟨_, rfl⟩
  rw [← hR]
  refine seg_Bg (pc' := 3) (lv' := [(0, .ref 9), (1, .int v1), (2, .int v2)]) (st' := [.int v2, .int v1, .ref 9]) (lay' := LY70) (h' := h) 3 rfl ?_
  refine call_Bg (a := 99) (la := [(0, .ref 9), (1, .int v1), (2, .int v2)]) (np := 6) (lv' := [(0, .ref 9), (1, .int v1), (2, .int v2)]) (rest := []) (res := fun r => ([.int r], LY70, h)) rfl e (fun r e => BJwy_knownPart L xs v1 v2 h r e) (fun c1 e => ?_)
  show Bg L xs 108 6 [(0, .ref 9), (1, .int v1), (2, .int v2)] [.int c1] LY70 h R
  refine seg_Bg (pc' := 8) (lv' := [(0, .ref 9), (1, .int v1), (2, .int v2), (3, .int c1)]) (st' := [.int c1]) (lay' := LY70) (h' := h) 2 rfl ?_
  refine call_Bg (a := 122) (la := [(0, .int c1)]) (np := 11) (lv' := [(0, .ref 9), (1, .int v1), (2, .int v2), (3, .int c1)]) (rest := []) (res := fun r => ([.int r], LY70, h)) rfl e (fun r e => BJyn_isCode L xs c1 LY70 h r e) (fun c2 e => ?_)
  show Bg L xs 108 11 [(0, .ref 9), (1, .int v1), (2, .int v2), (3, .int c1)] [.int c2] LY70 h R
  refine seg_Bg (pc' := (if c2 = 0 then 23 else 14)) (lv' := [(0, .ref 9), (1, .int v1), (2, .int v2), (3, .int c1)]) (st' := []) (lay' := LY70) (h' := h) 1 rfl ?_
  refine pc_ite e (fun e => ?_) (fun e => ?_)
  · refine seg_Bg (pc' := 24) (lv' := [(0, .ref 9), (1, .int v1), (2, .int v2), (3, .int c1)]) (st' := [.int 0]) (lay' := LY70) (h' := h) 1 rfl ?_
    rw [hR, ← Option.some.inj e]; exact ret_Bg rfl
  · refine seg_Bg (pc' := 19) (lv' := [(0, .ref 9), (1, .int v1), (2, .int v2), (3, .int c1)]) (st' := [.int c1, .ref 25]) (lay' := LY70) (h' := h) 3 rfl ?_
    refine gd_Bg (pc' := 20) (lv' := [(0, .ref 9), (1, .int v1), (2, .int v2), (3, .int c1)]) (st' := [.int (h 25 (Int32.toNatClampNeg c1))]) (lay' := LY70) (h' := h) (g := ibB c1 256) rfl e fun e => ?_
    refine seg_Bg (pc' := 24) (lv' := [(0, .ref 9), (1, .int v1), (2, .int v2), (3, .int c1)]) (st' := [.int (h 25 (Int32.toNatClampNeg c1))]) (lay' := LY70) (h' := h) 1 rfl ?_
    rw [hR, ← Option.some.inj e]; exact ret_Bg rfl

set_option maxRecDepth 100000 in
theorem BJwy_measure (L : Nat) (xs : Nat → Int32) (v1 : Int32) (h : Hp) (o : Hp) (e : Jwy_measure v1 h = some o) : Bg L xs 107 0 [(0, .ref 9), (1, .int v1)] [] LY70 h ([], LY70, o) := by
  obtain ⟨R, hR⟩ : ∃ R : List Value × Lay × Hp, R = ([], LY70, o) := ⟨_, rfl⟩
  rw [← hR]
  refine seg_Bg (pc' := 1) (lv' := [(0, .ref 9), (1, .int v1)]) (st' := [.int v1]) (lay' := LY70) (h' := h) 1 rfl ?_
  refine call_Bg (a := 122) (la := [(0, .int v1)]) (np := 4) (lv' := [(0, .ref 9), (1, .int v1)]) (rest := []) (res := fun r => ([.int r], LY70, h)) rfl e (fun r e => BJyn_isCode L xs v1 LY70 h r e) (fun c1 e => ?_)
  show Bg L xs 107 4 [(0, .ref 9), (1, .int v1)] [.int c1] LY70 h R
  refine seg_Bg (pc' := (if c1 = 0 then 44 else 7)) (lv' := [(0, .ref 9), (1, .int v1)]) (st' := []) (lay' := LY70) (h' := h) 1 rfl ?_
  refine pc_ite e (fun e => ?_) (fun e => ?_)
  · rw [hR, ← Option.some.inj e]; exact ret_Bg rfl
  · refine seg_Bg (pc' := 12) (lv' := [(0, .ref 9), (1, .int v1)]) (st' := [.int v1, .ref 24]) (lay' := LY70) (h' := h) 3 rfl ?_
    refine gd_Bg (pc' := 13) (lv' := [(0, .ref 9), (1, .int v1)]) (st' := [.int (h 24 (Int32.toNatClampNeg v1))]) (lay' := LY70) (h' := h) (g := ibB v1 256) rfl e fun e => ?_
    refine seg_Bg (pc' := (if (h 24 (Int32.toNatClampNeg v1)) = 0 then 44 else 16)) (lv' := [(0, .ref 9), (1, .int v1)]) (st' := []) (lay' := LY70) (h' := h) 1 rfl ?_
    refine pc_ite e (fun e => ?_) (fun e => ?_)
    · rw [hR, ← Option.some.inj e]; exact ret_Bg rfl
    · refine seg_Bg (pc' := 25) (lv' := [(0, .ref 9), (1, .int v1)]) (st' := [.int 0, .int v1, .ref 9, .int 1, .int v1, .ref 25]) (lay' := LY70) (h' := h) 7 rfl ?_
      refine call_Bg (a := 108) (la := [(0, .ref 9), (1, .int v1), (2, .int 0)]) (np := 28) (lv' := [(0, .ref 9), (1, .int v1)]) (rest := [.int 1, .int v1, .ref 25]) (res := fun r => ([.int r], LY70, h)) rfl e (fun r e => BJwy_partLength L xs v1 0 h r e) (fun c2 e => ?_)
      show Bg L xs 107 28 [(0, .ref 9), (1, .int v1)] [.int c2, .int 1, .int v1, .ref 25] LY70 h R
      refine seg_Bg (pc' := 32) (lv' := [(0, .ref 9), (1, .int v1)]) (st' := [.int 1, .int v1, .ref 9, .int ((1 : Int32) + c2), .int v1, .ref 25]) (lay' := LY70) (h' := h) 4 rfl ?_
      refine call_Bg (a := 108) (la := [(0, .ref 9), (1, .int v1), (2, .int 1)]) (np := 35) (lv' := [(0, .ref 9), (1, .int v1)]) (rest := [.int ((1 : Int32) + c2), .int v1, .ref 25]) (res := fun r => ([.int r], LY70, h)) rfl e (fun r e => BJwy_partLength L xs v1 1 h r e) (fun c3 e => ?_)
      show Bg L xs 107 35 [(0, .ref 9), (1, .int v1)] [.int c3, .int ((1 : Int32) + c2), .int v1, .ref 25] LY70 h R
      refine seg_Bg (pc' := 39) (lv' := [(0, .ref 9), (1, .int v1)]) (st' := [.int 2, .int v1, .ref 9, .int (((1 : Int32) + c2) + c3), .int v1, .ref 25]) (lay' := LY70) (h' := h) 4 rfl ?_
      refine call_Bg (a := 108) (la := [(0, .ref 9), (1, .int v1), (2, .int 2)]) (np := 42) (lv' := [(0, .ref 9), (1, .int v1)]) (rest := [.int (((1 : Int32) + c2) + c3), .int v1, .ref 25]) (res := fun r => ([.int r], LY70, h)) rfl e (fun r e => BJwy_partLength L xs v1 2 h r e) (fun c4 e => ?_)
      show Bg L xs 107 42 [(0, .ref 9), (1, .int v1)] [.int c4, .int (((1 : Int32) + c2) + c3), .int v1, .ref 25] LY70 h R
      refine seg_Bg (pc' := 43) (lv' := [(0, .ref 9), (1, .int v1)]) (st' := [.int ((((1 : Int32) + c2) + c3) + c4), .int v1, .ref 25]) (lay' := LY70) (h' := h) 1 rfl ?_
      refine gp_Bg (pc' := 44) (lv' := [(0, .ref 9), (1, .int v1)]) (st' := []) (lay' := LY70) (x := hset h 25 (Int32.toNatClampNeg v1) ((((1 : Int32) + c2) + c3) + c4)) (g := ibB v1 256) rfl e fun h5 e => ?_
      rw [hR, ← Option.some.inj e]; exact ret_Bg rfl

set_option maxRecDepth 100000 in
theorem BJwy_lengthOf_L41_s (L : Nat) (xs : Nat → Int32) (v1 v2 : Int32) (R : List Value × Lay × Hp) (v3 : Int32) (h : Hp) (o : ((Int32 × Hp) ⊕ (Int32 × Hp))) (hH : ∀ s : Int32 × Hp, o = .inl s → Bg L xs 105 41 [(0, .ref 9), (1, .int v1), (2, .int v2), (3, .int s.1)] [] LY70 s.2 R) (hE : ∀ t : Int32 × Hp, o = .inr t → Bg L xs 105 70 [(0, .ref 9), (1, .int v1), (2, .int v2), (3, .int t.1)] [] LY70 t.2 R) (e : Jwy_lengthOf_L41 v1 v2 v3 h = some o) : Bg L xs 105 41 [(0, .ref 9), (1, .int v1), (2, .int v2), (3, .int v3)] [] LY70 h R := by
  refine seg_Bg (pc' := (if v3 < 256 then 48 else 70)) (lv' := [(0, .ref 9), (1, .int v1), (2, .int v2), (3, .int v3)]) (st' := []) (lay' := LY70) (h' := h) 3 rfl ?_
  refine pc_ite e (fun e => ?_) (fun e => ?_)
  · refine seg_Bg (pc' := (if v3 = v1 then 58 else 62)) (lv' := [(0, .ref 9), (1, .int v1), (2, .int v2), (3, .int v3)]) (st' := [.int v3, .ref 24]) (lay' := LY70) (h' := h) 6 rfl ?_
    refine pc_ite e (fun e => ?_) (fun e => ?_)
    · refine seg_Bg (pc' := 63) (lv' := [(0, .ref 9), (1, .int v1), (2, .int v2), (3, .int v3)]) (st' := [.int 1, .int v3, .ref 24]) (lay' := LY70) (h' := h) 2 rfl ?_
      refine gp_Bg (pc' := 64) (lv' := [(0, .ref 9), (1, .int v1), (2, .int v2), (3, .int v3)]) (st' := []) (lay' := LY70) (x := hset h 24 (Int32.toNatClampNeg v3) (vp_nar .boolean 1)) (g := ibB v3 256) rfl e fun h2 e => ?_
      refine seg_Bg (pc' := 41) (lv' := [(0, .ref 9), (1, .int v1), (2, .int v2), (3, .int (v3 + 1))]) (st' := []) (lay' := LY70) (h' := h2) 2 rfl ?_
      exact hH (v3 + 1, h2) (Option.some.inj e).symm
    · refine seg_Bg (pc' := 63) (lv' := [(0, .ref 9), (1, .int v1), (2, .int v2), (3, .int v3)]) (st' := [.int 0, .int v3, .ref 24]) (lay' := LY70) (h' := h) 1 rfl ?_
      refine gp_Bg (pc' := 64) (lv' := [(0, .ref 9), (1, .int v1), (2, .int v2), (3, .int v3)]) (st' := []) (lay' := LY70) (x := hset h 24 (Int32.toNatClampNeg v3) (vp_nar .boolean 0)) (g := ibB v3 256) rfl e fun h3 e => ?_
      refine seg_Bg (pc' := 41) (lv' := [(0, .ref 9), (1, .int v1), (2, .int v2), (3, .int (v3 + 1))]) (st' := []) (lay' := LY70) (h' := h3) 2 rfl ?_
      exact hH (v3 + 1, h3) (Option.some.inj e).symm
  · exact hE (v3, h) (Option.some.inj e).symm
theorem BJwy_lengthOf_L41 (L : Nat) (xs : Nat → Int32) (v1 v2 : Int32) (R : List Value × Lay × Hp) (C : (Int32 × Hp) → Prop) (hE : ∀ t : Int32 × Hp, C t → Bg L xs 105 70 [(0, .ref 9), (1, .int v1), (2, .int v2), (3, .int t.1)] [] LY70 t.2 R) (n : Nat) (s : Int32 × Hp) (o : (Int32 × Hp)) (e : loopN n (fun s => Jwy_lengthOf_L41 v1 v2 s.1 s.2) s = some o) (hC : C o) : Bg L xs 105 41 [(0, .ref 9), (1, .int v1), (2, .int v2), (3, .int s.1)] [] LY70 s.2 R := by
  refine loop_B (fun s => Jwy_lengthOf_L41 v1 v2 s.1 s.2) (fun s : Int32 × Hp => Bg L xs 105 41 [(0, .ref 9), (1, .int v1), (2, .int v2), (3, .int s.1)] [] LY70 s.2 R) C (fun s o e => ?_) n s o e hC
  intro hK
  refine BJwy_lengthOf_L41_s L xs v1 v2 R s.1 s.2 o (fun s q => by subst q; exact hK) (fun t q => by subst q; exact hE t hK) e
set_option maxRecDepth 100000 in
theorem BJwy_lengthOf_L85_s (L : Nat) (xs : Nat → Int32) (v1 v2 v3 : Int32) (R : List Value × Lay × Hp) (v4 : Int32) (h : Hp) (o : ((Int32 × Hp) ⊕ (Int32 × Hp))) (hH : ∀ s : Int32 × Hp, o = .inl s → Bg L xs 105 85 [(0, .ref 9), (1, .int v1), (2, .int v2), (3, .int v3), (4, .int s.1)] [] LY70 s.2 R) (hE : ∀ t : Int32 × Hp, o = .inr t → Bg L xs 105 109 [(0, .ref 9), (1, .int v1), (2, .int v2), (3, .int v3), (4, .int t.1)] [] LY70 t.2 R) (e : Jwy_lengthOf_L85 v1 v2 v3 v4 h = some o) : Bg L xs 105 85 [(0, .ref 9), (1, .int v1), (2, .int v2), (3, .int v3), (4, .int v4)] [] LY70 h R := by
  refine seg_Bg (pc' := (if v4 < 0 then 109 else 90)) (lv' := [(0, .ref 9), (1, .int v1), (2, .int v2), (3, .int v3), (4, .int v4)]) (st' := []) (lay' := LY70) (h' := h) 2 rfl ?_
  refine pc_ite e (fun e => ?_) (fun e => ?_)
  · exact hE (v4, h) (Option.some.inj e).symm
  · refine seg_Bg (pc' := 97) (lv' := [(0, .ref 9), (1, .int v1), (2, .int v2), (3, .int v3), (4, .int v4)]) (st' := [.int v4, .ref 10, .ref 9]) (lay' := LY70) (h' := h) 4 rfl ?_
    refine call_Bg (a := 28) (la := [(0, .ref 10), (1, .int v4)]) (np := 100) (lv' := [(0, .ref 9), (1, .int v1), (2, .int v2), (3, .int v3), (4, .int v4)]) (rest := [.ref 9]) (res := fun r => ([.int r], LY70, h)) rfl e (fun r e => BJcs_madeAt L xs v4 h r e) (fun c6 e => ?_)
    show Bg L xs 105 100 [(0, .ref 9), (1, .int v1), (2, .int v2), (3, .int v3), (4, .int v4)] [.int c6, .ref 9] LY70 h R
    refine call_Bg (a := 106) (la := [(0, .ref 9), (1, .int c6)]) (np := 103) (lv' := [(0, .ref 9), (1, .int v1), (2, .int v2), (3, .int v3), (4, .int v4)]) (rest := []) (res := fun r => ([], LY70, r)) rfl e (fun r e => BJwy_needParts L xs c6 h r e) (fun c7 e => ?_)
    show Bg L xs 105 103 [(0, .ref 9), (1, .int v1), (2, .int v2), (3, .int v3), (4, .int v4)] [] LY70 c7 R
    refine seg_Bg (pc' := 85) (lv' := [(0, .ref 9), (1, .int v1), (2, .int v2), (3, .int v3), (4, .int (v4 + (-1)))]) (st' := []) (lay' := LY70) (h' := c7) 2 rfl ?_
    exact hH (v4 + (-1), c7) (Option.some.inj e).symm
theorem BJwy_lengthOf_L85 (L : Nat) (xs : Nat → Int32) (v1 v2 v3 : Int32) (R : List Value × Lay × Hp) (C : (Int32 × Hp) → Prop) (hE : ∀ t : Int32 × Hp, C t → Bg L xs 105 109 [(0, .ref 9), (1, .int v1), (2, .int v2), (3, .int v3), (4, .int t.1)] [] LY70 t.2 R) (n : Nat) (s : Int32 × Hp) (o : (Int32 × Hp)) (e : loopN n (fun s => Jwy_lengthOf_L85 v1 v2 v3 s.1 s.2) s = some o) (hC : C o) : Bg L xs 105 85 [(0, .ref 9), (1, .int v1), (2, .int v2), (3, .int v3), (4, .int s.1)] [] LY70 s.2 R := by
  refine loop_B (fun s => Jwy_lengthOf_L85 v1 v2 v3 s.1 s.2) (fun s : Int32 × Hp => Bg L xs 105 85 [(0, .ref 9), (1, .int v1), (2, .int v2), (3, .int v3), (4, .int s.1)] [] LY70 s.2 R) C (fun s o e => ?_) n s o e hC
  intro hK
  refine BJwy_lengthOf_L85_s L xs v1 v2 v3 R s.1 s.2 o (fun s q => by subst q; exact hK) (fun t q => by subst q; exact hE t hK) e
set_option maxRecDepth 100000 in
theorem BJwy_lengthOf_L112_s (L : Nat) (xs : Nat → Int32) (v1 v2 v3 : Int32) (R : List Value × Lay × Hp) (v4 : Int32) (h : Hp) (o : ((Int32 × Hp) ⊕ (Int32 × Hp))) (hH : ∀ s : Int32 × Hp, o = .inl s → Bg L xs 105 112 [(0, .ref 9), (1, .int v1), (2, .int v2), (3, .int v3), (4, .int s.1)] [] LY70 s.2 R) (hE : ∀ t : Int32 × Hp, o = .inr t → Bg L xs 105 137 [(0, .ref 9), (1, .int v1), (2, .int v2), (3, .int v3), (4, .int t.1)] [] LY70 t.2 R) (e : Jwy_lengthOf_L112 v1 v2 v3 v4 h = some o) : Bg L xs 105 112 [(0, .ref 9), (1, .int v1), (2, .int v2), (3, .int v3), (4, .int v4)] [] LY70 h R := by
  refine seg_Bg (pc' := (if v4 < v3 then 118 else 137)) (lv' := [(0, .ref 9), (1, .int v1), (2, .int v2), (3, .int v3), (4, .int v4)]) (st' := []) (lay' := LY70) (h' := h) 3 rfl ?_
  refine pc_ite e (fun e => ?_) (fun e => ?_)
  · refine seg_Bg (pc' := 125) (lv' := [(0, .ref 9), (1, .int v1), (2, .int v2), (3, .int v3), (4, .int v4)]) (st' := [.int v4, .ref 10, .ref 9]) (lay' := LY70) (h' := h) 4 rfl ?_
    refine call_Bg (a := 28) (la := [(0, .ref 10), (1, .int v4)]) (np := 128) (lv' := [(0, .ref 9), (1, .int v1), (2, .int v2), (3, .int v3), (4, .int v4)]) (rest := [.ref 9]) (res := fun r => ([.int r], LY70, h)) rfl e (fun r e => BJcs_madeAt L xs v4 h r e) (fun c9 e => ?_)
    show Bg L xs 105 128 [(0, .ref 9), (1, .int v1), (2, .int v2), (3, .int v3), (4, .int v4)] [.int c9, .ref 9] LY70 h R
    refine call_Bg (a := 107) (la := [(0, .ref 9), (1, .int c9)]) (np := 131) (lv' := [(0, .ref 9), (1, .int v1), (2, .int v2), (3, .int v3), (4, .int v4)]) (rest := []) (res := fun r => ([], LY70, r)) rfl e (fun r e => BJwy_measure L xs c9 h r e) (fun c10 e => ?_)
    show Bg L xs 105 131 [(0, .ref 9), (1, .int v1), (2, .int v2), (3, .int v3), (4, .int v4)] [] LY70 c10 R
    refine seg_Bg (pc' := 112) (lv' := [(0, .ref 9), (1, .int v1), (2, .int v2), (3, .int v3), (4, .int (v4 + 1))]) (st' := []) (lay' := LY70) (h' := c10) 2 rfl ?_
    exact hH (v4 + 1, c10) (Option.some.inj e).symm
  · exact hE (v4, h) (Option.some.inj e).symm
theorem BJwy_lengthOf_L112 (L : Nat) (xs : Nat → Int32) (v1 v2 v3 : Int32) (R : List Value × Lay × Hp) (C : (Int32 × Hp) → Prop) (hE : ∀ t : Int32 × Hp, C t → Bg L xs 105 137 [(0, .ref 9), (1, .int v1), (2, .int v2), (3, .int v3), (4, .int t.1)] [] LY70 t.2 R) (n : Nat) (s : Int32 × Hp) (o : (Int32 × Hp)) (e : loopN n (fun s => Jwy_lengthOf_L112 v1 v2 v3 s.1 s.2) s = some o) (hC : C o) : Bg L xs 105 112 [(0, .ref 9), (1, .int v1), (2, .int v2), (3, .int v3), (4, .int s.1)] [] LY70 s.2 R := by
  refine loop_B (fun s => Jwy_lengthOf_L112 v1 v2 v3 s.1 s.2) (fun s : Int32 × Hp => Bg L xs 105 112 [(0, .ref 9), (1, .int v1), (2, .int v2), (3, .int v3), (4, .int s.1)] [] LY70 s.2 R) C (fun s o e => ?_) n s o e hC
  intro hK
  refine BJwy_lengthOf_L112_s L xs v1 v2 v3 R s.1 s.2 o (fun s q => by subst q; exact hK) (fun t q => by subst q; exact hE t hK) e
set_option maxRecDepth 100000 in
theorem BJwy_lengthOf (L : Nat) (xs : Nat → Int32) (v1 : Int32) (h : Hp) (o : Int32 × Hp) (e : Jwy_lengthOf v1 h = some o) : Bg L xs 105 0 [(0, .ref 9), (1, .int v1)] [] LY70 h ([.int o.1], LY70, o.2) := by
  obtain ⟨R, hR⟩ : ∃ R : List Value × Lay × Hp, R = ([.int o.1], LY70, o.2) := ⟨_, rfl⟩
  rw [← hR]
  refine seg_Bg (pc' := 5) (lv' := [(0, .ref 9), (1, .int v1)]) (st' := [.int v1, .ref 10]) (lay' := LY70) (h' := h) 3 rfl ?_
  refine call_Bg (a := 33) (la := [(0, .ref 10), (1, .int v1)]) (np := 8) (lv' := [(0, .ref 9), (1, .int v1)]) (rest := []) (res := fun r => ([.int r], LY70, h)) rfl e (fun r e => BJcs_costOf L xs v1 h r e) (fun c1 e => ?_)
  show Bg L xs 105 8 [(0, .ref 9), (1, .int v1)] [.int c1] LY70 h R
  refine seg_Bg (pc' := (if c1 = (-1) then 23 else 14)) (lv' := [(0, .ref 9), (1, .int v1), (2, .int c1)]) (st' := []) (lay' := LY70) (h' := h) 4 rfl ?_
  refine pc_ite e (fun e => ?_) (fun e => ?_)
  · refine seg_Bg (pc' := (if c1 = (-1) then 28 else 32)) (lv' := [(0, .ref 9), (1, .int v1), (2, .int c1)]) (st' := []) (lay' := LY70) (h' := h) 3 rfl ?_
    refine pc_ite e (fun e => ?_) (fun e => ?_)
    · refine seg_Bg (pc' := 38) (lv' := [(0, .ref 9), (1, .int v1), (2, .int c1)]) (st' := [.int (-1)]) (lay' := LY70) (h' := h) 2 rfl ?_
      rw [hR, ← Option.some.inj e]; exact ret_Bg rfl
    · refine seg_Bg (pc' := 37) (lv' := [(0, .ref 9), (1, .int v1), (2, .int c1)]) (st' := [.int v1, .ref 25]) (lay' := LY70) (h' := h) 3 rfl ?_
      refine gd_Bg (pc' := 38) (lv' := [(0, .ref 9), (1, .int v1), (2, .int c1)]) (st' := [.int (h 25 (Int32.toNatClampNeg v1))]) (lay' := LY70) (h' := h) (g := ibB v1 256) rfl e fun e => ?_
      rw [hR, ← Option.some.inj e]; exact ret_Bg rfl
  · refine seg_Bg (pc' := 19) (lv' := [(0, .ref 9), (1, .int v1), (2, .int c1)]) (st' := [.int v1, .ref 25]) (lay' := LY70) (h' := h) 3 rfl ?_
    refine gd_Bg (pc' := 20) (lv' := [(0, .ref 9), (1, .int v1), (2, .int c1)]) (st' := [.int (h 25 (Int32.toNatClampNeg v1))]) (lay' := LY70) (h' := h) (g := ibB v1 256) rfl e fun e => ?_
    refine seg_Bg (pc' := (if 0 < (h 25 (Int32.toNatClampNeg v1)) then 23 else 39)) (lv' := [(0, .ref 9), (1, .int v1), (2, .int c1)]) (st' := []) (lay' := LY70) (h' := h) 1 rfl ?_
    refine pc_ite e (fun e => ?_) (fun e => ?_)
    · refine seg_Bg (pc' := (if c1 = (-1) then 28 else 32)) (lv' := [(0, .ref 9), (1, .int v1), (2, .int c1)]) (st' := []) (lay' := LY70) (h' := h) 3 rfl ?_
      refine pc_ite e (fun e => ?_) (fun e => ?_)
      · refine seg_Bg (pc' := 38) (lv' := [(0, .ref 9), (1, .int v1), (2, .int c1)]) (st' := [.int (-1)]) (lay' := LY70) (h' := h) 2 rfl ?_
        rw [hR, ← Option.some.inj e]; exact ret_Bg rfl
      · refine seg_Bg (pc' := 37) (lv' := [(0, .ref 9), (1, .int v1), (2, .int c1)]) (st' := [.int v1, .ref 25]) (lay' := LY70) (h' := h) 3 rfl ?_
        refine gd_Bg (pc' := 38) (lv' := [(0, .ref 9), (1, .int v1), (2, .int c1)]) (st' := [.int (h 25 (Int32.toNatClampNeg v1))]) (lay' := LY70) (h' := h) (g := ibB v1 256) rfl e fun e => ?_
        rw [hR, ← Option.some.inj e]; exact ret_Bg rfl
    · refine seg_Bg (pc' := 41) (lv' := [(0, .ref 9), (1, .int v1), (2, .int c1), (3, .int 0)]) (st' := []) (lay' := LY70) (h' := h) 2 rfl ?_
      obtain ⟨t4o, et4o, e⟩ := bd_s e
      refine BJwy_lengthOf_L41 L xs v1 c1 R (fun (t4 : Int32 × Hp) => (bd (Jcs_partsTo c1 1 t4.2) fun c5 => bd (loopN 1000000 (fun s => Jwy_lengthOf_L85 v1 c1 c5 s.1 s.2) (c5 - (1 : Int32), t4.2)) fun (t8 : Int32 × Hp) => bd (loopN 1000000 (fun s => Jwy_lengthOf_L112 v1 c1 c5 s.1 s.2) (0, t8.2)) fun (t11 : Int32 × Hp) => bif ibB v1 256 then some (t11.2 25 (Int32.toNatClampNeg v1), t11.2) else none) = some o) (fun t4 e => ?_) 1000000 (0, h) _ et4o e
      refine seg_Bg (pc' := 76) (lv' := [(0, .ref 9), (1, .int v1), (2, .int c1), (3, .int t4.1)]) (st' := [.int 1, .int c1, .ref 10]) (lay' := LY70) (h' := t4.2) 4 rfl ?_
      refine call_Bg (a := 27) (la := [(0, .ref 10), (1, .int c1), (2, .int 1)]) (np := 79) (lv' := [(0, .ref 9), (1, .int v1), (2, .int c1), (3, .int t4.1)]) (rest := []) (res := fun r => ([.int r], LY70, t4.2)) rfl e (fun r e => BJcs_partsTo L xs c1 1 t4.2 r e) (fun c5 e => ?_)
      show Bg L xs 105 79 [(0, .ref 9), (1, .int v1), (2, .int c1), (3, .int t4.1)] [.int c5] LY70 t4.2 R
      refine seg_Bg (pc' := 85) (lv' := [(0, .ref 9), (1, .int v1), (2, .int c1), (3, .int c5), (4, .int (c5 - (1 : Int32)))]) (st' := []) (lay' := LY70) (h' := t4.2) 5 rfl ?_
      obtain ⟨t8o, et8o, e⟩ := bd_s e
      refine BJwy_lengthOf_L85 L xs v1 c1 c5 R (fun (t8 : Int32 × Hp) => (bd (loopN 1000000 (fun s => Jwy_lengthOf_L112 v1 c1 c5 s.1 s.2) (0, t8.2)) fun (t11 : Int32 × Hp) => bif ibB v1 256 then some (t11.2 25 (Int32.toNatClampNeg v1), t11.2) else none) = some o) (fun t8 e => ?_) 1000000 (c5 - (1 : Int32), t4.2) _ et8o e
      refine seg_Bg (pc' := 112) (lv' := [(0, .ref 9), (1, .int v1), (2, .int c1), (3, .int c5), (4, .int 0)]) (st' := []) (lay' := LY70) (h' := t8.2) 2 rfl ?_
      obtain ⟨t11o, et11o, e⟩ := bd_s e
      refine BJwy_lengthOf_L112 L xs v1 c1 c5 R (fun (t11 : Int32 × Hp) => (bif ibB v1 256 then some (t11.2 25 (Int32.toNatClampNeg v1), t11.2) else none) = some o) (fun t11 e => ?_) 1000000 (0, t8.2) _ et11o e
      refine seg_Bg (pc' := 142) (lv' := [(0, .ref 9), (1, .int v1), (2, .int c1), (3, .int c5), (4, .int t11.1)]) (st' := [.int v1, .ref 25]) (lay' := LY70) (h' := t11.2) 3 rfl ?_
      refine gd_Bg (pc' := 143) (lv' := [(0, .ref 9), (1, .int v1), (2, .int c1), (3, .int c5), (4, .int t11.1)]) (st' := [.int (t11.2 25 (Int32.toNatClampNeg v1))]) (lay' := LY70) (h' := t11.2) (g := ibB v1 256) rfl e fun e => ?_
      rw [hR, ← Option.some.inj e]; exact ret_Bg rfl

set_option maxRecDepth 100000 in
theorem BJyn_cost (L : Nat) (xs : Nat → Int32) (v1 : Int32) (v2 : Int32) (h : Hp) (o : Int32 × Hp) (e : Jyn_cost v1 v2 h = some o) : Bg L xs 116 0 [(0, .ref 0), (1, .int v1), (2, .int v2)] [] LY70 h ([.int o.1], LY70, o.2) := by
  obtain ⟨R, hR⟩ : ∃ R : List Value × Lay × Hp, R = ([.int o.1], LY70, o.2) := ⟨_, rfl⟩
  rw [← hR]
  refine seg_Bg (pc' := 1) (lv' := [(0, .ref 0), (1, .int v1), (2, .int v2)]) (st' := [.int v1]) (lay' := LY70) (h' := h) 1 rfl ?_
  refine call_Bg (a := 122) (la := [(0, .int v1)]) (np := 4) (lv' := [(0, .ref 0), (1, .int v1), (2, .int v2)]) (rest := []) (res := fun r => ([.int r], LY70, h)) rfl e (fun r e => BJyn_isCode L xs v1 LY70 h r e) (fun c1 e => ?_)
  show Bg L xs 116 4 [(0, .ref 0), (1, .int v1), (2, .int v2)] [.int c1] LY70 h R
  refine seg_Bg (pc' := (if c1 = 0 then 7 else 10)) (lv' := [(0, .ref 0), (1, .int v1), (2, .int v2)]) (st' := []) (lay' := LY70) (h' := h) 1 rfl ?_
  refine pc_ite e (fun e => ?_) (fun e => ?_)
  · refine seg_Bg (pc' := 9) (lv' := [(0, .ref 0), (1, .int v1), (2, .int v2)]) (st' := [.int (-1000000002)]) (lay' := LY70) (h' := h) 1 rfl ?_
    rw [hR, ← Option.some.inj e]; exact ret_Bg rfl
  · refine seg_Bg (pc' := 11) (lv' := [(0, .ref 0), (1, .int v1), (2, .int v2)]) (st' := [.ref 0]) (lay' := LY70) (h' := h) 1 rfl ?_
    refine call_Bg (a := 126) (la := [(0, .ref 0)]) (np := 14) (lv' := [(0, .ref 0), (1, .int v1), (2, .int v2)]) (rest := []) (res := fun r => ([.ref 10], LY70, r)) rfl e (fun r e => BJyn_reckoned L xs h r e) (fun c2 e => ?_)
    show Bg L xs 116 14 [(0, .ref 0), (1, .int v1), (2, .int v2)] [.ref 10] LY70 c2 R
    refine seg_Bg (pc' := (if v2 = 0 then 56 else if v2 = 1 then 62 else if v2 = 2 then 68 else if v2 = 3 then 78 else if v2 = 4 then 88 else if v2 = 5 then 98 else 107)) (lv' := [(0, .ref 0), (1, .int v1), (2, .int v2), (3, .ref 10)]) (st' := []) (lay' := LY70) (h' := c2) 3 rfl ?_
    refine pc_ite e (fun e => ?_) (fun e => ?_)
    · refine seg_Bg (pc' := 58) (lv' := [(0, .ref 0), (1, .int v1), (2, .int v2), (3, .ref 10)]) (st' := [.int v1, .ref 10]) (lay' := LY70) (h' := c2) 2 rfl ?_
      refine call_Bg (a := 33) (la := [(0, .ref 10), (1, .int v1)]) (np := 61) (lv' := [(0, .ref 0), (1, .int v1), (2, .int v2), (3, .ref 10)]) (rest := []) (res := fun r => ([.int r], LY70, c2)) rfl e (fun r e => BJcs_costOf L xs v1 c2 r e) (fun c3 e => ?_)
      show Bg L xs 116 61 [(0, .ref 0), (1, .int v1), (2, .int v2), (3, .ref 10)] [.int c3] LY70 c2 R
      rw [hR, ← Option.some.inj e]; exact ret_Bg rfl
    · refine pc_ite e (fun e => ?_) (fun e => ?_)
      · refine seg_Bg (pc' := 64) (lv' := [(0, .ref 0), (1, .int v1), (2, .int v2), (3, .ref 10)]) (st' := [.int v1, .ref 10]) (lay' := LY70) (h' := c2) 2 rfl ?_
        refine call_Bg (a := 34) (la := [(0, .ref 10), (1, .int v1)]) (np := 67) (lv' := [(0, .ref 0), (1, .int v1), (2, .int v2), (3, .ref 10)]) (rest := []) (res := fun r => ([.int r], LY70, c2)) rfl e (fun r e => BJcs_topOf L xs v1 c2 r e) (fun c4 e => ?_)
        show Bg L xs 116 67 [(0, .ref 0), (1, .int v1), (2, .int v2), (3, .ref 10)] [.int c4] LY70 c2 R
        rw [hR, ← Option.some.inj e]; exact ret_Bg rfl
      · refine pc_ite e (fun e => ?_) (fun e => ?_)
        · refine seg_Bg (pc' := 74) (lv' := [(0, .ref 0), (1, .int v1), (2, .int v2), (3, .ref 10)]) (st' := [.int 0, .int v1, .ref 9]) (lay' := LY70) (h' := c2) 4 rfl ?_
          refine call_Bg (a := 98) (la := [(0, .ref 9), (1, .int v1), (2, .int 0)]) (np := 77) (lv' := [(0, .ref 0), (1, .int v1), (2, .int v2), (3, .ref 10)]) (rest := []) (res := fun r => ([.int r.1], LY70, r.2)) rfl e (fun r e => BJwy_partOf L xs v1 0 c2 r e) (fun c5 e => ?_)
          show Bg L xs 116 77 [(0, .ref 0), (1, .int v1), (2, .int v2), (3, .ref 10)] [.int c5.1] LY70 c5.2 R
          rw [hR, ← Option.some.inj e]; exact ret_Bg rfl
        · refine pc_ite e (fun e => ?_) (fun e => ?_)
          · refine seg_Bg (pc' := 84) (lv' := [(0, .ref 0), (1, .int v1), (2, .int v2), (3, .ref 10)]) (st' := [.int 1, .int v1, .ref 9]) (lay' := LY70) (h' := c2) 4 rfl ?_
            refine call_Bg (a := 98) (la := [(0, .ref 9), (1, .int v1), (2, .int 1)]) (np := 87) (lv' := [(0, .ref 0), (1, .int v1), (2, .int v2), (3, .ref 10)]) (rest := []) (res := fun r => ([.int r.1], LY70, r.2)) rfl e (fun r e => BJwy_partOf L xs v1 1 c2 r e) (fun c6 e => ?_)
            show Bg L xs 116 87 [(0, .ref 0), (1, .int v1), (2, .int v2), (3, .ref 10)] [.int c6.1] LY70 c6.2 R
            rw [hR, ← Option.some.inj e]; exact ret_Bg rfl
          · refine pc_ite e (fun e => ?_) (fun e => ?_)
            · refine seg_Bg (pc' := 94) (lv' := [(0, .ref 0), (1, .int v1), (2, .int v2), (3, .ref 10)]) (st' := [.int 2, .int v1, .ref 9]) (lay' := LY70) (h' := c2) 4 rfl ?_
              refine call_Bg (a := 98) (la := [(0, .ref 9), (1, .int v1), (2, .int 2)]) (np := 97) (lv' := [(0, .ref 0), (1, .int v1), (2, .int v2), (3, .ref 10)]) (rest := []) (res := fun r => ([.int r.1], LY70, r.2)) rfl e (fun r e => BJwy_partOf L xs v1 2 c2 r e) (fun c7 e => ?_)
              show Bg L xs 116 97 [(0, .ref 0), (1, .int v1), (2, .int v2), (3, .ref 10)] [.int c7.1] LY70 c7.2 R
              rw [hR, ← Option.some.inj e]; exact ret_Bg rfl
            · refine pc_ite e (fun e => ?_) (fun e => ?_)
              · refine seg_Bg (pc' := 103) (lv' := [(0, .ref 0), (1, .int v1), (2, .int v2), (3, .ref 10)]) (st' := [.int v1, .ref 9]) (lay' := LY70) (h' := c2) 3 rfl ?_
                refine call_Bg (a := 105) (la := [(0, .ref 9), (1, .int v1)]) (np := 106) (lv' := [(0, .ref 0), (1, .int v1), (2, .int v2), (3, .ref 10)]) (rest := []) (res := fun r => ([.int r.1], LY70, r.2)) rfl e (fun r e => BJwy_lengthOf L xs v1 c2 r e) (fun c8 e => ?_)
                show Bg L xs 116 106 [(0, .ref 0), (1, .int v1), (2, .int v2), (3, .ref 10)] [.int c8.1] LY70 c8.2 R
                rw [hR, ← Option.some.inj e]; exact ret_Bg rfl
              · refine seg_Bg (pc' := 109) (lv' := [(0, .ref 0), (1, .int v1), (2, .int v2), (3, .ref 10)]) (st' := [.int (-1000000002)]) (lay' := LY70) (h' := c2) 1 rfl ?_
                rw [hR, ← Option.some.inj e]; exact ret_Bg rfl

set_option maxRecDepth 100000 in
theorem BJwy_firstLetterOf (L : Nat) (xs : Nat → Int32) (v1 : Int32) (h : Hp) (o : Int32) (e : Jwy_firstLetterOf v1 h = some o) : Bg L xs 110 0 [(0, .ref 9), (1, .int v1)] [] LY70 h ([.int o], LY70, h) := by
  obtain ⟨R, hR⟩ : ∃ R : List Value × Lay × Hp, R = ([.int o], LY70, h) := ⟨_, rfl⟩
  rw [← hR]
  refine seg_Bg (pc' := (if v1 = 170 then 42 else if v1 = 204 then 39 else if v1 = 240 then 36 else 45)) (lv' := [(0, .ref 9), (1, .int v1)]) (st' := []) (lay' := LY70) (h' := h) 2 rfl ?_
  refine pc_ite e (fun e => ?_) (fun e => ?_)
  · refine seg_Bg (pc' := 44) (lv' := [(0, .ref 9), (1, .int v1)]) (st' := [.int 99]) (lay' := LY70) (h' := h) 1 rfl ?_
    rw [hR, ← Option.some.inj e]; exact ret_Bg rfl
  · refine pc_ite e (fun e => ?_) (fun e => ?_)
    · refine seg_Bg (pc' := 41) (lv' := [(0, .ref 9), (1, .int v1)]) (st' := [.int 98]) (lay' := LY70) (h' := h) 1 rfl ?_
      rw [hR, ← Option.some.inj e]; exact ret_Bg rfl
    · refine pc_ite e (fun e => ?_) (fun e => ?_)
      · refine seg_Bg (pc' := 38) (lv' := [(0, .ref 9), (1, .int v1)]) (st' := [.int 97]) (lay' := LY70) (h' := h) 1 rfl ?_
        rw [hR, ← Option.some.inj e]; exact ret_Bg rfl
      · refine seg_Bg (pc' := 50) (lv' := [(0, .ref 9), (1, .int v1)]) (st' := [.int v1, .ref 10]) (lay' := LY70) (h' := h) 3 rfl ?_
        refine call_Bg (a := 34) (la := [(0, .ref 10), (1, .int v1)]) (np := 53) (lv' := [(0, .ref 9), (1, .int v1)]) (rest := []) (res := fun r => ([.int r], LY70, h)) rfl e (fun r e => BJcs_topOf L xs v1 h r e) (fun c1 e => ?_)
        show Bg L xs 110 53 [(0, .ref 9), (1, .int v1)] [.int c1] LY70 h R
        refine seg_Bg (pc' := (if c1 = (-1) then 57 else 61)) (lv' := [(0, .ref 9), (1, .int v1)]) (st' := []) (lay' := LY70) (h' := h) 2 rfl ?_
        refine pc_ite e (fun e => ?_) (fun e => ?_)
        · refine seg_Bg (pc' := 72) (lv' := [(0, .ref 9), (1, .int v1)]) (st' := [.int (-1)]) (lay' := LY70) (h' := h) 2 rfl ?_
          rw [hR, ← Option.some.inj e]; exact ret_Bg rfl
        · refine seg_Bg (pc' := 68) (lv' := [(0, .ref 9), (1, .int v1)]) (st' := [.int v1, .ref 10, .int 65]) (lay' := LY70) (h' := h) 4 rfl ?_
          refine call_Bg (a := 34) (la := [(0, .ref 10), (1, .int v1)]) (np := 71) (lv' := [(0, .ref 9), (1, .int v1)]) (rest := [.int 65]) (res := fun r => ([.int r], LY70, h)) rfl e (fun r e => BJcs_topOf L xs v1 h r e) (fun c2 e => ?_)
          show Bg L xs 110 71 [(0, .ref 9), (1, .int v1)] [.int c2, .int 65] LY70 h R
          refine seg_Bg (pc' := 72) (lv' := [(0, .ref 9), (1, .int v1)]) (st' := [.int ((65 : Int32) + c2)]) (lay' := LY70) (h' := h) 1 rfl ?_
          rw [hR, ← Option.some.inj e]; exact ret_Bg rfl

set_option maxRecDepth 100000 in
theorem BJwy_letterOf_L27_s (L : Nat) (xs : Nat → Int32) (v1 v2 v3 v5 : Int32) (h : Hp) (R : List Value × Lay × Hp) (v4 v6 : Int32) (o : ((Int32 × Int32) ⊕ (Int32 × Int32))) (hH : ∀ s : Int32 × Int32, o = .inl s → Bg L xs 109 27 [(0, .ref 9), (1, .int v1), (2, .int v2), (3, .int v3), (4, .int s.1), (5, .int v5), (6, .int s.2)] [] LY70 h R) (hE : ∀ t : Int32 × Int32, o = .inr t → Bg L xs 109 63 [(0, .ref 9), (1, .int v1), (2, .int v2), (3, .int v3), (4, .int t.1), (5, .int v5), (6, .int t.2)] [] LY70 h R) (e : Jwy_letterOf_L27 v1 v2 v3 v5 h v4 v6 = some o) : Bg L xs 109 27 [(0, .ref 9), (1, .int v1), (2, .int v2), (3, .int v3), (4, .int v4), (5, .int v5), (6, .int v6)] [] LY70 h R := by
  refine seg_Bg (pc' := (if v6 < 2 then 33 else 63)) (lv' := [(0, .ref 9), (1, .int v1), (2, .int v2), (3, .int v3), (4, .int v4), (5, .int v5), (6, .int v6)]) (st' := []) (lay' := LY70) (h' := h) 3 rfl ?_
  refine pc_ite e (fun e => ?_) (fun e => ?_)
  · refine seg_Bg (pc' := 39) (lv' := [(0, .ref 9), (1, .int v1), (2, .int v2), (3, .int v3), (4, .int v4), (5, .int v5), (6, .int v6)]) (st' := [.int v6, .int v3, .ref 9, .int v4]) (lay' := LY70) (h' := h) 4 rfl ?_
    refine call_Bg (a := 108) (la := [(0, .ref 9), (1, .int v3), (2, .int v6)]) (np := 42) (lv' := [(0, .ref 9), (1, .int v1), (2, .int v2), (3, .int v3), (4, .int v4), (5, .int v5), (6, .int v6)]) (rest := [.int v4]) (res := fun r => ([.int r], LY70, h)) rfl e (fun r e => BJwy_partLength L xs v3 v6 h r e) (fun c1 e => ?_)
    show Bg L xs 109 42 [(0, .ref 9), (1, .int v1), (2, .int v2), (3, .int v3), (4, .int v4), (5, .int v5), (6, .int v6)] [.int c1, .int v4] LY70 h R
    refine seg_Bg (pc' := (if v4 < c1 then 63 else 45)) (lv' := [(0, .ref 9), (1, .int v1), (2, .int v2), (3, .int v3), (4, .int v4), (5, .int v5), (6, .int v6)]) (st' := []) (lay' := LY70) (h' := h) 1 rfl ?_
    refine pc_ite e (fun e => ?_) (fun e => ?_)
    · exact hE (v4, v6) (Option.some.inj e).symm
    · refine seg_Bg (pc' := 51) (lv' := [(0, .ref 9), (1, .int v1), (2, .int v2), (3, .int v3), (4, .int v4), (5, .int v5), (6, .int v6)]) (st' := [.int v6, .int v3, .ref 9, .int v4]) (lay' := LY70) (h' := h) 4 rfl ?_
      refine call_Bg (a := 108) (la := [(0, .ref 9), (1, .int v3), (2, .int v6)]) (np := 54) (lv' := [(0, .ref 9), (1, .int v1), (2, .int v2), (3, .int v3), (4, .int v4), (5, .int v5), (6, .int v6)]) (rest := [.int v4]) (res := fun r => ([.int r], LY70, h)) rfl e (fun r e => BJwy_partLength L xs v3 v6 h r e) (fun c2 e => ?_)
      show Bg L xs 109 54 [(0, .ref 9), (1, .int v1), (2, .int v2), (3, .int v3), (4, .int v4), (5, .int v5), (6, .int v6)] [.int c2, .int v4] LY70 h R
      refine seg_Bg (pc' := 27) (lv' := [(0, .ref 9), (1, .int v1), (2, .int v2), (3, .int v3), (4, .int (v4 - c2)), (5, .int v5), (6, .int (v6 + 1))]) (st' := []) (lay' := LY70) (h' := h) 4 rfl ?_
      exact hH (v4 - c2, v6 + 1) (Option.some.inj e).symm
  · exact hE (v4, v6) (Option.some.inj e).symm
theorem BJwy_letterOf_L27 (L : Nat) (xs : Nat → Int32) (v1 v2 v3 v5 : Int32) (h : Hp) (R : List Value × Lay × Hp) (C : (Int32 × Int32) → Prop) (hE : ∀ t : Int32 × Int32, C t → Bg L xs 109 63 [(0, .ref 9), (1, .int v1), (2, .int v2), (3, .int v3), (4, .int t.1), (5, .int v5), (6, .int t.2)] [] LY70 h R) (n : Nat) (s : Int32 × Int32) (o : (Int32 × Int32)) (e : loopN n (fun s => Jwy_letterOf_L27 v1 v2 v3 v5 h s.1 s.2) s = some o) (hC : C o) : Bg L xs 109 27 [(0, .ref 9), (1, .int v1), (2, .int v2), (3, .int v3), (4, .int s.1), (5, .int v5), (6, .int s.2)] [] LY70 h R := by
  refine loop_B (fun s => Jwy_letterOf_L27 v1 v2 v3 v5 h s.1 s.2) (fun s : Int32 × Int32 => Bg L xs 109 27 [(0, .ref 9), (1, .int v1), (2, .int v2), (3, .int v3), (4, .int s.1), (5, .int v5), (6, .int s.2)] [] LY70 h R) C (fun s o e => ?_) n s o e hC
  intro hK
  refine BJwy_letterOf_L27_s L xs v1 v2 v3 v5 h R s.1 s.2 o (fun s q => by subst q; exact hK) (fun t q => by subst q; exact hE t hK) e
set_option maxRecDepth 100000 in
theorem BJwy_letterOf_L8_s (L : Nat) (xs : Nat → Int32) (v1 v2 : Int32) (h : Hp) (R : List Value × Lay × Hp) (v3 v4 v5 : Int32) (o : ((Int32 × Int32 × Int32) ⊕ (Int32 × Int32 × Int32))) (hH : ∀ s : Int32 × Int32 × Int32, o = .inl s → Bg L xs 109 8 [(0, .ref 9), (1, .int v1), (2, .int v2), (3, .int s.1), (4, .int s.2.1), (5, .int s.2.2)] [] LY70 h R) (hE : ∀ t : Int32 × Int32 × Int32, o = .inr t → Bg L xs 109 77 [(0, .ref 9), (1, .int v1), (2, .int v2), (3, .int t.1), (4, .int t.2.1), (5, .int t.2.2)] [] LY70 h R) (e : Jwy_letterOf_L8 v1 v2 h v3 v4 v5 = some o) : Bg L xs 109 8 [(0, .ref 9), (1, .int v1), (2, .int v2), (3, .int v3), (4, .int v4), (5, .int v5)] [] LY70 h R := by
  refine seg_Bg (pc' := (if v5 < 256 then 16 else 77)) (lv' := [(0, .ref 9), (1, .int v1), (2, .int v2), (3, .int v3), (4, .int v4), (5, .int v5)]) (st' := []) (lay' := LY70) (h' := h) 3 rfl ?_
  refine pc_ite e (fun e => ?_) (fun e => ?_)
  · refine seg_Bg (pc' := (if 0 < v4 then 21 else 77)) (lv' := [(0, .ref 9), (1, .int v1), (2, .int v2), (3, .int v3), (4, .int v4), (5, .int v5)]) (st' := []) (lay' := LY70) (h' := h) 2 rfl ?_
    refine pc_ite e (fun e => ?_) (fun e => ?_)
    · refine seg_Bg (pc' := 27) (lv' := [(0, .ref 9), (1, .int v1), (2, .int v2), (3, .int v3), (4, .int (v4 + (-1))), (5, .int v5), (6, .int 0)]) (st' := []) (lay' := LY70) (h' := h) 3 rfl ?_
      obtain ⟨t3o, et3o, e⟩ := bd_s e
      refine BJwy_letterOf_L27 L xs v1 v2 v3 v5 h R (fun (t3 : Int32 × Int32) => (bd (Jwy_knownPart v3 t3.2 h) fun c4 => some (.inl (c4, t3.1, v5 + 1))) = some o) (fun t3 e => ?_) 1000000 (v4 + (-1), 0) _ et3o e
      refine seg_Bg (pc' := 67) (lv' := [(0, .ref 9), (1, .int v1), (2, .int v2), (3, .int v3), (4, .int t3.1), (5, .int v5), (6, .int t3.2)]) (st' := [.int t3.2, .int v3, .ref 9]) (lay' := LY70) (h' := h) 3 rfl ?_
      refine call_Bg (a := 99) (la := [(0, .ref 9), (1, .int v3), (2, .int t3.2)]) (np := 70) (lv' := [(0, .ref 9), (1, .int v1), (2, .int v2), (3, .int v3), (4, .int t3.1), (5, .int v5), (6, .int t3.2)]) (rest := []) (res := fun r => ([.int r], LY70, h)) rfl e (fun r e => BJwy_knownPart L xs v3 t3.2 h r e) (fun c4 e => ?_)
      show Bg L xs 109 70 [(0, .ref 9), (1, .int v1), (2, .int v2), (3, .int v3), (4, .int t3.1), (5, .int v5), (6, .int t3.2)] [.int c4] LY70 h R
      refine seg_Bg (pc' := 8) (lv' := [(0, .ref 9), (1, .int v1), (2, .int v2), (3, .int c4), (4, .int t3.1), (5, .int (v5 + 1)), (6, .int t3.2)]) (st' := []) (lay' := LY70) (h' := h) 3 rfl ?_
      refine kp_Bg (lv' := [(0, .ref 9), (1, .int v1), (2, .int v2), (3, .int c4), (4, .int t3.1), (5, .int (v5 + 1))]) rfl rfl ?_
      exact hH (c4, t3.1, v5 + 1) (Option.some.inj e).symm
    · exact hE (v3, v4, v5) (Option.some.inj e).symm
  · exact hE (v3, v4, v5) (Option.some.inj e).symm
theorem BJwy_letterOf_L8 (L : Nat) (xs : Nat → Int32) (v1 v2 : Int32) (h : Hp) (R : List Value × Lay × Hp) (C : (Int32 × Int32 × Int32) → Prop) (hE : ∀ t : Int32 × Int32 × Int32, C t → Bg L xs 109 77 [(0, .ref 9), (1, .int v1), (2, .int v2), (3, .int t.1), (4, .int t.2.1), (5, .int t.2.2)] [] LY70 h R) (n : Nat) (s : Int32 × Int32 × Int32) (o : (Int32 × Int32 × Int32)) (e : loopN n (fun s => Jwy_letterOf_L8 v1 v2 h s.1 s.2.1 s.2.2) s = some o) (hC : C o) : Bg L xs 109 8 [(0, .ref 9), (1, .int v1), (2, .int v2), (3, .int s.1), (4, .int s.2.1), (5, .int s.2.2)] [] LY70 h R := by
  refine loop_B (fun s => Jwy_letterOf_L8 v1 v2 h s.1 s.2.1 s.2.2) (fun s : Int32 × Int32 × Int32 => Bg L xs 109 8 [(0, .ref 9), (1, .int v1), (2, .int v2), (3, .int s.1), (4, .int s.2.1), (5, .int s.2.2)] [] LY70 h R) C (fun s o e => ?_) n s o e hC
  intro hK
  refine BJwy_letterOf_L8_s L xs v1 v2 h R s.1 s.2.1 s.2.2 o (fun s q => by subst q; exact hK) (fun t q => by subst q; exact hE t hK) e
set_option maxRecDepth 100000 in
theorem BJwy_letterOf (L : Nat) (xs : Nat → Int32) (v1 : Int32) (v2 : Int32) (h : Hp) (o : Int32) (e : Jwy_letterOf v1 v2 h = some o) : Bg L xs 109 0 [(0, .ref 9), (1, .int v1), (2, .int v2)] [] LY70 h ([.int o], LY70, h) := by
  obtain ⟨R, hR⟩ : ∃ R : List Value × Lay × Hp, R = ([.int o], LY70, h) := ⟨_, rfl⟩
  rw [← hR]
  refine seg_Bg (pc' := 8) (lv' := [(0, .ref 9), (1, .int v1), (2, .int v2), (3, .int v1), (4, .int v2), (5, .int 0)]) (st' := []) (lay' := LY70) (h' := h) 6 rfl ?_
  obtain ⟨t5o, et5o, e⟩ := bd_s e
  refine BJwy_letterOf_L8 L xs v1 v2 h R (fun (t5 : Int32 × Int32 × Int32) => (bd (Jwy_firstLetterOf t5.1 h) fun c6 => some c6) = some o) (fun t5 e => ?_) 1000000 (v1, v2, 0) _ et5o e
  refine seg_Bg (pc' := 79) (lv' := [(0, .ref 9), (1, .int v1), (2, .int v2), (3, .int t5.1), (4, .int t5.2.1), (5, .int t5.2.2)]) (st' := [.int t5.1, .ref 9]) (lay' := LY70) (h' := h) 2 rfl ?_
  refine call_Bg (a := 110) (la := [(0, .ref 9), (1, .int t5.1)]) (np := 82) (lv' := [(0, .ref 9), (1, .int v1), (2, .int v2), (3, .int t5.1), (4, .int t5.2.1), (5, .int t5.2.2)]) (rest := []) (res := fun r => ([.int r], LY70, h)) rfl e (fun r e => BJwy_firstLetterOf L xs t5.1 h r e) (fun c6 e => ?_)
  show Bg L xs 109 82 [(0, .ref 9), (1, .int v1), (2, .int v2), (3, .int t5.1), (4, .int t5.2.1), (5, .int t5.2.2)] [.int c6] LY70 h R
  rw [hR, ← Option.some.inj e]; exact ret_Bg rfl

set_option maxRecDepth 100000 in
theorem BJyn_spell (L : Nat) (xs : Nat → Int32) (v1 : Int32) (v2 : Int32) (h : Hp) (o : Int32 × Hp) (e : Jyn_spell v1 v2 h = some o) : Bg L xs 117 0 [(0, .ref 0), (1, .int v1), (2, .int v2)] [] LY70 h ([.int o.1], LY70, o.2) := by
  obtain ⟨R, hR⟩ : ∃ R : List Value × Lay × Hp, R = ([.int o.1], LY70, o.2) := ⟨_, rfl⟩
  rw [← hR]
  refine seg_Bg (pc' := 1) (lv' := [(0, .ref 0), (1, .int v1), (2, .int v2)]) (st' := [.int v1]) (lay' := LY70) (h' := h) 1 rfl ?_
  refine call_Bg (a := 122) (la := [(0, .int v1)]) (np := 4) (lv' := [(0, .ref 0), (1, .int v1), (2, .int v2)]) (rest := []) (res := fun r => ([.int r], LY70, h)) rfl e (fun r e => BJyn_isCode L xs v1 LY70 h r e) (fun c1 e => ?_)
  show Bg L xs 117 4 [(0, .ref 0), (1, .int v1), (2, .int v2)] [.int c1] LY70 h R
  refine seg_Bg (pc' := (if c1 = 0 then 11 else 7)) (lv' := [(0, .ref 0), (1, .int v1), (2, .int v2)]) (st' := []) (lay' := LY70) (h' := h) 1 rfl ?_
  refine pc_ite e (fun e => ?_) (fun e => ?_)
  · refine seg_Bg (pc' := 13) (lv' := [(0, .ref 0), (1, .int v1), (2, .int v2)]) (st' := [.int (-1000000002)]) (lay' := LY70) (h' := h) 1 rfl ?_
    rw [hR, ← Option.some.inj e]; exact ret_Bg rfl
  · refine seg_Bg (pc' := (if v2 < 0 then 11 else 14)) (lv' := [(0, .ref 0), (1, .int v1), (2, .int v2)]) (st' := []) (lay' := LY70) (h' := h) 2 rfl ?_
    refine pc_ite e (fun e => ?_) (fun e => ?_)
    · refine seg_Bg (pc' := 13) (lv' := [(0, .ref 0), (1, .int v1), (2, .int v2)]) (st' := [.int (-1000000002)]) (lay' := LY70) (h' := h) 1 rfl ?_
      rw [hR, ← Option.some.inj e]; exact ret_Bg rfl
    · refine seg_Bg (pc' := 15) (lv' := [(0, .ref 0), (1, .int v1), (2, .int v2)]) (st' := [.ref 0]) (lay' := LY70) (h' := h) 1 rfl ?_
      refine call_Bg (a := 126) (la := [(0, .ref 0)]) (np := 18) (lv' := [(0, .ref 0), (1, .int v1), (2, .int v2)]) (rest := []) (res := fun r => ([.ref 10], LY70, r)) rfl e (fun r e => BJyn_reckoned L xs h r e) (fun c2 e => ?_)
      show Bg L xs 117 18 [(0, .ref 0), (1, .int v1), (2, .int v2)] [.ref 10] LY70 c2 R
      refine seg_Bg (pc' := 25) (lv' := [(0, .ref 0), (1, .int v1), (2, .int v2)]) (st' := [.int v1, .ref 9, .int v2]) (lay' := LY70) (h' := c2) 5 rfl ?_
      refine call_Bg (a := 105) (la := [(0, .ref 9), (1, .int v1)]) (np := 28) (lv' := [(0, .ref 0), (1, .int v1), (2, .int v2)]) (rest := [.int v2]) (res := fun r => ([.int r.1], LY70, r.2)) rfl e (fun r e => BJwy_lengthOf L xs v1 c2 r e) (fun c3 e => ?_)
      show Bg L xs 117 28 [(0, .ref 0), (1, .int v1), (2, .int v2)] [.int c3.1, .int v2] LY70 c3.2 R
      refine seg_Bg (pc' := (if v2 < c3.1 then 31 else 43)) (lv' := [(0, .ref 0), (1, .int v1), (2, .int v2)]) (st' := []) (lay' := LY70) (h' := c3.2) 1 rfl ?_
      refine pc_ite e (fun e => ?_) (fun e => ?_)
      · refine seg_Bg (pc' := 37) (lv' := [(0, .ref 0), (1, .int v1), (2, .int v2)]) (st' := [.int v2, .int v1, .ref 9]) (lay' := LY70) (h' := c3.2) 4 rfl ?_
        refine call_Bg (a := 109) (la := [(0, .ref 9), (1, .int v1), (2, .int v2)]) (np := 40) (lv' := [(0, .ref 0), (1, .int v1), (2, .int v2)]) (rest := []) (res := fun r => ([.int r], LY70, c3.2)) rfl e (fun r e => BJwy_letterOf L xs v1 v2 c3.2 r e) (fun c4 e => ?_)
        show Bg L xs 117 40 [(0, .ref 0), (1, .int v1), (2, .int v2)] [.int c4] LY70 c3.2 R
        refine seg_Bg (pc' := 44) (lv' := [(0, .ref 0), (1, .int v1), (2, .int v2)]) (st' := [.int c4]) (lay' := LY70) (h' := c3.2) 1 rfl ?_
        rw [hR, ← Option.some.inj e]; exact ret_Bg rfl
      · refine seg_Bg (pc' := 44) (lv' := [(0, .ref 0), (1, .int v1), (2, .int v2)]) (st' := [.int (-1)]) (lay' := LY70) (h' := c3.2) 1 rfl ?_
        rw [hR, ← Option.some.inj e]; exact ret_Bg rfl

