/-! Runs of the small machine are the functions of the methods. (Written by wip/whole/gen3.py.) -/
set_option maxRecDepth 100000 in
theorem BJm_put (L : Nat) (xs : Nat → Int32) (v1 : Int32) (v2 : Int32) (v3 : Int32) (v4 : Int32) (h : Hp) (o : Int32 × Hp) (e : Jm_put v1 v2 v3 v4 h = some o) : Bg L xs 240 0 [(0, .ref 37), (1, .int v1), (2, .int v2), (3, .int v3), (4, .int v4)] [] LY88 h ([.int o.1], LY88, o.2) := by
  obtain ⟨R, hR⟩ : ∃ R : List Value × Lay × Hp, R = ([.int o.1], LY88, o.2) := ⟨_, rfl⟩
  rw [← hR]
  refine seg_Bg (pc' := 2) (lv' := [(0, .ref 37), (1, .int v1), (2, .int v2), (3, .int v3), (4, .int v4)]) (st' := [.int v1, .ref 37]) (lay' := LY88) (h' := h) 2 rfl ?_
  refine call_Bg (a := 223) (la := [(0, .ref 37), (1, .int v1)]) (np := 5) (lv' := [(0, .ref 37), (1, .int v1), (2, .int v2), (3, .int v3), (4, .int v4)]) (rest := []) (res := fun r => ([.int r], LY88, h)) rfl e (fun r e => BJm_isFunction L xs v1 h r e) (fun c1 e => ?_)
  show Bg L xs 240 5 [(0, .ref 37), (1, .int v1), (2, .int v2), (3, .int v3), (4, .int v4)] [.int c1] LY88 h R
  refine seg_Bg (pc' := (if c1 = 0 then 33 else 8)) (lv' := [(0, .ref 37), (1, .int v1), (2, .int v2), (3, .int v3), (4, .int v4)]) (st' := []) (lay' := LY88) (h' := h) 1 rfl ?_
  refine pc_ite e (fun e => ?_) (fun e => ?_)
  · refine seg_Bg (pc' := 36) (lv' := [(0, .ref 37), (1, .int v1), (2, .int v2), (3, .int v3), (4, .int v4)]) (st' := [.int (-1000000001)]) (lay' := LY88) (h' := h) 1 rfl ?_
    rw [hR, ← Option.some.inj e]; exact ret_Bg rfl
  · refine seg_Bg (pc' := 10) (lv' := [(0, .ref 37), (1, .int v1), (2, .int v2), (3, .int v3), (4, .int v4)]) (st' := [.int v2, .ref 37]) (lay' := LY88) (h' := h) 2 rfl ?_
    refine call_Bg (a := 223) (la := [(0, .ref 37), (1, .int v2)]) (np := 13) (lv' := [(0, .ref 37), (1, .int v1), (2, .int v2), (3, .int v3), (4, .int v4)]) (rest := []) (res := fun r => ([.int r], LY88, h)) rfl e (fun r e => BJm_isFunction L xs v2 h r e) (fun c2 e => ?_)
    show Bg L xs 240 13 [(0, .ref 37), (1, .int v1), (2, .int v2), (3, .int v3), (4, .int v4)] [.int c2] LY88 h R
    refine seg_Bg (pc' := (if c2 = 0 then 33 else 16)) (lv' := [(0, .ref 37), (1, .int v1), (2, .int v2), (3, .int v3), (4, .int v4)]) (st' := []) (lay' := LY88) (h' := h) 1 rfl ?_
    refine pc_ite e (fun e => ?_) (fun e => ?_)
    · refine seg_Bg (pc' := 36) (lv' := [(0, .ref 37), (1, .int v1), (2, .int v2), (3, .int v3), (4, .int v4)]) (st' := [.int (-1000000001)]) (lay' := LY88) (h' := h) 1 rfl ?_
      rw [hR, ← Option.some.inj e]; exact ret_Bg rfl
    · refine seg_Bg (pc' := 18) (lv' := [(0, .ref 37), (1, .int v1), (2, .int v2), (3, .int v3), (4, .int v4)]) (st' := [.int v3, .ref 37]) (lay' := LY88) (h' := h) 2 rfl ?_
      refine call_Bg (a := 223) (la := [(0, .ref 37), (1, .int v3)]) (np := 21) (lv' := [(0, .ref 37), (1, .int v1), (2, .int v2), (3, .int v3), (4, .int v4)]) (rest := []) (res := fun r => ([.int r], LY88, h)) rfl e (fun r e => BJm_isFunction L xs v3 h r e) (fun c3 e => ?_)
      show Bg L xs 240 21 [(0, .ref 37), (1, .int v1), (2, .int v2), (3, .int v3), (4, .int v4)] [.int c3] LY88 h R
      refine seg_Bg (pc' := (if c3 = 0 then 33 else 24)) (lv' := [(0, .ref 37), (1, .int v1), (2, .int v2), (3, .int v3), (4, .int v4)]) (st' := []) (lay' := LY88) (h' := h) 1 rfl ?_
      refine pc_ite e (fun e => ?_) (fun e => ?_)
      · refine seg_Bg (pc' := 36) (lv' := [(0, .ref 37), (1, .int v1), (2, .int v2), (3, .int v3), (4, .int v4)]) (st' := [.int (-1000000001)]) (lay' := LY88) (h' := h) 1 rfl ?_
        rw [hR, ← Option.some.inj e]; exact ret_Bg rfl
      · refine seg_Bg (pc' := 27) (lv' := [(0, .ref 37), (1, .int v1), (2, .int v2), (3, .int v3), (4, .int v4)]) (st' := [.int v4, .ref 37]) (lay' := LY88) (h' := h) 2 rfl ?_
        refine call_Bg (a := 223) (la := [(0, .ref 37), (1, .int v4)]) (np := 30) (lv' := [(0, .ref 37), (1, .int v1), (2, .int v2), (3, .int v3), (4, .int v4)]) (rest := []) (res := fun r => ([.int r], LY88, h)) rfl e (fun r e => BJm_isFunction L xs v4 h r e) (fun c4 e => ?_)
        show Bg L xs 240 30 [(0, .ref 37), (1, .int v1), (2, .int v2), (3, .int v3), (4, .int v4)] [.int c4] LY88 h R
        refine seg_Bg (pc' := (if c4 = 0 then 33 else 37)) (lv' := [(0, .ref 37), (1, .int v1), (2, .int v2), (3, .int v3), (4, .int v4)]) (st' := []) (lay' := LY88) (h' := h) 1 rfl ?_
        refine pc_ite e (fun e => ?_) (fun e => ?_)
        · refine seg_Bg (pc' := 36) (lv' := [(0, .ref 37), (1, .int v1), (2, .int v2), (3, .int v3), (4, .int v4)]) (st' := [.int (-1000000001)]) (lay' := LY88) (h' := h) 1 rfl ?_
          rw [hR, ← Option.some.inj e]; exact ret_Bg rfl
        · refine seg_Bg (pc' := (if (h 38 0) = 6 then 48 else 53)) (lv' := [(0, .ref 37), (1, .int v1), (2, .int v2), (3, .int v3), (4, .int v4)]) (st' := []) (lay' := LY88) (h' := h) 6 rfl ?_
          refine pc_ite e (fun e => ?_) (fun e => ?_)
          · refine seg_Bg (pc' := 93) (lv' := [(0, .ref 37), (1, .int v1), (2, .int v2), (3, .int v3), (4, .int v4)]) (st' := [.int (-1000000004)]) (lay' := LY88) (h' := h) 2 rfl ?_
            rw [hR, ← Option.some.inj e]; exact ret_Bg rfl
          · refine seg_Bg (pc' := 61) (lv' := [(0, .ref 37), (1, .int v1), (2, .int v2), (3, .int v3), (4, .int v4)]) (st' := [.int ((1 : Int32) + v1), .ref 38, .ref 37]) (lay' := LY88) (h' := h) 6 rfl ?_
            refine gd_Bg (pc' := 62) (lv' := [(0, .ref 37), (1, .int v1), (2, .int v2), (3, .int v3), (4, .int v4)]) (st' := [.int (h 38 (Int32.toNatClampNeg ((1 : Int32) + v1))), .ref 37]) (lay' := LY88) (h' := h) (g := ibB ((1 : Int32) + v1) 152) rfl e fun e => ?_
            refine seg_Bg (pc' := 69) (lv' := [(0, .ref 37), (1, .int v1), (2, .int v2), (3, .int v3), (4, .int v4)]) (st' := [.int ((1 : Int32) + v2), .ref 38, .int (h 38 (Int32.toNatClampNeg ((1 : Int32) + v1))), .ref 37]) (lay' := LY88) (h' := h) 5 rfl ?_
            refine gd_Bg (pc' := 70) (lv' := [(0, .ref 37), (1, .int v1), (2, .int v2), (3, .int v3), (4, .int v4)]) (st' := [.int (h 38 (Int32.toNatClampNeg ((1 : Int32) + v2))), .int (h 38 (Int32.toNatClampNeg ((1 : Int32) + v1))), .ref 37]) (lay' := LY88) (h' := h) (g := ibB ((1 : Int32) + v2) 152) rfl e fun e => ?_
            refine seg_Bg (pc' := 77) (lv' := [(0, .ref 37), (1, .int v1), (2, .int v2), (3, .int v3), (4, .int v4)]) (st' := [.int ((1 : Int32) + v3), .ref 38, .int (h 38 (Int32.toNatClampNeg ((1 : Int32) + v2))), .int (h 38 (Int32.toNatClampNeg ((1 : Int32) + v1))), .ref 37]) (lay' := LY88) (h' := h) 5 rfl ?_
            refine gd_Bg (pc' := 78) (lv' := [(0, .ref 37), (1, .int v1), (2, .int v2), (3, .int v3), (4, .int v4)]) (st' := [.int (h 38 (Int32.toNatClampNeg ((1 : Int32) + v3))), .int (h 38 (Int32.toNatClampNeg ((1 : Int32) + v2))), .int (h 38 (Int32.toNatClampNeg ((1 : Int32) + v1))), .ref 37]) (lay' := LY88) (h' := h) (g := ibB ((1 : Int32) + v3) 152) rfl e fun e => ?_
            refine seg_Bg (pc' := 86) (lv' := [(0, .ref 37), (1, .int v1), (2, .int v2), (3, .int v3), (4, .int v4)]) (st' := [.int ((1 : Int32) + v4), .ref 38, .int (h 38 (Int32.toNatClampNeg ((1 : Int32) + v3))), .int (h 38 (Int32.toNatClampNeg ((1 : Int32) + v2))), .int (h 38 (Int32.toNatClampNeg ((1 : Int32) + v1))), .ref 37]) (lay' := LY88) (h' := h) 5 rfl ?_
            refine gd_Bg (pc' := 87) (lv' := [(0, .ref 37), (1, .int v1), (2, .int v2), (3, .int v3), (4, .int v4)]) (st' := [.int (h 38 (Int32.toNatClampNeg ((1 : Int32) + v4))), .int (h 38 (Int32.toNatClampNeg ((1 : Int32) + v3))), .int (h 38 (Int32.toNatClampNeg ((1 : Int32) + v2))), .int (h 38 (Int32.toNatClampNeg ((1 : Int32) + v1))), .ref 37]) (lay' := LY88) (h' := h) (g := ibB ((1 : Int32) + v4) 152) rfl e fun e => ?_
            refine call_Bg (a := 177) (la := [(0, .int (h 38 (Int32.toNatClampNeg ((1 : Int32) + v1)))), (1, .int (h 38 (Int32.toNatClampNeg ((1 : Int32) + v2)))), (2, .int (h 38 (Int32.toNatClampNeg ((1 : Int32) + v3)))), (3, .int (h 38 (Int32.toNatClampNeg ((1 : Int32) + v4))))]) (np := 90) (lv' := [(0, .ref 37), (1, .int v1), (2, .int v2), (3, .int v3), (4, .int v4)]) (rest := [.ref 37]) (res := fun r => ([.int r], LY88, h)) rfl e (fun r e => BJm_putOn L xs (h 38 (Int32.toNatClampNeg ((1 : Int32) + v1))) (h 38 (Int32.toNatClampNeg ((1 : Int32) + v2))) (h 38 (Int32.toNatClampNeg ((1 : Int32) + v3))) (h 38 (Int32.toNatClampNeg ((1 : Int32) + v4))) LY88 h r e) (fun c5 e => ?_)
            show Bg L xs 240 90 [(0, .ref 37), (1, .int v1), (2, .int v2), (3, .int v3), (4, .int v4)] [.int c5, .ref 37] LY88 h R
            refine call_Bg (a := 217) (la := [(0, .ref 37), (1, .int c5)]) (np := 93) (lv' := [(0, .ref 37), (1, .int v1), (2, .int v2), (3, .int v3), (4, .int v4)]) (rest := []) (res := fun r => ([.int r.1], LY88, r.2)) rfl e (fun r e => BJm_add L xs c5 h r e) (fun c6 e => ?_)
            show Bg L xs 240 93 [(0, .ref 37), (1, .int v1), (2, .int v2), (3, .int v3), (4, .int v4)] [.int c6.1] LY88 c6.2 R
            rw [hR, ← Option.some.inj e]; exact ret_Bg rfl

set_option maxRecDepth 100000 in
theorem BJsh_change (L : Nat) (xs : Nat → Int32) (v1 : Int32) (v2 : Int32) (h : Hp) (o : Hp) (e : Jsh_change v1 v2 h = some o) : Bg L xs 99 0 [(0, .ref 29), (1, .int v1), (2, .int v2)] [] LY88 h ([], LY88, o) := by
  obtain ⟨R, hR⟩ : ∃ R : List Value × Lay × Hp, R = ([], LY88, o) := ⟨_, rfl⟩
  rw [← hR]
  refine seg_Bg (pc' := 2) (lv' := [(0, .ref 29), (1, .int v1), (2, .int v2)]) (st' := [.int v1, .ref 29]) (lay' := LY88) (h' := h) 2 rfl ?_
  refine call_Bg (a := 94) (la := [(0, .ref 29), (1, .int v1)]) (np := 5) (lv' := [(0, .ref 29), (1, .int v1), (2, .int v2)]) (rest := []) (res := fun r => ([.int r], LY88, h)) rfl e (fun r e => BJsh_holds L xs v1 h r e) (fun c1 e => ?_)
  show Bg L xs 99 5 [(0, .ref 29), (1, .int v1), (2, .int v2)] [.int c1] LY88 h R
  refine seg_Bg (pc' := (if c1 = 0 then 15 else 8)) (lv' := [(0, .ref 29), (1, .int v1), (2, .int v2)]) (st' := []) (lay' := LY88) (h' := h) 1 rfl ?_
  refine pc_ite e (fun e => ?_) (fun e => ?_)
  · rw [hR, ← Option.some.inj e]; exact ret_Bg rfl
  · refine seg_Bg (pc' := 14) (lv' := [(0, .ref 29), (1, .int v1), (2, .int v2)]) (st' := [.int v2, .int v1, .ref 30]) (lay' := LY88) (h' := h) 4 rfl ?_
    refine gp_Bg (pc' := 15) (lv' := [(0, .ref 29), (1, .int v1), (2, .int v2)]) (st' := []) (lay' := LY88) (x := hset h 30 (Int32.toNatClampNeg v1) v2) (g := ibB v1 6) rfl e fun h2 e => ?_
    rw [hR, ← Option.some.inj e]; exact ret_Bg rfl

set_option maxRecDepth 100000 in
theorem BJyn_turn (L : Nat) (xs : Nat → Int32) (v1 : Int32) (h : Hp) (o : Int32 × Hp) (e : Jyn_turn v1 h = some o) : Bg L xs 148 0 [(0, .ref 0), (1, .int v1)] [] LY88 h ([.int o.1], LY88, o.2) := by
  obtain ⟨R, hR⟩ : ∃ R : List Value × Lay × Hp, R = ([.int o.1], LY88, o.2) := ⟨_, rfl⟩
  rw [← hR]
  refine seg_Bg (pc' := 5) (lv' := [(0, .ref 0), (1, .int v1)]) (st' := [.int v1, .ref 29]) (lay' := LY88) (h' := h) 3 rfl ?_
  refine call_Bg (a := 94) (la := [(0, .ref 29), (1, .int v1)]) (np := 8) (lv' := [(0, .ref 0), (1, .int v1)]) (rest := []) (res := fun r => ([.int r], LY88, h)) rfl e (fun r e => BJsh_holds L xs v1 h r e) (fun c1 e => ?_)
  show Bg L xs 148 8 [(0, .ref 0), (1, .int v1)] [.int c1] LY88 h R
  refine seg_Bg (pc' := (if c1 = 0 then 11 else 14)) (lv' := [(0, .ref 0), (1, .int v1)]) (st' := []) (lay' := LY88) (h' := h) 1 rfl ?_
  refine pc_ite e (fun e => ?_) (fun e => ?_)
  · refine seg_Bg (pc' := 13) (lv' := [(0, .ref 0), (1, .int v1)]) (st' := [.int (-1000000001)]) (lay' := LY88) (h' := h) 1 rfl ?_
    rw [hR, ← Option.some.inj e]; exact ret_Bg rfl
  · refine seg_Bg (pc' := 22) (lv' := [(0, .ref 0), (1, .int v1)]) (st' := [.ref 29, .ref 31]) (lay' := LY88) (h' := h) 4 rfl ?_
    refine call_Bg (a := 54) (la := [(0, .ref 31), (1, .ref 29)]) (np := 25) (lv' := [(0, .ref 0), (1, .int v1)]) (rest := []) (res := fun r => ([], LY88, r)) rfl e (fun r e => BJpa_push L xs h r e) (fun c2 e => ?_)
    show Bg L xs 148 25 [(0, .ref 0), (1, .int v1)] [] LY88 c2 R
    refine seg_Bg (pc' := 30) (lv' := [(0, .ref 0), (1, .int v1)]) (st' := [.int v1, .ref 29]) (lay' := LY88) (h' := c2) 3 rfl ?_
    refine call_Bg (a := 95) (la := [(0, .ref 29), (1, .int v1)]) (np := 33) (lv' := [(0, .ref 0), (1, .int v1)]) (rest := []) (res := fun r => ([.int r], LY88, c2)) rfl e (fun r e => BJsh_codeAt L xs v1 c2 r e) (fun c3 e => ?_)
    show Bg L xs 148 33 [(0, .ref 0), (1, .int v1)] [.int c3] LY88 c2 R
    refine call_Bg (a := 10) (la := [(0, .int c3)]) (np := 36) (lv' := [(0, .ref 0), (1, .int v1)]) (rest := []) (res := fun r => ([.int r], LY88, c2)) rfl e (fun r e => BJco_turnedOver L xs c3 LY88 c2 r e) (fun c4 e => ?_)
    show Bg L xs 148 36 [(0, .ref 0), (1, .int v1)] [.int c4] LY88 c2 R
    refine seg_Bg (pc' := 43) (lv' := [(0, .ref 0), (1, .int v1), (2, .int c4)]) (st' := [.int c4, .int v1, .ref 29]) (lay' := LY88) (h' := c2) 5 rfl ?_
    refine call_Bg (a := 99) (la := [(0, .ref 29), (1, .int v1), (2, .int c4)]) (np := 46) (lv' := [(0, .ref 0), (1, .int v1), (2, .int c4)]) (rest := []) (res := fun r => ([], LY88, r)) rfl e (fun r e => BJsh_change L xs v1 c4 c2 r e) (fun c5 e => ?_)
    show Bg L xs 148 46 [(0, .ref 0), (1, .int v1), (2, .int c4)] [] LY88 c5 R
    refine seg_Bg (pc' := 47) (lv' := [(0, .ref 0), (1, .int v1), (2, .int c4)]) (st' := [.int c4]) (lay' := LY88) (h' := c5) 1 rfl ?_
    rw [hR, ← Option.some.inj e]; exact ret_Bg rfl

set_option maxRecDepth 100000 in
theorem BJm_turn (L : Nat) (xs : Nat → Int32) (v1 : Int32) (h : Hp) (o : Int32 × Hp) (e : Jm_turn v1 h = some o) : Bg L xs 241 0 [(0, .ref 37), (1, .int v1)] [] LY88 h ([.int o.1], LY88, o.2) := by
  obtain ⟨R, hR⟩ : ∃ R : List Value × Lay × Hp, R = ([.int o.1], LY88, o.2) := ⟨_, rfl⟩
  rw [← hR]
  refine seg_Bg (pc' := 2) (lv' := [(0, .ref 37), (1, .int v1)]) (st' := [.int v1, .ref 37]) (lay' := LY88) (h' := h) 2 rfl ?_
  refine call_Bg (a := 223) (la := [(0, .ref 37), (1, .int v1)]) (np := 5) (lv' := [(0, .ref 37), (1, .int v1)]) (rest := []) (res := fun r => ([.int r], LY88, h)) rfl e (fun r e => BJm_isFunction L xs v1 h r e) (fun c1 e => ?_)
  show Bg L xs 241 5 [(0, .ref 37), (1, .int v1)] [.int c1] LY88 h R
  refine seg_Bg (pc' := (if c1 = 0 then 8 else 12)) (lv' := [(0, .ref 37), (1, .int v1)]) (st' := []) (lay' := LY88) (h' := h) 1 rfl ?_
  refine pc_ite e (fun e => ?_) (fun e => ?_)
  · refine seg_Bg (pc' := 11) (lv' := [(0, .ref 37), (1, .int v1)]) (st' := [.int (-1000000001)]) (lay' := LY88) (h' := h) 1 rfl ?_
    rw [hR, ← Option.some.inj e]; exact ret_Bg rfl
  · refine seg_Bg (pc' := 13) (lv' := [(0, .ref 37), (1, .int v1)]) (st' := [.ref 37]) (lay' := LY88) (h' := h) 1 rfl ?_
    refine call_Bg (a := 169) (la := [(0, .ref 37)]) (np := 16) (lv' := [(0, .ref 37), (1, .int v1)]) (rest := []) (res := fun r => ([], LY88, r)) rfl e (fun r e => BJm_remember L xs h r e) (fun c2 e => ?_)
    show Bg L xs 241 16 [(0, .ref 37), (1, .int v1)] [] LY88 c2 R
    refine seg_Bg (pc' := 30) (lv' := [(0, .ref 37), (1, .int v1)]) (st' := [.int ((1 : Int32) + v1), .ref 38, .int ((1 : Int32) + v1), .ref 38]) (lay' := LY88) (h' := c2) 10 rfl ?_
    refine gd_Bg (pc' := 31) (lv' := [(0, .ref 37), (1, .int v1)]) (st' := [.int (c2 38 (Int32.toNatClampNeg ((1 : Int32) + v1))), .int ((1 : Int32) + v1), .ref 38]) (lay' := LY88) (h' := c2) (g := ibB ((1 : Int32) + v1) 152) rfl e fun e => ?_
    refine call_Bg (a := 174) (la := [(0, .int (c2 38 (Int32.toNatClampNeg ((1 : Int32) + v1))))]) (np := 34) (lv' := [(0, .ref 37), (1, .int v1)]) (rest := [.int ((1 : Int32) + v1), .ref 38]) (res := fun r => ([.int r], LY88, c2)) rfl e (fun r e => BJm_turned L xs (c2 38 (Int32.toNatClampNeg ((1 : Int32) + v1))) LY88 c2 r e) (fun c3 e => ?_)
    show Bg L xs 241 34 [(0, .ref 37), (1, .int v1)] [.int c3, .int ((1 : Int32) + v1), .ref 38] LY88 c2 R
    refine gp_Bg (pc' := 35) (lv' := [(0, .ref 37), (1, .int v1)]) (st' := []) (lay' := LY88) (x := hset c2 38 (Int32.toNatClampNeg ((1 : Int32) + v1)) c3) (g := ibB ((1 : Int32) + v1) 152) rfl e fun h4 e => ?_
    refine seg_Bg (pc' := 42) (lv' := [(0, .ref 37), (1, .int v1)]) (st' := [.int ((1 : Int32) + v1), .ref 38]) (lay' := LY88) (h' := h4) 5 rfl ?_
    refine gd_Bg (pc' := 43) (lv' := [(0, .ref 37), (1, .int v1)]) (st' := [.int (h4 38 (Int32.toNatClampNeg ((1 : Int32) + v1)))]) (lay' := LY88) (h' := h4) (g := ibB ((1 : Int32) + v1) 152) rfl e fun e => ?_
    rw [hR, ← Option.some.inj e]; exact ret_Bg rfl

set_option maxRecDepth 100000 in
theorem BJsh_remove_L11_s (L : Nat) (xs : Nat → Int32) (v1 : Int32) (R : List Value × Lay × Hp) (v2 : Int32) (h : Hp) (o : ((Int32 × Hp) ⊕ (Int32 × Hp))) (hH : ∀ s : Int32 × Hp, o = .inl s → Bg L xs 100 11 [(0, .ref 29), (1, .int v1), (2, .int s.1)] [] LY88 s.2 R) (hE : ∀ t : Int32 × Hp, o = .inr t → Bg L xs 100 49 [(0, .ref 29), (1, .int v1), (2, .int t.1)] [] LY88 t.2 R) (e : Jsh_remove_L11 v1 v2 h = some o) : Bg L xs 100 11 [(0, .ref 29), (1, .int v1), (2, .int v2)] [] LY88 h R := by
  refine seg_Bg (pc' := (if (v2 + (1 : Int32)) < (h 29 1) then 21 else 49)) (lv' := [(0, .ref 29), (1, .int v1), (2, .int v2)]) (st' := []) (lay' := LY88) (h' := h) 6 rfl ?_
  refine pc_ite e (fun e => ?_) (fun e => ?_)
  · refine seg_Bg (pc' := (if (v2 + (1 : Int32)) < 6 then 29 else 49)) (lv' := [(0, .ref 29), (1, .int v1), (2, .int v2)]) (st' := []) (lay' := LY88) (h' := h) 5 rfl ?_
    refine pc_ite e (fun e => ?_) (fun e => ?_)
    · refine seg_Bg (pc' := 41) (lv' := [(0, .ref 29), (1, .int v1), (2, .int v2)]) (st' := [.int (v2 + (1 : Int32)), .ref 30, .int v2, .ref 30]) (lay' := LY88) (h' := h) 8 rfl ?_
      refine gd_Bg (pc' := 42) (lv' := [(0, .ref 29), (1, .int v1), (2, .int v2)]) (st' := [.int (h 30 (Int32.toNatClampNeg (v2 + (1 : Int32)))), .int v2, .ref 30]) (lay' := LY88) (h' := h) (g := ibB (v2 + (1 : Int32)) 6) rfl e fun e => ?_
      refine gp_Bg (pc' := 43) (lv' := [(0, .ref 29), (1, .int v1), (2, .int v2)]) (st' := []) (lay' := LY88) (x := hset h 30 (Int32.toNatClampNeg v2) (h 30 (Int32.toNatClampNeg (v2 + (1 : Int32))))) (g := ibB v2 6) rfl e fun h2 e => ?_
      refine seg_Bg (pc' := 11) (lv' := [(0, .ref 29), (1, .int v1), (2, .int (v2 + 1))]) (st' := []) (lay' := LY88) (h' := h2) 2 rfl ?_
      exact hH (v2 + 1, h2) (Option.some.inj e).symm
    · exact hE (v2, h) (Option.some.inj e).symm
  · exact hE (v2, h) (Option.some.inj e).symm
theorem BJsh_remove_L11 (L : Nat) (xs : Nat → Int32) (v1 : Int32) (R : List Value × Lay × Hp) (C : (Int32 × Hp) → Prop) (hE : ∀ t : Int32 × Hp, C t → Bg L xs 100 49 [(0, .ref 29), (1, .int v1), (2, .int t.1)] [] LY88 t.2 R) (n : Nat) (s : Int32 × Hp) (o : (Int32 × Hp)) (e : loopN n (fun s => Jsh_remove_L11 v1 s.1 s.2) s = some o) (hC : C o) : Bg L xs 100 11 [(0, .ref 29), (1, .int v1), (2, .int s.1)] [] LY88 s.2 R := by
  refine loop_B (fun s => Jsh_remove_L11 v1 s.1 s.2) (fun s : Int32 × Hp => Bg L xs 100 11 [(0, .ref 29), (1, .int v1), (2, .int s.1)] [] LY88 s.2 R) C (fun s o e => ?_) n s o e hC
  intro hK
  refine BJsh_remove_L11_s L xs v1 R s.1 s.2 o (fun s q => by subst q; exact hK) (fun t q => by subst q; exact hE t hK) e
set_option maxRecDepth 100000 in
theorem BJsh_remove (L : Nat) (xs : Nat → Int32) (v1 : Int32) (h : Hp) (o : Hp) (e : Jsh_remove v1 h = some o) : Bg L xs 100 0 [(0, .ref 29), (1, .int v1)] [] LY88 h ([], LY88, o) := by
  obtain ⟨R, hR⟩ : ∃ R : List Value × Lay × Hp, R = ([], LY88, o) := ⟨_, rfl⟩
  rw [← hR]
  refine seg_Bg (pc' := 2) (lv' := [(0, .ref 29), (1, .int v1)]) (st' := [.int v1, .ref 29]) (lay' := LY88) (h' := h) 2 rfl ?_
  refine call_Bg (a := 94) (la := [(0, .ref 29), (1, .int v1)]) (np := 5) (lv' := [(0, .ref 29), (1, .int v1)]) (rest := []) (res := fun r => ([.int r], LY88, h)) rfl e (fun r e => BJsh_holds L xs v1 h r e) (fun c1 e => ?_)
  show Bg L xs 100 5 [(0, .ref 29), (1, .int v1)] [.int c1] LY88 h R
  refine seg_Bg (pc' := (if c1 = 0 then 8 else 9)) (lv' := [(0, .ref 29), (1, .int v1)]) (st' := []) (lay' := LY88) (h' := h) 1 rfl ?_
  refine pc_ite e (fun e => ?_) (fun e => ?_)
  · rw [hR, ← Option.some.inj e]; exact ret_Bg rfl
  · refine seg_Bg (pc' := 11) (lv' := [(0, .ref 29), (1, .int v1), (2, .int v1)]) (st' := []) (lay' := LY88) (h' := h) 2 rfl ?_
    obtain ⟨t3o, et3o, e⟩ := bd_s e
    refine BJsh_remove_L11 L xs v1 R (fun (t3 : Int32 × Hp) => (lt (hset t3.2 29 1 ((t3.2 29 1) - (1 : Int32))) fun h4 => lt (hset h4 29 2 (((h4 29 2) &&& (((1 : Int32) <<< (v1 &&& 31) : Int32) - (1 : Int32))) ||| (((h4 29 2) >>> (1 &&& 31) : Int32) &&& ((((1 : Int32) <<< (v1 &&& 31) : Int32) - (1 : Int32)) ^^^ (-1 : Int32))))) fun h5 => some h5) = some o) (fun t3 e => ?_) 1000000 (v1, h) _ et3o e
    refine seg_Bg (pc' := 56) (lv' := [(0, .ref 29), (1, .int v1), (2, .int t3.1)]) (st' := [.int ((t3.2 29 1) - (1 : Int32)), .ref 29]) (lay' := LY88) (h' := t3.2) 5 rfl ?_
    refine put_Bg (pc' := 59) (lv' := [(0, .ref 29), (1, .int v1), (2, .int t3.1)]) (st' := []) (lay' := LY88) (x := hset t3.2 29 1 ((t3.2 29 1) - (1 : Int32))) rfl e fun h4 e => ?_
    refine seg_Bg (pc' := 83) (lv' := [(0, .ref 29), (1, .int v1), (2, .int (((1 : Int32) <<< (v1 &&& 31) : Int32) - (1 : Int32)))]) (st' := [.int (((h4 29 2) &&& (((1 : Int32) <<< (v1 &&& 31) : Int32) - (1 : Int32))) ||| (((h4 29 2) >>> (1 &&& 31) : Int32) &&& ((((1 : Int32) <<< (v1 &&& 31) : Int32) - (1 : Int32)) ^^^ (-1 : Int32)))), .ref 29]) (lay' := LY88) (h' := h4) 20 rfl ?_
    refine put_Bg (pc' := 86) (lv' := [(0, .ref 29), (1, .int v1), (2, .int (((1 : Int32) <<< (v1 &&& 31) : Int32) - (1 : Int32)))]) (st' := []) (lay' := LY88) (x := hset h4 29 2 (((h4 29 2) &&& (((1 : Int32) <<< (v1 &&& 31) : Int32) - (1 : Int32))) ||| (((h4 29 2) >>> (1 &&& 31) : Int32) &&& ((((1 : Int32) <<< (v1 &&& 31) : Int32) - (1 : Int32)) ^^^ (-1 : Int32))))) rfl e fun h5 e => ?_
    rw [hR, ← Option.some.inj e]; exact ret_Bg rfl

set_option maxRecDepth 100000 in
theorem BJyn_take (L : Nat) (xs : Nat → Int32) (v1 : Int32) (h : Hp) (o : Int32 × Hp) (e : Jyn_take v1 h = some o) : Bg L xs 149 0 [(0, .ref 0), (1, .int v1)] [] LY88 h ([.int o.1], LY88, o.2) := by
  obtain ⟨R, hR⟩ : ∃ R : List Value × Lay × Hp, R = ([.int o.1], LY88, o.2) := ⟨_, rfl⟩
  rw [← hR]
  refine seg_Bg (pc' := 5) (lv' := [(0, .ref 0), (1, .int v1)]) (st' := [.int v1, .ref 29]) (lay' := LY88) (h' := h) 3 rfl ?_
  refine call_Bg (a := 94) (la := [(0, .ref 29), (1, .int v1)]) (np := 8) (lv' := [(0, .ref 0), (1, .int v1)]) (rest := []) (res := fun r => ([.int r], LY88, h)) rfl e (fun r e => BJsh_holds L xs v1 h r e) (fun c1 e => ?_)
  show Bg L xs 149 8 [(0, .ref 0), (1, .int v1)] [.int c1] LY88 h R
  refine seg_Bg (pc' := (if c1 = 0 then 11 else 14)) (lv' := [(0, .ref 0), (1, .int v1)]) (st' := []) (lay' := LY88) (h' := h) 1 rfl ?_
  refine pc_ite e (fun e => ?_) (fun e => ?_)
  · refine seg_Bg (pc' := 13) (lv' := [(0, .ref 0), (1, .int v1)]) (st' := [.int (-1000000001)]) (lay' := LY88) (h' := h) 1 rfl ?_
    rw [hR, ← Option.some.inj e]; exact ret_Bg rfl
  · refine seg_Bg (pc' := 22) (lv' := [(0, .ref 0), (1, .int v1)]) (st' := [.ref 29, .ref 31]) (lay' := LY88) (h' := h) 4 rfl ?_
    refine call_Bg (a := 54) (la := [(0, .ref 31), (1, .ref 29)]) (np := 25) (lv' := [(0, .ref 0), (1, .int v1)]) (rest := []) (res := fun r => ([], LY88, r)) rfl e (fun r e => BJpa_push L xs h r e) (fun c2 e => ?_)
    show Bg L xs 149 25 [(0, .ref 0), (1, .int v1)] [] LY88 c2 R
    refine seg_Bg (pc' := 30) (lv' := [(0, .ref 0), (1, .int v1)]) (st' := [.int v1, .ref 29]) (lay' := LY88) (h' := c2) 3 rfl ?_
    refine call_Bg (a := 100) (la := [(0, .ref 29), (1, .int v1)]) (np := 33) (lv' := [(0, .ref 0), (1, .int v1)]) (rest := []) (res := fun r => ([], LY88, r)) rfl e (fun r e => BJsh_remove L xs v1 c2 r e) (fun c3 e => ?_)
    show Bg L xs 149 33 [(0, .ref 0), (1, .int v1)] [] LY88 c3 R
    refine seg_Bg (pc' := 37) (lv' := [(0, .ref 0), (1, .int v1)]) (st' := [.ref 29]) (lay' := LY88) (h' := c3) 2 rfl ?_
    refine call_Bg (a := 92) (la := [(0, .ref 29)]) (np := 40) (lv' := [(0, .ref 0), (1, .int v1)]) (rest := []) (res := fun r => ([.int r], LY88, c3)) rfl e (fun r e => BJsh_size L xs c3 r e) (fun c4 e => ?_)
    show Bg L xs 149 40 [(0, .ref 0), (1, .int v1)] [.int c4] LY88 c3 R
    rw [hR, ← Option.some.inj e]; exact ret_Bg rfl

set_option maxRecDepth 100000 in
theorem BJm_take_L56_s (L : Nat) (xs : Nat → Int32) (v1 v2 : Int32) (R : List Value × Lay × Hp) (v3 : Int32) (h : Hp) (o : ((Int32 × Hp) ⊕ (Int32 × Hp))) (hH : ∀ s : Int32 × Hp, o = .inl s → Bg L xs 242 56 [(0, .ref 37), (1, .int v1), (2, .int v2), (3, .int s.1)] [] LY88 s.2 R) (hE : ∀ t : Int32 × Hp, o = .inr t → Bg L xs 242 86 [(0, .ref 37), (1, .int v1), (2, .int v2), (3, .int t.1)] [] LY88 t.2 R) (e : Jm_take_L56 v1 v2 v3 h = some o) : Bg L xs 242 56 [(0, .ref 37), (1, .int v1), (2, .int v2), (3, .int v3)] [] LY88 h R := by
  refine seg_Bg (pc' := (if v3 < (h 38 0) then 66 else 86)) (lv' := [(0, .ref 37), (1, .int v1), (2, .int v2), (3, .int v3)]) (st' := []) (lay' := LY88) (h' := h) 6 rfl ?_
  refine pc_ite e (fun e => ?_) (fun e => ?_)
  · refine seg_Bg (pc' := 78) (lv' := [(0, .ref 37), (1, .int v1), (2, .int v2), (3, .int v3)]) (st' := [.int (v3 + (1 : Int32)), .ref 38, .int v3, .ref 38]) (lay' := LY88) (h' := h) 8 rfl ?_
    refine gd_Bg (pc' := 79) (lv' := [(0, .ref 37), (1, .int v1), (2, .int v2), (3, .int v3)]) (st' := [.int (h 38 (Int32.toNatClampNeg (v3 + (1 : Int32)))), .int v3, .ref 38]) (lay' := LY88) (h' := h) (g := ibB (v3 + (1 : Int32)) 152) rfl e fun e => ?_
    refine gp_Bg (pc' := 80) (lv' := [(0, .ref 37), (1, .int v1), (2, .int v2), (3, .int v3)]) (st' := []) (lay' := LY88) (x := hset h 38 (Int32.toNatClampNeg v3) (h 38 (Int32.toNatClampNeg (v3 + (1 : Int32))))) (g := ibB v3 152) rfl e fun h4 e => ?_
    refine seg_Bg (pc' := 56) (lv' := [(0, .ref 37), (1, .int v1), (2, .int v2), (3, .int (v3 + 1))]) (st' := []) (lay' := LY88) (h' := h4) 2 rfl ?_
    exact hH (v3 + 1, h4) (Option.some.inj e).symm
  · exact hE (v3, h) (Option.some.inj e).symm
theorem BJm_take_L56 (L : Nat) (xs : Nat → Int32) (v1 v2 : Int32) (R : List Value × Lay × Hp) (C : (Int32 × Hp) → Prop) (hE : ∀ t : Int32 × Hp, C t → Bg L xs 242 86 [(0, .ref 37), (1, .int v1), (2, .int v2), (3, .int t.1)] [] LY88 t.2 R) (n : Nat) (s : Int32 × Hp) (o : (Int32 × Hp)) (e : loopN n (fun s => Jm_take_L56 v1 v2 s.1 s.2) s = some o) (hC : C o) : Bg L xs 242 56 [(0, .ref 37), (1, .int v1), (2, .int v2), (3, .int s.1)] [] LY88 s.2 R := by
  refine loop_B (fun s => Jm_take_L56 v1 v2 s.1 s.2) (fun s : Int32 × Hp => Bg L xs 242 56 [(0, .ref 37), (1, .int v1), (2, .int v2), (3, .int s.1)] [] LY88 s.2 R) C (fun s o e => ?_) n s o e hC
  intro hK
  refine BJm_take_L56_s L xs v1 v2 R s.1 s.2 o (fun s q => by subst q; exact hK) (fun t q => by subst q; exact hE t hK) e
set_option maxRecDepth 100000 in
theorem BJm_take (L : Nat) (xs : Nat → Int32) (v1 : Int32) (h : Hp) (o : Int32 × Hp) (e : Jm_take v1 h = some o) : Bg L xs 242 0 [(0, .ref 37), (1, .int v1)] [] LY88 h ([.int o.1], LY88, o.2) := by
  obtain ⟨R, hR⟩ : ∃ R : List Value × Lay × Hp, R = ([.int o.1], LY88, o.2) := ⟨_, rfl⟩
  rw [← hR]
  refine seg_Bg (pc' := 2) (lv' := [(0, .ref 37), (1, .int v1)]) (st' := [.int v1, .ref 37]) (lay' := LY88) (h' := h) 2 rfl ?_
  refine call_Bg (a := 223) (la := [(0, .ref 37), (1, .int v1)]) (np := 5) (lv' := [(0, .ref 37), (1, .int v1)]) (rest := []) (res := fun r => ([.int r], LY88, h)) rfl e (fun r e => BJm_isFunction L xs v1 h r e) (fun c1 e => ?_)
  show Bg L xs 242 5 [(0, .ref 37), (1, .int v1)] [.int c1] LY88 h R
  refine seg_Bg (pc' := (if c1 = 0 then 8 else 12)) (lv' := [(0, .ref 37), (1, .int v1)]) (st' := []) (lay' := LY88) (h' := h) 1 rfl ?_
  refine pc_ite e (fun e => ?_) (fun e => ?_)
  · refine seg_Bg (pc' := 11) (lv' := [(0, .ref 37), (1, .int v1)]) (st' := [.int (-1000000001)]) (lay' := LY88) (h' := h) 1 rfl ?_
    rw [hR, ← Option.some.inj e]; exact ret_Bg rfl
  · refine seg_Bg (pc' := 13) (lv' := [(0, .ref 37), (1, .int v1)]) (st' := [.ref 37]) (lay' := LY88) (h' := h) 1 rfl ?_
    refine call_Bg (a := 169) (la := [(0, .ref 37)]) (np := 16) (lv' := [(0, .ref 37), (1, .int v1)]) (rest := []) (res := fun r => ([], LY88, r)) rfl e (fun r e => BJm_remember L xs h r e) (fun c2 e => ?_)
    show Bg L xs 242 16 [(0, .ref 37), (1, .int v1)] [] LY88 c2 R
    refine seg_Bg (pc' := 51) (lv' := [(0, .ref 37), (1, .int v1), (2, .int ((c2 38 7) &&& (((1 : Int32) <<< (v1 &&& 31) : Int32) - (1 : Int32))))]) (st' := [.int (((c2 38 7) &&& (((1 : Int32) <<< (v1 &&& 31) : Int32) - (1 : Int32))) ||| (((c2 38 7) >>> ((v1 + (1 : Int32)) &&& 31) : Int32) <<< (v1 &&& 31) : Int32)), .int 7, .ref 38]) (lay' := LY88) (h' := c2) 26 rfl ?_
    refine put_Bg (pc' := 52) (lv' := [(0, .ref 37), (1, .int v1), (2, .int ((c2 38 7) &&& (((1 : Int32) <<< (v1 &&& 31) : Int32) - (1 : Int32))))]) (st' := []) (lay' := LY88) (x := hset c2 38 7 (((c2 38 7) &&& (((1 : Int32) <<< (v1 &&& 31) : Int32) - (1 : Int32))) ||| (((c2 38 7) >>> ((v1 + (1 : Int32)) &&& 31) : Int32) <<< (v1 &&& 31) : Int32))) rfl e fun h3 e => ?_
    refine seg_Bg (pc' := 56) (lv' := [(0, .ref 37), (1, .int v1), (2, .int ((c2 38 7) &&& (((1 : Int32) <<< (v1 &&& 31) : Int32) - (1 : Int32)))), (3, .int (v1 + (1 : Int32)))]) (st' := []) (lay' := LY88) (h' := h3) 4 rfl ?_
    obtain ⟨t5o, et5o, e⟩ := bd_s e
    refine BJm_take_L56 L xs v1 ((c2 38 7) &&& (((1 : Int32) <<< (v1 &&& 31) : Int32) - (1 : Int32))) R (fun (t5 : Int32 × Hp) => (lt (hset t5.2 38 0 ((t5.2 38 0) - (1 : Int32))) fun h6 => some (h6 38 0, h6)) = some o) (fun t5 e => ?_) 1000000 (v1 + (1 : Int32), h3) _ et5o e
    refine seg_Bg (pc' := 95) (lv' := [(0, .ref 37), (1, .int v1), (2, .int ((c2 38 7) &&& (((1 : Int32) <<< (v1 &&& 31) : Int32) - (1 : Int32)))), (3, .int t5.1)]) (st' := [.int ((t5.2 38 0) - (1 : Int32)), .int 0, .ref 38]) (lay' := LY88) (h' := t5.2) 7 rfl ?_
    refine put_Bg (pc' := 96) (lv' := [(0, .ref 37), (1, .int v1), (2, .int ((c2 38 7) &&& (((1 : Int32) <<< (v1 &&& 31) : Int32) - (1 : Int32)))), (3, .int t5.1)]) (st' := []) (lay' := LY88) (x := hset t5.2 38 0 ((t5.2 38 0) - (1 : Int32))) rfl e fun h6 e => ?_
    refine seg_Bg (pc' := 102) (lv' := [(0, .ref 37), (1, .int v1), (2, .int ((c2 38 7) &&& (((1 : Int32) <<< (v1 &&& 31) : Int32) - (1 : Int32)))), (3, .int t5.1)]) (st' := [.int (h6 38 0)]) (lay' := LY88) (h' := h6) 4 rfl ?_
    rw [hR, ← Option.some.inj e]; exact ret_Bg rfl

set_option maxRecDepth 100000 in
theorem BJsh_choose (L : Nat) (xs : Nat → Int32) (v1 : Int32) (h : Hp) (o : Hp) (e : Jsh_choose v1 h = some o) : Bg L xs 101 0 [(0, .ref 29), (1, .int v1)] [] LY88 h ([], LY88, o) := by
  obtain ⟨R, hR⟩ : ∃ R : List Value × Lay × Hp, R = ([], LY88, o) := ⟨_, rfl⟩
  rw [← hR]
  refine seg_Bg (pc' := 2) (lv' := [(0, .ref 29), (1, .int v1)]) (st' := [.int v1, .ref 29]) (lay' := LY88) (h' := h) 2 rfl ?_
  refine put_Bg (pc' := 5) (lv' := [(0, .ref 29), (1, .int v1)]) (st' := []) (lay' := LY88) (x := hset h 29 2 v1) rfl e fun h1 e => ?_
  rw [hR, ← Option.some.inj e]; exact ret_Bg rfl

set_option maxRecDepth 100000 in
theorem BJyn_base (L : Nat) (xs : Nat → Int32) (v1 : Int32) (h : Hp) (o : Int32 × Hp) (e : Jyn_base v1 h = some o) : Bg L xs 150 0 [(0, .ref 0), (1, .int v1)] [] LY88 h ([.int o.1], LY88, o.2) := by
  obtain ⟨R, hR⟩ : ∃ R : List Value × Lay × Hp, R = ([.int o.1], LY88, o.2) := ⟨_, rfl⟩
  rw [← hR]
  refine seg_Bg (pc' := 5) (lv' := [(0, .ref 0), (1, .int v1)]) (st' := [.ref 29, .int v1]) (lay' := LY88) (h' := h) 3 rfl ?_
  refine call_Bg (a := 92) (la := [(0, .ref 29)]) (np := 8) (lv' := [(0, .ref 0), (1, .int v1)]) (rest := [.int v1]) (res := fun r => ([.int r], LY88, h)) rfl e (fun r e => BJsh_size L xs h r e) (fun c1 e => ?_)
  show Bg L xs 150 8 [(0, .ref 0), (1, .int v1)] [.int c1, .int v1] LY88 h R
  refine seg_Bg (pc' := (if (v1 >>> (c1 &&& 31) : Int32) = 0 then 15 else 12)) (lv' := [(0, .ref 0), (1, .int v1)]) (st' := []) (lay' := LY88) (h' := h) 2 rfl ?_
  refine pc_ite e (fun e => ?_) (fun e => ?_)
  · refine seg_Bg (pc' := 23) (lv' := [(0, .ref 0), (1, .int v1)]) (st' := [.ref 29, .ref 31]) (lay' := LY88) (h' := h) 4 rfl ?_
    refine call_Bg (a := 54) (la := [(0, .ref 31), (1, .ref 29)]) (np := 26) (lv' := [(0, .ref 0), (1, .int v1)]) (rest := []) (res := fun r => ([], LY88, r)) rfl e (fun r e => BJpa_push L xs h r e) (fun c2 e => ?_)
    show Bg L xs 150 26 [(0, .ref 0), (1, .int v1)] [] LY88 c2 R
    refine seg_Bg (pc' := 31) (lv' := [(0, .ref 0), (1, .int v1)]) (st' := [.int v1, .ref 29]) (lay' := LY88) (h' := c2) 3 rfl ?_
    refine call_Bg (a := 101) (la := [(0, .ref 29), (1, .int v1)]) (np := 34) (lv' := [(0, .ref 0), (1, .int v1)]) (rest := []) (res := fun r => ([], LY88, r)) rfl e (fun r e => BJsh_choose L xs v1 c2 r e) (fun c3 e => ?_)
    show Bg L xs 150 34 [(0, .ref 0), (1, .int v1)] [] LY88 c3 R
    refine seg_Bg (pc' := 35) (lv' := [(0, .ref 0), (1, .int v1)]) (st' := [.ref 0]) (lay' := LY88) (h' := c3) 1 rfl ?_
    refine call_Bg (a := 160) (la := [(0, .ref 0)]) (np := 38) (lv' := [(0, .ref 0), (1, .int v1)]) (rest := []) (res := fun r => ([.int r], LY88, c3)) rfl e (fun r e => BJyn_common L xs c3 r e) (fun c4 e => ?_)
    show Bg L xs 150 38 [(0, .ref 0), (1, .int v1)] [.int c4] LY88 c3 R
    rw [hR, ← Option.some.inj e]; exact ret_Bg rfl
  · refine seg_Bg (pc' := 14) (lv' := [(0, .ref 0), (1, .int v1)]) (st' := [.int (-1000000001)]) (lay' := LY88) (h' := h) 1 rfl ?_
    rw [hR, ← Option.some.inj e]; exact ret_Bg rfl

set_option maxRecDepth 100000 in
theorem BJm_base (L : Nat) (xs : Nat → Int32) (v1 : Int32) (h : Hp) (o : Int32 × Hp) (e : Jm_base v1 h = some o) : Bg L xs 243 0 [(0, .ref 37), (1, .int v1)] [] LY88 h ([.int o.1], LY88, o.2) := by
  obtain ⟨R, hR⟩ : ∃ R : List Value × Lay × Hp, R = ([.int o.1], LY88, o.2) := ⟨_, rfl⟩
  rw [← hR]
  refine seg_Bg (pc' := 14) (lv' := [(0, .ref 37), (1, .int v1)]) (st' := [.long (Int32.toInt64 (((1 : Int32) <<< ((h 38 0) &&& 31) : Int32) - (1 : Int32))), .long 0, .long (Int32.toInt64 v1)]) (lay' := LY88) (h' := h) 12 rfl ?_
  refine call_Bg (a := 166) (la := [(0, .long (Int32.toInt64 v1)), (2, .long 0), (4, .long (Int32.toInt64 (((1 : Int32) <<< ((h 38 0) &&& 31) : Int32) - (1 : Int32))))]) (np := 17) (lv' := [(0, .ref 37), (1, .int v1)]) (rest := []) (res := fun r => ([.int r], LY88, h)) rfl e (fun r e => BJm_in L xs (Int32.toInt64 v1) 0 (Int32.toInt64 (((1 : Int32) <<< ((h 38 0) &&& 31) : Int32) - (1 : Int32))) LY88 h r e) (fun c1 e => ?_)
  show Bg L xs 243 17 [(0, .ref 37), (1, .int v1)] [.int c1] LY88 h R
  refine seg_Bg (pc' := (if c1 = 0 then 20 else 24)) (lv' := [(0, .ref 37), (1, .int v1)]) (st' := []) (lay' := LY88) (h' := h) 1 rfl ?_
  refine pc_ite e (fun e => ?_) (fun e => ?_)
  · refine seg_Bg (pc' := 23) (lv' := [(0, .ref 37), (1, .int v1)]) (st' := [.int (-1000000001)]) (lay' := LY88) (h' := h) 1 rfl ?_
    rw [hR, ← Option.some.inj e]; exact ret_Bg rfl
  · refine seg_Bg (pc' := 25) (lv' := [(0, .ref 37), (1, .int v1)]) (st' := [.ref 37]) (lay' := LY88) (h' := h) 1 rfl ?_
    refine call_Bg (a := 169) (la := [(0, .ref 37)]) (np := 28) (lv' := [(0, .ref 37), (1, .int v1)]) (rest := []) (res := fun r => ([], LY88, r)) rfl e (fun r e => BJm_remember L xs h r e) (fun c2 e => ?_)
    show Bg L xs 243 28 [(0, .ref 37), (1, .int v1)] [] LY88 c2 R
    refine seg_Bg (pc' := 35) (lv' := [(0, .ref 37), (1, .int v1)]) (st' := [.int v1, .int 7, .ref 38]) (lay' := LY88) (h' := c2) 4 rfl ?_
    refine put_Bg (pc' := 36) (lv' := [(0, .ref 37), (1, .int v1)]) (st' := []) (lay' := LY88) (x := hset c2 38 7 v1) rfl e fun h3 e => ?_
    refine seg_Bg (pc' := 38) (lv' := [(0, .ref 37), (1, .int v1)]) (st' := [.int (-1), .ref 37]) (lay' := LY88) (h' := h3) 2 rfl ?_
    refine call_Bg (a := 208) (la := [(0, .ref 37), (1, .int (-1))]) (np := 41) (lv' := [(0, .ref 37), (1, .int v1)]) (rest := []) (res := fun r => ([.int r.1], LY88, r.2)) rfl e (fun r e => BJm_common L xs (-1) h3 r e) (fun c4 e => ?_)
    show Bg L xs 243 41 [(0, .ref 37), (1, .int v1)] [.int c4.1] LY88 c4.2 R
    rw [hR, ← Option.some.inj e]; exact ret_Bg rfl

set_option maxRecDepth 100000 in
theorem BJyn_draw (L : Nat) (xs : Nat → Int32) (v1 : Int32) (h : Hp) (o : Int32 × Hp) (e : Jyn_draw v1 h = some o) : Bg L xs 164 0 [(0, .ref 0), (1, .int v1)] [] LY88 h ([.int o.1], LY88, o.2) := by
  obtain ⟨R, hR⟩ : ∃ R : List Value × Lay × Hp, R = ([.int o.1], LY88, o.2) := ⟨_, rfl⟩
  rw [← hR]
  refine seg_Bg (pc' := 19) (lv' := [(0, .ref 0), (1, .int v1)]) (st' := [.int (Int64.toInt32 ((((Int32.toInt64 (h 0 8)) * 1103515245) + 12345) &&& 2147483647)), .ref 0]) (lay' := LY88) (h' := h) 11 rfl ?_
  refine put_Bg (pc' := 22) (lv' := [(0, .ref 0), (1, .int v1)]) (st' := []) (lay' := LY88) (x := hset h 0 8 (Int64.toInt32 ((((Int32.toInt64 (h 0 8)) * 1103515245) + 12345) &&& 2147483647))) rfl e fun h1 e => ?_
  refine seg_Bg (pc' := (if v1 < 1 then 27 else 31)) (lv' := [(0, .ref 0), (1, .int v1)]) (st' := []) (lay' := LY88) (h' := h1) 3 rfl ?_
  refine pc_ite e (fun e => ?_) (fun e => ?_)
  · refine seg_Bg (pc' := 41) (lv' := [(0, .ref 0), (1, .int v1)]) (st' := [.int 0]) (lay' := LY88) (h' := h1) 2 rfl ?_
    rw [hR, ← Option.some.inj e]; exact ret_Bg rfl
  · refine seg_Bg (pc' := 40) (lv' := [(0, .ref 0), (1, .int v1)]) (st' := [.int v1, .int ((h1 0 8) / 65536)]) (lay' := LY88) (h' := h1) 5 rfl ?_
    refine gd_Bg (pc' := 41) (lv' := [(0, .ref 0), (1, .int v1)]) (st' := [.int (((h1 0 8) / 65536) - ((h1 0 8) / 65536) / v1 * v1)]) (lay' := LY88) (h' := h1) (g := !(decide (v1 = 0))) rfl e fun e => ?_
    rw [hR, ← Option.some.inj e]; exact ret_Bg rfl

set_option maxRecDepth 100000 in
theorem BJyn_drift_L16_s (L : Nat) (xs : Nat → Int32) (v1 : Int32) (R : List Value × Lay × Hp) (v2 : Int32) (h : Hp) (o : ((Int32 × Hp) ⊕ (Int32 × Hp))) (hH : ∀ s : Int32 × Hp, o = .inl s → Bg L xs 151 16 [(0, .ref 0), (1, .int v1), (2, .int s.1)] [] LY88 s.2 R) (hE : ∀ t : Int32 × Hp, o = .inr t → Bg L xs 151 63 [(0, .ref 0), (1, .int v1), (2, .int t.1)] [] LY88 t.2 R) (e : Jyn_drift_L16 v1 v2 h = some o) : Bg L xs 151 16 [(0, .ref 0), (1, .int v1), (2, .int v2)] [] LY88 h R := by
  refine seg_Bg (pc' := (if v2 < v1 then 21 else 63)) (lv' := [(0, .ref 0), (1, .int v1), (2, .int v2)]) (st' := []) (lay' := LY88) (h' := h) 3 rfl ?_
  refine pc_ite e (fun e => ?_) (fun e => ?_)
  · refine seg_Bg (pc' := 25) (lv' := [(0, .ref 0), (1, .int v1), (2, .int v2)]) (st' := [.ref 29]) (lay' := LY88) (h' := h) 2 rfl ?_
    refine call_Bg (a := 93) (la := [(0, .ref 29)]) (np := 28) (lv' := [(0, .ref 0), (1, .int v1), (2, .int v2)]) (rest := []) (res := fun r => ([.int r], LY88, h)) rfl e (fun r e => BJsh_isFull L xs h r e) (fun c1 e => ?_)
    show Bg L xs 151 28 [(0, .ref 0), (1, .int v1), (2, .int v2)] [.int c1] LY88 h R
    refine seg_Bg (pc' := (if c1 = 0 then 31 else 63)) (lv' := [(0, .ref 0), (1, .int v1), (2, .int v2)]) (st' := []) (lay' := LY88) (h' := h) 1 rfl ?_
    refine pc_ite e (fun e => ?_) (fun e => ?_)
    · refine seg_Bg (pc' := 39) (lv' := [(0, .ref 0), (1, .int v1), (2, .int v2)]) (st' := [.ref 29, .ref 31]) (lay' := LY88) (h' := h) 4 rfl ?_
      refine call_Bg (a := 54) (la := [(0, .ref 31), (1, .ref 29)]) (np := 42) (lv' := [(0, .ref 0), (1, .int v1), (2, .int v2)]) (rest := []) (res := fun r => ([], LY88, r)) rfl e (fun r e => BJpa_push L xs h r e) (fun c2 e => ?_)
      show Bg L xs 151 42 [(0, .ref 0), (1, .int v1), (2, .int v2)] [] LY88 c2 R
      refine seg_Bg (pc' := 50) (lv' := [(0, .ref 0), (1, .int v1), (2, .int v2)]) (st' := [.int 256, .ref 0, .ref 29]) (lay' := LY88) (h' := c2) 4 rfl ?_
      refine call_Bg (a := 164) (la := [(0, .ref 0), (1, .int 256)]) (np := 53) (lv' := [(0, .ref 0), (1, .int v1), (2, .int v2)]) (rest := [.ref 29]) (res := fun r => ([.int r.1], LY88, r.2)) rfl e (fun r e => BJyn_draw L xs 256 c2 r e) (fun c3 e => ?_)
      show Bg L xs 151 53 [(0, .ref 0), (1, .int v1), (2, .int v2)] [.int c3.1, .ref 29] LY88 c3.2 R
      refine call_Bg (a := 98) (la := [(0, .ref 29), (1, .int c3.1)]) (np := 56) (lv' := [(0, .ref 0), (1, .int v1), (2, .int v2)]) (rest := []) (res := fun r => ([.int r.1], LY88, r.2)) rfl e (fun r e => BJsh_add L xs c3.1 c3.2 r e) (fun c4 e => ?_)
      show Bg L xs 151 56 [(0, .ref 0), (1, .int v1), (2, .int v2)] [.int c4.1] LY88 c4.2 R
      refine seg_Bg (pc' := 16) (lv' := [(0, .ref 0), (1, .int v1), (2, .int (v2 + 1))]) (st' := []) (lay' := LY88) (h' := c4.2) 3 rfl ?_
      exact hH (v2 + 1, c4.2) (Option.some.inj e).symm
    · exact hE (v2, h) (Option.some.inj e).symm
  · exact hE (v2, h) (Option.some.inj e).symm
theorem BJyn_drift_L16 (L : Nat) (xs : Nat → Int32) (v1 : Int32) (R : List Value × Lay × Hp) (C : (Int32 × Hp) → Prop) (hE : ∀ t : Int32 × Hp, C t → Bg L xs 151 63 [(0, .ref 0), (1, .int v1), (2, .int t.1)] [] LY88 t.2 R) (n : Nat) (s : Int32 × Hp) (o : (Int32 × Hp)) (e : loopN n (fun s => Jyn_drift_L16 v1 s.1 s.2) s = some o) (hC : C o) : Bg L xs 151 16 [(0, .ref 0), (1, .int v1), (2, .int s.1)] [] LY88 s.2 R := by
  refine loop_B (fun s => Jyn_drift_L16 v1 s.1 s.2) (fun s : Int32 × Hp => Bg L xs 151 16 [(0, .ref 0), (1, .int v1), (2, .int s.1)] [] LY88 s.2 R) C (fun s o e => ?_) n s o e hC
  intro hK
  refine BJyn_drift_L16_s L xs v1 R s.1 s.2 o (fun s q => by subst q; exact hK) (fun t q => by subst q; exact hE t hK) e
set_option maxRecDepth 100000 in
theorem BJyn_drift (L : Nat) (xs : Nat → Int32) (v1 : Int32) (h : Hp) (o : Int32 × Hp) (e : Jyn_drift v1 h = some o) : Bg L xs 151 0 [(0, .ref 0), (1, .int v1)] [] LY88 h ([.int o.1], LY88, o.2) := by
  obtain ⟨R, hR⟩ : ∃ R : List Value × Lay × Hp, R = ([.int o.1], LY88, o.2) := ⟨_, rfl⟩
  rw [← hR]
  refine seg_Bg (pc' := (if v1 < 1 then 11 else 5)) (lv' := [(0, .ref 0), (1, .int v1)]) (st' := []) (lay' := LY88) (h' := h) 3 rfl ?_
  refine pc_ite e (fun e => ?_) (fun e => ?_)
  · refine seg_Bg (pc' := 13) (lv' := [(0, .ref 0), (1, .int v1)]) (st' := [.int (-1000000002)]) (lay' := LY88) (h' := h) 1 rfl ?_
    rw [hR, ← Option.some.inj e]; exact ret_Bg rfl
  · refine seg_Bg (pc' := (if 6 < v1 then 11 else 14)) (lv' := [(0, .ref 0), (1, .int v1)]) (st' := []) (lay' := LY88) (h' := h) 3 rfl ?_
    refine pc_ite e (fun e => ?_) (fun e => ?_)
    · refine seg_Bg (pc' := 13) (lv' := [(0, .ref 0), (1, .int v1)]) (st' := [.int (-1000000002)]) (lay' := LY88) (h' := h) 1 rfl ?_
      rw [hR, ← Option.some.inj e]; exact ret_Bg rfl
    · refine seg_Bg (pc' := 16) (lv' := [(0, .ref 0), (1, .int v1), (2, .int 0)]) (st' := []) (lay' := LY88) (h' := h) 2 rfl ?_
      obtain ⟨t5o, et5o, e⟩ := bd_s e
      refine BJyn_drift_L16 L xs v1 R (fun (t5 : Int32 × Hp) => (bd (Jsh_size t5.2) fun c6 => some (c6, t5.2)) = some o) (fun t5 e => ?_) 1000000 (0, h) _ et5o e
      refine seg_Bg (pc' := 67) (lv' := [(0, .ref 0), (1, .int v1), (2, .int t5.1)]) (st' := [.ref 29]) (lay' := LY88) (h' := t5.2) 2 rfl ?_
      refine call_Bg (a := 92) (la := [(0, .ref 29)]) (np := 70) (lv' := [(0, .ref 0), (1, .int v1), (2, .int t5.1)]) (rest := []) (res := fun r => ([.int r], LY88, t5.2)) rfl e (fun r e => BJsh_size L xs t5.2 r e) (fun c6 e => ?_)
      show Bg L xs 151 70 [(0, .ref 0), (1, .int v1), (2, .int t5.1)] [.int c6] LY88 t5.2 R
      rw [hR, ← Option.some.inj e]; exact ret_Bg rfl

set_option maxRecDepth 100000 in
theorem BJm_draw (L : Nat) (xs : Nat → Int32) (v1 : Int32) (h : Hp) (o : Int32 × Hp) (e : Jm_draw v1 h = some o) : Bg L xs 244 0 [(0, .ref 37), (1, .int v1)] [] LY88 h ([.int o.1], LY88, o.2) := by
  obtain ⟨R, hR⟩ : ∃ R : List Value × Lay × Hp, R = ([.int o.1], LY88, o.2) := ⟨_, rfl⟩
  rw [← hR]
  refine seg_Bg (pc' := 19) (lv' := [(0, .ref 37), (1, .int v1)]) (st' := [.int (Int64.toInt32 ((((Int32.toInt64 (h 37 3)) * 1103515245) + 12345) - (((Int32.toInt64 (h 37 3)) * 1103515245) + 12345) / 2147483648 * 2147483648)), .ref 37]) (lay' := LY88) (h' := h) 11 rfl ?_
  refine put_Bg (pc' := 22) (lv' := [(0, .ref 37), (1, .int v1)]) (st' := []) (lay' := LY88) (x := hset h 37 3 (Int64.toInt32 ((((Int32.toInt64 (h 37 3)) * 1103515245) + 12345) - (((Int32.toInt64 (h 37 3)) * 1103515245) + 12345) / 2147483648 * 2147483648))) rfl e fun h1 e => ?_
  refine seg_Bg (pc' := 31) (lv' := [(0, .ref 37), (1, .int v1)]) (st' := [.int v1, .int ((h1 37 3) / 65536)]) (lay' := LY88) (h' := h1) 5 rfl ?_
  refine gd_Bg (pc' := 32) (lv' := [(0, .ref 37), (1, .int v1)]) (st' := [.int (((h1 37 3) / 65536) - ((h1 37 3) / 65536) / v1 * v1)]) (lay' := LY88) (h' := h1) (g := !(decide (v1 = 0))) rfl e fun e => ?_
  rw [hR, ← Option.some.inj e]; exact ret_Bg rfl

set_option maxRecDepth 100000 in
theorem BJm_drift_L17_s (L : Nat) (xs : Nat → Int32) (v1 : Int32) (R : List Value × Lay × Hp) (v2 : Int32) (h : Hp) (o : ((Int32 × Hp) ⊕ (Int32 × Hp))) (hH : ∀ s : Int32 × Hp, o = .inl s → Bg L xs 245 17 [(0, .ref 37), (1, .int v1), (2, .int s.1)] [] LY88 s.2 R) (hE : ∀ t : Int32 × Hp, o = .inr t → Bg L xs 245 51 [(0, .ref 37), (1, .int v1), (2, .int t.1)] [] LY88 t.2 R) (e : Jm_drift_L17 v1 v2 h = some o) : Bg L xs 245 17 [(0, .ref 37), (1, .int v1), (2, .int v2)] [] LY88 h R := by
  refine seg_Bg (pc' := (if v2 < v1 then 22 else 51)) (lv' := [(0, .ref 37), (1, .int v1), (2, .int v2)]) (st' := []) (lay' := LY88) (h' := h) 3 rfl ?_
  refine pc_ite e (fun e => ?_) (fun e => ?_)
  · refine seg_Bg (pc' := (if (h 38 0) < 6 then 33 else 45)) (lv' := [(0, .ref 37), (1, .int v1), (2, .int v2)]) (st' := []) (lay' := LY88) (h' := h) 6 rfl ?_
    refine pc_ite e (fun e => ?_) (fun e => ?_)
    · refine seg_Bg (pc' := 38) (lv' := [(0, .ref 37), (1, .int v1), (2, .int v2)]) (st' := [.int 256, .ref 37, .ref 37]) (lay' := LY88) (h' := h) 3 rfl ?_
      refine call_Bg (a := 244) (la := [(0, .ref 37), (1, .int 256)]) (np := 41) (lv' := [(0, .ref 37), (1, .int v1), (2, .int v2)]) (rest := [.ref 37]) (res := fun r => ([.int r.1], LY88, r.2)) rfl e (fun r e => BJm_draw L xs 256 h r e) (fun c2 e => ?_)
      show Bg L xs 245 41 [(0, .ref 37), (1, .int v1), (2, .int v2)] [.int c2.1, .ref 37] LY88 c2.2 R
      refine call_Bg (a := 217) (la := [(0, .ref 37), (1, .int c2.1)]) (np := 44) (lv' := [(0, .ref 37), (1, .int v1), (2, .int v2)]) (rest := []) (res := fun r => ([.int r.1], LY88, r.2)) rfl e (fun r e => BJm_add L xs c2.1 c2.2 r e) (fun c3 e => ?_)
      show Bg L xs 245 44 [(0, .ref 37), (1, .int v1), (2, .int v2)] [.int c3.1] LY88 c3.2 R
      refine seg_Bg (pc' := 17) (lv' := [(0, .ref 37), (1, .int v1), (2, .int (v2 + 1))]) (st' := []) (lay' := LY88) (h' := c3.2) 3 rfl ?_
      exact hH (v2 + 1, c3.2) (Option.some.inj e).symm
    · refine seg_Bg (pc' := 17) (lv' := [(0, .ref 37), (1, .int v1), (2, .int (v2 + 1))]) (st' := []) (lay' := LY88) (h' := h) 2 rfl ?_
      exact hH (v2 + 1, h) (Option.some.inj e).symm
  · exact hE (v2, h) (Option.some.inj e).symm
theorem BJm_drift_L17 (L : Nat) (xs : Nat → Int32) (v1 : Int32) (R : List Value × Lay × Hp) (C : (Int32 × Hp) → Prop) (hE : ∀ t : Int32 × Hp, C t → Bg L xs 245 51 [(0, .ref 37), (1, .int v1), (2, .int t.1)] [] LY88 t.2 R) (n : Nat) (s : Int32 × Hp) (o : (Int32 × Hp)) (e : loopN n (fun s => Jm_drift_L17 v1 s.1 s.2) s = some o) (hC : C o) : Bg L xs 245 17 [(0, .ref 37), (1, .int v1), (2, .int s.1)] [] LY88 s.2 R := by
  refine loop_B (fun s => Jm_drift_L17 v1 s.1 s.2) (fun s : Int32 × Hp => Bg L xs 245 17 [(0, .ref 37), (1, .int v1), (2, .int s.1)] [] LY88 s.2 R) C (fun s o e => ?_) n s o e hC
  intro hK
  refine BJm_drift_L17_s L xs v1 R s.1 s.2 o (fun s q => by subst q; exact hK) (fun t q => by subst q; exact hE t hK) e
set_option maxRecDepth 100000 in
theorem BJm_drift (L : Nat) (xs : Nat → Int32) (v1 : Int32) (h : Hp) (o : Int32 × Hp) (e : Jm_drift v1 h = some o) : Bg L xs 245 0 [(0, .ref 37), (1, .int v1)] [] LY88 h ([.int o.1], LY88, o.2) := by
  obtain ⟨R, hR⟩ : ∃ R : List Value × Lay × Hp, R = ([.int o.1], LY88, o.2) := ⟨_, rfl⟩
  rw [← hR]
  refine seg_Bg (pc' := 6) (lv' := [(0, .ref 37), (1, .int v1)]) (st' := [.long 6, .long 1, .long (Int32.toInt64 v1)]) (lay' := LY88) (h' := h) 4 rfl ?_
  refine call_Bg (a := 166) (la := [(0, .long (Int32.toInt64 v1)), (2, .long 1), (4, .long 6)]) (np := 9) (lv' := [(0, .ref 37), (1, .int v1)]) (rest := []) (res := fun r => ([.int r], LY88, h)) rfl e (fun r e => BJm_in L xs (Int32.toInt64 v1) 1 6 LY88 h r e) (fun c1 e => ?_)
  show Bg L xs 245 9 [(0, .ref 37), (1, .int v1)] [.int c1] LY88 h R
  refine seg_Bg (pc' := (if c1 = 0 then 12 else 15)) (lv' := [(0, .ref 37), (1, .int v1)]) (st' := []) (lay' := LY88) (h' := h) 1 rfl ?_
  refine pc_ite e (fun e => ?_) (fun e => ?_)
  · refine seg_Bg (pc' := 14) (lv' := [(0, .ref 37), (1, .int v1)]) (st' := [.int (-1000000002)]) (lay' := LY88) (h' := h) 1 rfl ?_
    rw [hR, ← Option.some.inj e]; exact ret_Bg rfl
  · refine seg_Bg (pc' := 17) (lv' := [(0, .ref 37), (1, .int v1), (2, .int 0)]) (st' := []) (lay' := LY88) (h' := h) 2 rfl ?_
    obtain ⟨t4o, et4o, e⟩ := bd_s e
    refine BJm_drift_L17 L xs v1 R (fun (t4 : Int32 × Hp) => (some (t4.2 38 0, t4.2)) = some o) (fun t4 e => ?_) 1000000 (0, h) _ et4o e
    refine seg_Bg (pc' := 57) (lv' := [(0, .ref 37), (1, .int v1), (2, .int t4.1)]) (st' := [.int (t4.2 38 0)]) (lay' := LY88) (h' := t4.2) 4 rfl ?_
    rw [hR, ← Option.some.inj e]; exact ret_Bg rfl

set_option maxRecDepth 100000 in
theorem BJsh_restart (L : Nat) (xs : Nat → Int32) (v1 : Int32) (h : Hp) (o : Hp) (e : Jsh_restart v1 h = some o) : Bg L xs 102 0 [(0, .ref 29), (1, .int v1)] [] LY88 h ([], LY88, o) := by
  obtain ⟨R, hR⟩ : ∃ R : List Value × Lay × Hp, R = ([], LY88, o) := ⟨_, rfl⟩
  rw [← hR]
  refine seg_Bg (pc' := 2) (lv' := [(0, .ref 29), (1, .int v1)]) (st' := [.int 0, .ref 29]) (lay' := LY88) (h' := h) 2 rfl ?_
  refine put_Bg (pc' := 5) (lv' := [(0, .ref 29), (1, .int v1)]) (st' := []) (lay' := LY88) (x := hset h 29 1 0) rfl e fun h1 e => ?_
  refine seg_Bg (pc' := 7) (lv' := [(0, .ref 29), (1, .int v1)]) (st' := [.int v1, .ref 29]) (lay' := LY88) (h' := h1) 2 rfl ?_
  refine put_Bg (pc' := 10) (lv' := [(0, .ref 29), (1, .int v1)]) (st' := []) (lay' := LY88) (x := hset h1 29 2 v1) rfl e fun h2 e => ?_
  rw [hR, ← Option.some.inj e]; exact ret_Bg rfl

set_option maxRecDepth 100000 in
theorem BJpa_load_L23_s (L : Nat) (xs : Nat → Int32) (v1 : Int32) (R : List Value × Lay × Hp) (v3 : Int32) (h : Hp) (o : ((Int32 × Hp) ⊕ (Int32 × Hp))) (hH : ∀ s : Int32 × Hp, o = .inl s → Bg L xs 59 23 [(0, .ref 31), (1, .int v1), (2, .ref 29), (3, .int s.1)] [] LY88 s.2 R) (hE : ∀ t : Int32 × Hp, o = .inr t → Bg L xs 59 61 [(0, .ref 31), (1, .int v1), (2, .ref 29), (3, .int t.1)] [] LY88 t.2 R) (e : Jpa_load_L23 v1 v3 h = some o) : Bg L xs 59 23 [(0, .ref 31), (1, .int v1), (2, .ref 29), (3, .int v3)] [] LY88 h R := by
  refine seg_Bg (pc' := 29) (lv' := [(0, .ref 31), (1, .int v1), (2, .ref 29), (3, .int v3)]) (st' := [.int v1, .ref 32, .int v3]) (lay' := LY88) (h' := h) 4 rfl ?_
  refine gd_Bg (pc' := 30) (lv' := [(0, .ref 31), (1, .int v1), (2, .ref 29), (3, .int v3)]) (st' := [.int (h 32 (Int32.toNatClampNeg v1)), .int v3]) (lay' := LY88) (h' := h) (g := ibB v1 18) rfl e fun e => ?_
  refine seg_Bg (pc' := (if v3 < (h 32 (Int32.toNatClampNeg v1)) then 33 else 61)) (lv' := [(0, .ref 31), (1, .int v1), (2, .ref 29), (3, .int v3)]) (st' := []) (lay' := LY88) (h' := h) 1 rfl ?_
  refine pc_ite e (fun e => ?_) (fun e => ?_)
  · refine seg_Bg (pc' := (if v3 < 6 then 39 else 61)) (lv' := [(0, .ref 31), (1, .int v1), (2, .ref 29), (3, .int v3)]) (st' := []) (lay' := LY88) (h' := h) 3 rfl ?_
    refine pc_ite e (fun e => ?_) (fun e => ?_)
    · refine seg_Bg (pc' := 50) (lv' := [(0, .ref 31), (1, .int v1), (2, .ref 29), (3, .int v3)]) (st' := [.int ((v1 * (6 : Int32)) + v3), .ref 34, .ref 29]) (lay' := LY88) (h' := h) 8 rfl ?_
      refine gd_Bg (pc' := 51) (lv' := [(0, .ref 31), (1, .int v1), (2, .ref 29), (3, .int v3)]) (st' := [.int (h 34 (Int32.toNatClampNeg ((v1 * (6 : Int32)) + v3))), .ref 29]) (lay' := LY88) (h' := h) (g := ibB ((v1 * (6 : Int32)) + v3) 108) rfl e fun e => ?_
      refine call_Bg (a := 98) (la := [(0, .ref 29), (1, .int (h 34 (Int32.toNatClampNeg ((v1 * (6 : Int32)) + v3))))]) (np := 54) (lv' := [(0, .ref 31), (1, .int v1), (2, .ref 29), (3, .int v3)]) (rest := []) (res := fun r => ([.int r.1], LY88, r.2)) rfl e (fun r e => BJsh_add L xs (h 34 (Int32.toNatClampNeg ((v1 * (6 : Int32)) + v3))) h r e) (fun c2 e => ?_)
      show Bg L xs 59 54 [(0, .ref 31), (1, .int v1), (2, .ref 29), (3, .int v3)] [.int c2.1] LY88 c2.2 R
      refine seg_Bg (pc' := 23) (lv' := [(0, .ref 31), (1, .int v1), (2, .ref 29), (3, .int (v3 + 1))]) (st' := []) (lay' := LY88) (h' := c2.2) 3 rfl ?_
      exact hH (v3 + 1, c2.2) (Option.some.inj e).symm
    · exact hE (v3, h) (Option.some.inj e).symm
  · exact hE (v3, h) (Option.some.inj e).symm
theorem BJpa_load_L23 (L : Nat) (xs : Nat → Int32) (v1 : Int32) (R : List Value × Lay × Hp) (C : (Int32 × Hp) → Prop) (hE : ∀ t : Int32 × Hp, C t → Bg L xs 59 61 [(0, .ref 31), (1, .int v1), (2, .ref 29), (3, .int t.1)] [] LY88 t.2 R) (n : Nat) (s : Int32 × Hp) (o : (Int32 × Hp)) (e : loopN n (fun s => Jpa_load_L23 v1 s.1 s.2) s = some o) (hC : C o) : Bg L xs 59 23 [(0, .ref 31), (1, .int v1), (2, .ref 29), (3, .int s.1)] [] LY88 s.2 R := by
  refine loop_B (fun s => Jpa_load_L23 v1 s.1 s.2) (fun s : Int32 × Hp => Bg L xs 59 23 [(0, .ref 31), (1, .int v1), (2, .ref 29), (3, .int s.1)] [] LY88 s.2 R) C (fun s o e => ?_) n s o e hC
  intro hK
  refine BJpa_load_L23_s L xs v1 R s.1 s.2 o (fun s q => by subst q; exact hK) (fun t q => by subst q; exact hE t hK) e
set_option maxRecDepth 100000 in
theorem BJpa_load (L : Nat) (xs : Nat → Int32) (v1 : Int32) (h : Hp) (o : Hp) (e : Jpa_load v1 h = some o) : Bg L xs 59 0 [(0, .ref 31), (1, .int v1), (2, .ref 29)] [] LY88 h ([], LY88, o) := by
  obtain ⟨R, hR⟩ : ∃ R : List Value × Lay × Hp, R = ([], LY88, o) := ⟨_, rfl⟩
  rw [← hR]
  refine seg_Bg (pc' := (if v1 < 0 then 10 else 4)) (lv' := [(0, .ref 31), (1, .int v1), (2, .ref 29)]) (st' := []) (lay' := LY88) (h' := h) 2 rfl ?_
  refine pc_ite e (fun e => ?_) (fun e => ?_)
  · rw [hR, ← Option.some.inj e]; exact ret_Bg rfl
  · refine seg_Bg (pc' := (if v1 < 18 then 11 else 10)) (lv' := [(0, .ref 31), (1, .int v1), (2, .ref 29)]) (st' := []) (lay' := LY88) (h' := h) 3 rfl ?_
    refine pc_ite e (fun e => ?_) (fun e => ?_)
    · refine seg_Bg (pc' := 17) (lv' := [(0, .ref 31), (1, .int v1), (2, .ref 29)]) (st' := [.int v1, .ref 33, .ref 29]) (lay' := LY88) (h' := h) 4 rfl ?_
      refine gd_Bg (pc' := 18) (lv' := [(0, .ref 31), (1, .int v1), (2, .ref 29)]) (st' := [.int (h 33 (Int32.toNatClampNeg v1)), .ref 29]) (lay' := LY88) (h' := h) (g := ibB v1 18) rfl e fun e => ?_
      refine call_Bg (a := 102) (la := [(0, .ref 29), (1, .int (h 33 (Int32.toNatClampNeg v1)))]) (np := 21) (lv' := [(0, .ref 31), (1, .int v1), (2, .ref 29)]) (rest := []) (res := fun r => ([], LY88, r)) rfl e (fun r e => BJsh_restart L xs (h 33 (Int32.toNatClampNeg v1)) h r e) (fun c1 e => ?_)
      show Bg L xs 59 21 [(0, .ref 31), (1, .int v1), (2, .ref 29)] [] LY88 c1 R
      refine seg_Bg (pc' := 23) (lv' := [(0, .ref 31), (1, .int v1), (2, .ref 29), (3, .int 0)]) (st' := []) (lay' := LY88) (h' := c1) 2 rfl ?_
      obtain ⟨t3o, et3o, e⟩ := bd_s e
      refine BJpa_load_L23 L xs v1 R (fun (t3 : Int32 × Hp) => (some t3.2) = some o) (fun t3 e => ?_) 1000000 (0, c1) _ et3o e
      rw [hR, ← Option.some.inj e]; exact ret_Bg rfl
    · rw [hR, ← Option.some.inj e]; exact ret_Bg rfl

set_option maxRecDepth 100000 in
theorem BJpa_goBackBy (L : Nat) (xs : Nat → Int32) (v1 : Int32) (h : Hp) (o : Int32 × Hp) (e : Jpa_goBackBy v1 h = some o) : Bg L xs 55 0 [(0, .ref 31), (1, .int v1), (2, .ref 29)] [] LY88 h ([.int o.1], LY88, o.2) := by
  obtain ⟨R, hR⟩ : ∃ R : List Value × Lay × Hp, R = ([.int o.1], LY88, o.2) := ⟨_, rfl⟩
  rw [← hR]
  refine seg_Bg (pc' := (if v1 < 1 then 13 else 5)) (lv' := [(0, .ref 31), (1, .int v1), (2, .ref 29)]) (st' := []) (lay' := LY88) (h' := h) 3 rfl ?_
  refine pc_ite e (fun e => ?_) (fun e => ?_)
  · refine seg_Bg (pc' := 14) (lv' := [(0, .ref 31), (1, .int v1), (2, .ref 29)]) (st' := [.int 0]) (lay' := LY88) (h' := h) 1 rfl ?_
    rw [hR, ← Option.some.inj e]; exact ret_Bg rfl
  · refine seg_Bg (pc' := (if (h 31 3) < v1 then 13 else 15)) (lv' := [(0, .ref 31), (1, .int v1), (2, .ref 29)]) (st' := []) (lay' := LY88) (h' := h) 4 rfl ?_
    refine pc_ite e (fun e => ?_) (fun e => ?_)
    · refine seg_Bg (pc' := 14) (lv' := [(0, .ref 31), (1, .int v1), (2, .ref 29)]) (st' := [.int 0]) (lay' := LY88) (h' := h) 1 rfl ?_
      rw [hR, ← Option.some.inj e]; exact ret_Bg rfl
    · refine seg_Bg (pc' := 22) (lv' := [(0, .ref 31), (1, .int v1), (2, .ref 29)]) (st' := [.int ((h 31 3) - v1), .ref 31]) (lay' := LY88) (h' := h) 5 rfl ?_
      refine put_Bg (pc' := 25) (lv' := [(0, .ref 31), (1, .int v1), (2, .ref 29)]) (st' := []) (lay' := LY88) (x := hset h 31 3 ((h 31 3) - v1)) rfl e fun h1 e => ?_
      refine seg_Bg (pc' := 38) (lv' := [(0, .ref 31), (1, .int v1), (2, .ref 29)]) (st' := [.int ((((h1 31 4) + (16 : Int32)) - v1) - (((h1 31 4) + (16 : Int32)) - v1) / 16 * 16), .ref 31]) (lay' := LY88) (h' := h1) 9 rfl ?_
      refine put_Bg (pc' := 41) (lv' := [(0, .ref 31), (1, .int v1), (2, .ref 29)]) (st' := []) (lay' := LY88) (x := hset h1 31 4 ((((h1 31 4) + (16 : Int32)) - v1) - (((h1 31 4) + (16 : Int32)) - v1) / 16 * 16)) rfl e fun h2 e => ?_
      refine seg_Bg (pc' := 47) (lv' := [(0, .ref 31), (1, .int v1), (2, .ref 29)]) (st' := [.ref 29, .int (h2 31 4), .ref 31]) (lay' := LY88) (h' := h2) 4 rfl ?_
      refine call_Bg (a := 59) (la := [(0, .ref 31), (1, .int (h2 31 4)), (2, .ref 29)]) (np := 50) (lv' := [(0, .ref 31), (1, .int v1), (2, .ref 29)]) (rest := []) (res := fun r => ([], LY88, r)) rfl e (fun r e => BJpa_load L xs (h2 31 4) h2 r e) (fun c3 e => ?_)
      show Bg L xs 55 50 [(0, .ref 31), (1, .int v1), (2, .ref 29)] [] LY88 c3 R
      refine seg_Bg (pc' := 51) (lv' := [(0, .ref 31), (1, .int v1), (2, .ref 29)]) (st' := [.int 1]) (lay' := LY88) (h' := c3) 1 rfl ?_
      rw [hR, ← Option.some.inj e]; exact ret_Bg rfl

set_option maxRecDepth 100000 in
theorem BJyn_undo (L : Nat) (xs : Nat → Int32) (v1 : Int32) (h : Hp) (o : Int32 × Hp) (e : Jyn_undo v1 h = some o) : Bg L xs 152 0 [(0, .ref 0), (1, .int v1)] [] LY88 h ([.int o.1], LY88, o.2) := by
  obtain ⟨R, hR⟩ : ∃ R : List Value × Lay × Hp, R = ([.int o.1], LY88, o.2) := ⟨_, rfl⟩
  rw [← hR]
  refine seg_Bg (pc' := (if v1 < 1 then 11 else 5)) (lv' := [(0, .ref 0), (1, .int v1)]) (st' := []) (lay' := LY88) (h' := h) 3 rfl ?_
  refine pc_ite e (fun e => ?_) (fun e => ?_)
  · refine seg_Bg (pc' := 13) (lv' := [(0, .ref 0), (1, .int v1)]) (st' := [.int (-1000000002)]) (lay' := LY88) (h' := h) 1 rfl ?_
    rw [hR, ← Option.some.inj e]; exact ret_Bg rfl
  · refine seg_Bg (pc' := (if 16 < v1 then 11 else 14)) (lv' := [(0, .ref 0), (1, .int v1)]) (st' := []) (lay' := LY88) (h' := h) 3 rfl ?_
    refine pc_ite e (fun e => ?_) (fun e => ?_)
    · refine seg_Bg (pc' := 13) (lv' := [(0, .ref 0), (1, .int v1)]) (st' := [.int (-1000000002)]) (lay' := LY88) (h' := h) 1 rfl ?_
      rw [hR, ← Option.some.inj e]; exact ret_Bg rfl
    · refine seg_Bg (pc' := 23) (lv' := [(0, .ref 0), (1, .int v1)]) (st' := [.ref 29, .int v1, .ref 31]) (lay' := LY88) (h' := h) 5 rfl ?_
      refine call_Bg (a := 55) (la := [(0, .ref 31), (1, .int v1), (2, .ref 29)]) (np := 26) (lv' := [(0, .ref 0), (1, .int v1)]) (rest := []) (res := fun r => ([.int r.1], LY88, r.2)) rfl e (fun r e => BJpa_goBackBy L xs v1 h r e) (fun c1 e => ?_)
      show Bg L xs 152 26 [(0, .ref 0), (1, .int v1)] [.int c1.1] LY88 c1.2 R
      refine seg_Bg (pc' := (if c1.1 = 0 then 39 else 29)) (lv' := [(0, .ref 0), (1, .int v1)]) (st' := []) (lay' := LY88) (h' := c1.2) 1 rfl ?_
      refine pc_ite e (fun e => ?_) (fun e => ?_)
      · refine seg_Bg (pc' := 41) (lv' := [(0, .ref 0), (1, .int v1)]) (st' := [.int (-1000000003)]) (lay' := LY88) (h' := c1.2) 1 rfl ?_
        rw [hR, ← Option.some.inj e]; exact ret_Bg rfl
      · refine seg_Bg (pc' := 33) (lv' := [(0, .ref 0), (1, .int v1)]) (st' := [.ref 29]) (lay' := LY88) (h' := c1.2) 2 rfl ?_
        refine call_Bg (a := 92) (la := [(0, .ref 29)]) (np := 36) (lv' := [(0, .ref 0), (1, .int v1)]) (rest := []) (res := fun r => ([.int r], LY88, c1.2)) rfl e (fun r e => BJsh_size L xs c1.2 r e) (fun c2 e => ?_)
        show Bg L xs 152 36 [(0, .ref 0), (1, .int v1)] [.int c2] LY88 c1.2 R
        refine seg_Bg (pc' := 41) (lv' := [(0, .ref 0), (1, .int v1)]) (st' := [.int c2]) (lay' := LY88) (h' := c1.2) 1 rfl ?_
        rw [hR, ← Option.some.inj e]; exact ret_Bg rfl

set_option maxRecDepth 100000 in
theorem BJm_undo_L29_s (L : Nat) (xs : Nat → Int32) (v1 : Int32) (R : List Value × Lay × Hp) (v2 : Int32) (h : Hp) (o : ((Int32 × Hp) ⊕ (Int32 × Hp))) (hH : ∀ s : Int32 × Hp, o = .inl s → Bg L xs 246 29 [(0, .ref 37), (1, .int v1), (2, .int s.1)] [] LY88 s.2 R) (hE : ∀ t : Int32 × Hp, o = .inr t → Bg L xs 246 57 [(0, .ref 37), (1, .int v1), (2, .int t.1)] [] LY88 t.2 R) (e : Jm_undo_L29 v1 v2 h = some o) : Bg L xs 246 29 [(0, .ref 37), (1, .int v1), (2, .int v2)] [] LY88 h R := by
  refine seg_Bg (pc' := (if 16 < (v2 + v1) then 57 else 37)) (lv' := [(0, .ref 37), (1, .int v1), (2, .int v2)]) (st' := []) (lay' := LY88) (h' := h) 5 rfl ?_
  refine pc_ite e (fun e => ?_) (fun e => ?_)
  · exact hE (v2, h) (Option.some.inj e).symm
  · refine seg_Bg (pc' := 48) (lv' := [(0, .ref 37), (1, .int v1), (2, .int v2)]) (st' := [.int ((8 : Int32) * v2), .int ((8 : Int32) * (v2 + v1)), .ref 37]) (lay' := LY88) (h' := h) 9 rfl ?_
    refine call_Bg (a := 168) (la := [(0, .ref 37), (1, .int ((8 : Int32) * (v2 + v1))), (2, .int ((8 : Int32) * v2))]) (np := 51) (lv' := [(0, .ref 37), (1, .int v1), (2, .int v2)]) (rest := []) (res := fun r => ([], LY88, r)) rfl e (fun r e => BJm_copyRow L xs ((8 : Int32) * (v2 + v1)) ((8 : Int32) * v2) h r e) (fun c2 e => ?_)
    show Bg L xs 246 51 [(0, .ref 37), (1, .int v1), (2, .int v2)] [] LY88 c2 R
    refine seg_Bg (pc' := 29) (lv' := [(0, .ref 37), (1, .int v1), (2, .int (v2 + 1))]) (st' := []) (lay' := LY88) (h' := c2) 2 rfl ?_
    exact hH (v2 + 1, c2) (Option.some.inj e).symm
theorem BJm_undo_L29 (L : Nat) (xs : Nat → Int32) (v1 : Int32) (R : List Value × Lay × Hp) (C : (Int32 × Hp) → Prop) (hE : ∀ t : Int32 × Hp, C t → Bg L xs 246 57 [(0, .ref 37), (1, .int v1), (2, .int t.1)] [] LY88 t.2 R) (n : Nat) (s : Int32 × Hp) (o : (Int32 × Hp)) (e : loopN n (fun s => Jm_undo_L29 v1 s.1 s.2) s = some o) (hC : C o) : Bg L xs 246 29 [(0, .ref 37), (1, .int v1), (2, .int s.1)] [] LY88 s.2 R := by
  refine loop_B (fun s => Jm_undo_L29 v1 s.1 s.2) (fun s : Int32 × Hp => Bg L xs 246 29 [(0, .ref 37), (1, .int v1), (2, .int s.1)] [] LY88 s.2 R) C (fun s o e => ?_) n s o e hC
  intro hK
  refine BJm_undo_L29_s L xs v1 R s.1 s.2 o (fun s q => by subst q; exact hK) (fun t q => by subst q; exact hE t hK) e
set_option maxRecDepth 100000 in
theorem BJm_undo (L : Nat) (xs : Nat → Int32) (v1 : Int32) (h : Hp) (o : Int32 × Hp) (e : Jm_undo v1 h = some o) : Bg L xs 246 0 [(0, .ref 37), (1, .int v1)] [] LY88 h ([.int o.1], LY88, o.2) := by
  obtain ⟨R, hR⟩ : ∃ R : List Value × Lay × Hp, R = ([.int o.1], LY88, o.2) := ⟨_, rfl⟩
  rw [← hR]
  refine seg_Bg (pc' := 6) (lv' := [(0, .ref 37), (1, .int v1)]) (st' := [.long 16, .long 1, .long (Int32.toInt64 v1)]) (lay' := LY88) (h' := h) 4 rfl ?_
  refine call_Bg (a := 166) (la := [(0, .long (Int32.toInt64 v1)), (2, .long 1), (4, .long 16)]) (np := 9) (lv' := [(0, .ref 37), (1, .int v1)]) (rest := []) (res := fun r => ([.int r], LY88, h)) rfl e (fun r e => BJm_in L xs (Int32.toInt64 v1) 1 16 LY88 h r e) (fun c1 e => ?_)
  show Bg L xs 246 9 [(0, .ref 37), (1, .int v1)] [.int c1] LY88 h R
  refine seg_Bg (pc' := (if c1 = 0 then 12 else 15)) (lv' := [(0, .ref 37), (1, .int v1)]) (st' := []) (lay' := LY88) (h' := h) 1 rfl ?_
  refine pc_ite e (fun e => ?_) (fun e => ?_)
  · refine seg_Bg (pc' := 14) (lv' := [(0, .ref 37), (1, .int v1)]) (st' := [.int (-1000000002)]) (lay' := LY88) (h' := h) 1 rfl ?_
    rw [hR, ← Option.some.inj e]; exact ret_Bg rfl
  · refine seg_Bg (pc' := (if (h 37 1) < v1 then 23 else 27)) (lv' := [(0, .ref 37), (1, .int v1)]) (st' := []) (lay' := LY88) (h' := h) 4 rfl ?_
    refine pc_ite e (fun e => ?_) (fun e => ?_)
    · refine seg_Bg (pc' := 26) (lv' := [(0, .ref 37), (1, .int v1)]) (st' := [.int (-1000000003)]) (lay' := LY88) (h' := h) 1 rfl ?_
      rw [hR, ← Option.some.inj e]; exact ret_Bg rfl
    · refine seg_Bg (pc' := 29) (lv' := [(0, .ref 37), (1, .int v1), (2, .int 0)]) (st' := []) (lay' := LY88) (h' := h) 2 rfl ?_
      obtain ⟨t3o, et3o, e⟩ := bd_s e
      refine BJm_undo_L29 L xs v1 R (fun (t3 : Int32 × Hp) => (lt (hset t3.2 37 1 ((t3.2 37 1) - v1)) fun h4 => lt (hset h4 37 23 0) fun h5 => some (h5 38 0, h5)) = some o) (fun t3 e => ?_) 1000000 (0, h) _ et3o e
      refine seg_Bg (pc' := 64) (lv' := [(0, .ref 37), (1, .int v1), (2, .int t3.1)]) (st' := [.int ((t3.2 37 1) - v1), .ref 37]) (lay' := LY88) (h' := t3.2) 5 rfl ?_
      refine put_Bg (pc' := 67) (lv' := [(0, .ref 37), (1, .int v1), (2, .int t3.1)]) (st' := []) (lay' := LY88) (x := hset t3.2 37 1 ((t3.2 37 1) - v1)) rfl e fun h4 e => ?_
      refine seg_Bg (pc' := 69) (lv' := [(0, .ref 37), (1, .int v1), (2, .int t3.1)]) (st' := [.int 0, .ref 37]) (lay' := LY88) (h' := h4) 2 rfl ?_
      refine put_Bg (pc' := 72) (lv' := [(0, .ref 37), (1, .int v1), (2, .int t3.1)]) (st' := []) (lay' := LY88) (x := hset h4 37 23 0) rfl e fun h5 e => ?_
      refine seg_Bg (pc' := 78) (lv' := [(0, .ref 37), (1, .int v1), (2, .int t3.1)]) (st' := [.int (h5 38 0)]) (lay' := LY88) (h' := h5) 4 rfl ?_
      rw [hR, ← Option.some.inj e]; exact ret_Bg rfl

set_option maxRecDepth 100000 in
theorem BJbk_add (L : Nat) (xs : Nat → Int32) (v1 : Int32) (v2 : Int32) (h : Hp) (o : Int32 × Hp) (e : Jbk_add v1 v2 h = some o) : Bg L xs 3 0 [(0, .ref 26), (1, .int v1), (2, .int v2)] [] LY88 h ([.int o.1], LY88, o.2) := by
  obtain ⟨R, hR⟩ : ∃ R : List Value × Lay × Hp, R = ([.int o.1], LY88, o.2) := ⟨_, rfl⟩
  rw [← hR]
  refine seg_Bg (pc' := (if (h 26 2) < 0 then 16 else 7)) (lv' := [(0, .ref 26), (1, .int v1), (2, .int v2)]) (st' := []) (lay' := LY88) (h' := h) 3 rfl ?_
  refine pc_ite e (fun e => ?_) (fun e => ?_)
  · refine seg_Bg (pc' := 17) (lv' := [(0, .ref 26), (1, .int v1), (2, .int v2)]) (st' := [.int 0]) (lay' := LY88) (h' := h) 1 rfl ?_
    rw [hR, ← Option.some.inj e]; exact ret_Bg rfl
  · refine seg_Bg (pc' := (if (h 26 2) < 20 then 18 else 16)) (lv' := [(0, .ref 26), (1, .int v1), (2, .int v2)]) (st' := []) (lay' := LY88) (h' := h) 4 rfl ?_
    refine pc_ite e (fun e => ?_) (fun e => ?_)
    · refine seg_Bg (pc' := 27) (lv' := [(0, .ref 26), (1, .int v1), (2, .int v2)]) (st' := [.int v1, .int (h 26 2), .ref 27]) (lay' := LY88) (h' := h) 5 rfl ?_
      refine gp_Bg (pc' := 28) (lv' := [(0, .ref 26), (1, .int v1), (2, .int v2)]) (st' := []) (lay' := LY88) (x := hset h 27 (Int32.toNatClampNeg (h 26 2)) v1) (g := ibB (h 26 2) 20) rfl e fun h1 e => ?_
      refine seg_Bg (pc' := 37) (lv' := [(0, .ref 26), (1, .int v1), (2, .int v2)]) (st' := [.int v2, .int (h1 26 2), .ref 28]) (lay' := LY88) (h' := h1) 5 rfl ?_
      refine gp_Bg (pc' := 38) (lv' := [(0, .ref 26), (1, .int v1), (2, .int v2)]) (st' := []) (lay' := LY88) (x := hset h1 28 (Int32.toNatClampNeg (h1 26 2)) v2) (g := ibB (h1 26 2) 20) rfl e fun h2 e => ?_
      refine seg_Bg (pc' := 45) (lv' := [(0, .ref 26), (1, .int v1), (2, .int v2)]) (st' := [.int ((h2 26 2) + (1 : Int32)), .ref 26]) (lay' := LY88) (h' := h2) 5 rfl ?_
      refine put_Bg (pc' := 48) (lv' := [(0, .ref 26), (1, .int v1), (2, .int v2)]) (st' := []) (lay' := LY88) (x := hset h2 26 2 ((h2 26 2) + (1 : Int32))) rfl e fun h3 e => ?_
      refine seg_Bg (pc' := 49) (lv' := [(0, .ref 26), (1, .int v1), (2, .int v2)]) (st' := [.int 1]) (lay' := LY88) (h' := h3) 1 rfl ?_
      rw [hR, ← Option.some.inj e]; exact ret_Bg rfl
    · refine seg_Bg (pc' := 17) (lv' := [(0, .ref 26), (1, .int v1), (2, .int v2)]) (st' := [.int 0]) (lay' := LY88) (h' := h) 1 rfl ?_
      rw [hR, ← Option.some.inj e]; exact ret_Bg rfl

set_option maxRecDepth 100000 in
theorem BJyn_write (L : Nat) (xs : Nat → Int32) (v1 : Int32) (v2 : Int32) (h : Hp) (o : Int32 × Hp) (e : Jyn_write v1 v2 h = some o) : Bg L xs 153 0 [(0, .ref 0), (1, .int v1), (2, .int v2)] [] LY88 h ([.int o.1], LY88, o.2) := by
  obtain ⟨R, hR⟩ : ∃ R : List Value × Lay × Hp, R = ([.int o.1], LY88, o.2) := ⟨_, rfl⟩
  rw [← hR]
  refine seg_Bg (pc' := 1) (lv' := [(0, .ref 0), (1, .int v1), (2, .int v2)]) (st' := [.int v1]) (lay' := LY88) (h' := h) 1 rfl ?_
  refine call_Bg (a := 158) (la := [(0, .int v1)]) (np := 4) (lv' := [(0, .ref 0), (1, .int v1), (2, .int v2)]) (rest := []) (res := fun r => ([.int r], LY88, h)) rfl e (fun r e => BJyn_isCode L xs v1 LY88 h r e) (fun c1 e => ?_)
  show Bg L xs 153 4 [(0, .ref 0), (1, .int v1), (2, .int v2)] [.int c1] LY88 h R
  refine seg_Bg (pc' := (if c1 = 0 then 7 else 10)) (lv' := [(0, .ref 0), (1, .int v1), (2, .int v2)]) (st' := []) (lay' := LY88) (h' := h) 1 rfl ?_
  refine pc_ite e (fun e => ?_) (fun e => ?_)
  · refine seg_Bg (pc' := 9) (lv' := [(0, .ref 0), (1, .int v1), (2, .int v2)]) (st' := [.int (-1000000002)]) (lay' := LY88) (h' := h) 1 rfl ?_
    rw [hR, ← Option.some.inj e]; exact ret_Bg rfl
  · refine seg_Bg (pc' := 16) (lv' := [(0, .ref 0), (1, .int v1), (2, .int v2)]) (st' := [.int v2, .int v1, .ref 26]) (lay' := LY88) (h' := h) 4 rfl ?_
    refine call_Bg (a := 3) (la := [(0, .ref 26), (1, .int v1), (2, .int v2)]) (np := 19) (lv' := [(0, .ref 0), (1, .int v1), (2, .int v2)]) (rest := []) (res := fun r => ([.int r.1], LY88, r.2)) rfl e (fun r e => BJbk_add L xs v1 v2 h r e) (fun c2 e => ?_)
    show Bg L xs 153 19 [(0, .ref 0), (1, .int v1), (2, .int v2)] [.int c2.1] LY88 c2.2 R
    refine seg_Bg (pc' := (if c2.1 = 0 then 32 else 22)) (lv' := [(0, .ref 0), (1, .int v1), (2, .int v2)]) (st' := []) (lay' := LY88) (h' := c2.2) 1 rfl ?_
    refine pc_ite e (fun e => ?_) (fun e => ?_)
    · refine seg_Bg (pc' := 34) (lv' := [(0, .ref 0), (1, .int v1), (2, .int v2)]) (st' := [.int (-1000000004)]) (lay' := LY88) (h' := c2.2) 1 rfl ?_
      rw [hR, ← Option.some.inj e]; exact ret_Bg rfl
    · refine seg_Bg (pc' := 26) (lv' := [(0, .ref 0), (1, .int v1), (2, .int v2)]) (st' := [.ref 26]) (lay' := LY88) (h' := c2.2) 2 rfl ?_
      refine call_Bg (a := 1) (la := [(0, .ref 26)]) (np := 29) (lv' := [(0, .ref 0), (1, .int v1), (2, .int v2)]) (rest := []) (res := fun r => ([.int r], LY88, c2.2)) rfl e (fun r e => BJbk_size L xs c2.2 r e) (fun c3 e => ?_)
      show Bg L xs 153 29 [(0, .ref 0), (1, .int v1), (2, .int v2)] [.int c3] LY88 c2.2 R
      refine seg_Bg (pc' := 34) (lv' := [(0, .ref 0), (1, .int v1), (2, .int v2)]) (st' := [.int c3]) (lay' := LY88) (h' := c2.2) 1 rfl ?_
      rw [hR, ← Option.some.inj e]; exact ret_Bg rfl

set_option maxRecDepth 100000 in
theorem BJm_write (L : Nat) (xs : Nat → Int32) (v1 : Int32) (v2 : Int32) (h : Hp) (o : Int32 × Hp) (e : Jm_write v1 v2 h = some o) : Bg L xs 247 0 [(0, .ref 37), (1, .int v1), (2, .int v2)] [] LY88 h ([.int o.1], LY88, o.2) := by
  obtain ⟨R, hR⟩ : ∃ R : List Value × Lay × Hp, R = ([.int o.1], LY88, o.2) := ⟨_, rfl⟩
  rw [← hR]
  refine seg_Bg (pc' := 6) (lv' := [(0, .ref 37), (1, .int v1), (2, .int v2)]) (st' := [.long 255, .long 0, .long (Int32.toInt64 v1)]) (lay' := LY88) (h' := h) 4 rfl ?_
  refine call_Bg (a := 166) (la := [(0, .long (Int32.toInt64 v1)), (2, .long 0), (4, .long 255)]) (np := 9) (lv' := [(0, .ref 37), (1, .int v1), (2, .int v2)]) (rest := []) (res := fun r => ([.int r], LY88, h)) rfl e (fun r e => BJm_in L xs (Int32.toInt64 v1) 0 255 LY88 h r e) (fun c1 e => ?_)
  show Bg L xs 247 9 [(0, .ref 37), (1, .int v1), (2, .int v2)] [.int c1] LY88 h R
  refine seg_Bg (pc' := (if c1 = 0 then 12 else 15)) (lv' := [(0, .ref 37), (1, .int v1), (2, .int v2)]) (st' := []) (lay' := LY88) (h' := h) 1 rfl ?_
  refine pc_ite e (fun e => ?_) (fun e => ?_)
  · refine seg_Bg (pc' := 14) (lv' := [(0, .ref 37), (1, .int v1), (2, .int v2)]) (st' := [.int (-1000000002)]) (lay' := LY88) (h' := h) 1 rfl ?_
    rw [hR, ← Option.some.inj e]; exact ret_Bg rfl
  · refine seg_Bg (pc' := (if (h 37 10) = 20 then 24 else 27)) (lv' := [(0, .ref 37), (1, .int v1), (2, .int v2)]) (st' := []) (lay' := LY88) (h' := h) 4 rfl ?_
    refine pc_ite e (fun e => ?_) (fun e => ?_)
    · refine seg_Bg (pc' := 26) (lv' := [(0, .ref 37), (1, .int v1), (2, .int v2)]) (st' := [.int (-1000000004)]) (lay' := LY88) (h' := h) 1 rfl ?_
      rw [hR, ← Option.some.inj e]; exact ret_Bg rfl
    · refine seg_Bg (pc' := 36) (lv' := [(0, .ref 37), (1, .int v1), (2, .int v2)]) (st' := [.int v1, .int (h 37 10), .ref 41]) (lay' := LY88) (h' := h) 5 rfl ?_
      refine gp_Bg (pc' := 37) (lv' := [(0, .ref 37), (1, .int v1), (2, .int v2)]) (st' := []) (lay' := LY88) (x := hset h 41 (Int32.toNatClampNeg (h 37 10)) v1) (g := ibB (h 37 10) 20) rfl e fun h2 e => ?_
      refine seg_Bg (pc' := 46) (lv' := [(0, .ref 37), (1, .int v1), (2, .int v2)]) (st' := [.int v2, .int (h2 37 10), .ref 42]) (lay' := LY88) (h' := h2) 5 rfl ?_
      refine gp_Bg (pc' := 47) (lv' := [(0, .ref 37), (1, .int v1), (2, .int v2)]) (st' := []) (lay' := LY88) (x := hset h2 42 (Int32.toNatClampNeg (h2 37 10)) v2) (g := ibB (h2 37 10) 20) rfl e fun h3 e => ?_
      refine seg_Bg (pc' := 54) (lv' := [(0, .ref 37), (1, .int v1), (2, .int v2)]) (st' := [.int ((h3 37 10) + (1 : Int32)), .ref 37]) (lay' := LY88) (h' := h3) 5 rfl ?_
      refine put_Bg (pc' := 57) (lv' := [(0, .ref 37), (1, .int v1), (2, .int v2)]) (st' := []) (lay' := LY88) (x := hset h3 37 10 ((h3 37 10) + (1 : Int32))) rfl e fun h4 e => ?_
      refine seg_Bg (pc' := 61) (lv' := [(0, .ref 37), (1, .int v1), (2, .int v2)]) (st' := [.int (h4 37 10)]) (lay' := LY88) (h' := h4) 2 rfl ?_
      rw [hR, ← Option.some.inj e]; exact ret_Bg rfl

set_option maxRecDepth 100000 in
theorem BJbk_clear (L : Nat) (xs : Nat → Int32) (h : Hp) (o : Hp) (e : Jbk_clear h = some o) : Bg L xs 2 0 [(0, .ref 26)] [] LY88 h ([], LY88, o) := by
  obtain ⟨R, hR⟩ : ∃ R : List Value × Lay × Hp, R = ([], LY88, o) := ⟨_, rfl⟩
  rw [← hR]
  refine seg_Bg (pc' := 2) (lv' := [(0, .ref 26)]) (st' := [.int 0, .ref 26]) (lay' := LY88) (h' := h) 2 rfl ?_
  refine put_Bg (pc' := 5) (lv' := [(0, .ref 26)]) (st' := []) (lay' := LY88) (x := hset h 26 2 0) rfl e fun h1 e => ?_
  rw [hR, ← Option.some.inj e]; exact ret_Bg rfl

set_option maxRecDepth 100000 in
theorem BJyn_tear (L : Nat) (xs : Nat → Int32) (h : Hp) (o : Int32 × Hp) (e : Jyn_tear h = some o) : Bg L xs 154 0 [(0, .ref 0)] [] LY88 h ([.int o.1], LY88, o.2) := by
  obtain ⟨R, hR⟩ : ∃ R : List Value × Lay × Hp, R = ([.int o.1], LY88, o.2) := ⟨_, rfl⟩
  rw [← hR]
  refine seg_Bg (pc' := 4) (lv' := [(0, .ref 0)]) (st' := [.ref 26]) (lay' := LY88) (h' := h) 2 rfl ?_
  refine call_Bg (a := 1) (la := [(0, .ref 26)]) (np := 7) (lv' := [(0, .ref 0)]) (rest := []) (res := fun r => ([.int r], LY88, h)) rfl e (fun r e => BJbk_size L xs h r e) (fun c1 e => ?_)
  show Bg L xs 154 7 [(0, .ref 0)] [.int c1] LY88 h R
  refine seg_Bg (pc' := 12) (lv' := [(0, .ref 0), (1, .int c1)]) (st' := [.ref 26]) (lay' := LY88) (h' := h) 3 rfl ?_
  refine call_Bg (a := 2) (la := [(0, .ref 26)]) (np := 15) (lv' := [(0, .ref 0), (1, .int c1)]) (rest := []) (res := fun r => ([], LY88, r)) rfl e (fun r e => BJbk_clear L xs h r e) (fun c2 e => ?_)
  show Bg L xs 154 15 [(0, .ref 0), (1, .int c1)] [] LY88 c2 R
  refine seg_Bg (pc' := 16) (lv' := [(0, .ref 0), (1, .int c1)]) (st' := [.int c1]) (lay' := LY88) (h' := c2) 1 rfl ?_
  rw [hR, ← Option.some.inj e]; exact ret_Bg rfl

set_option maxRecDepth 100000 in
theorem BJm_tear (L : Nat) (xs : Nat → Int32) (h : Hp) (o : Int32 × Hp) (e : Jm_tear h = some o) : Bg L xs 248 0 [(0, .ref 37)] [] LY88 h ([.int o.1], LY88, o.2) := by
  obtain ⟨R, hR⟩ : ∃ R : List Value × Lay × Hp, R = ([.int o.1], LY88, o.2) := ⟨_, rfl⟩
  rw [← hR]
  refine seg_Bg (pc' := 7) (lv' := [(0, .ref 37), (1, .int (h 37 10))]) (st' := [.int 0, .ref 37]) (lay' := LY88) (h' := h) 5 rfl ?_
  refine put_Bg (pc' := 10) (lv' := [(0, .ref 37), (1, .int (h 37 10))]) (st' := []) (lay' := LY88) (x := hset h 37 10 0) rfl e fun h1 e => ?_
  refine seg_Bg (pc' := 11) (lv' := [(0, .ref 37), (1, .int (h 37 10))]) (st' := [.int (h 37 10)]) (lay' := LY88) (h' := h1) 1 rfl ?_
  rw [hR, ← Option.some.inj e]; exact ret_Bg rfl

set_option maxRecDepth 100000 in
theorem BJyn_seed (L : Nat) (xs : Nat → Int32) (v1 : Int32) (h : Hp) (o : Int32 × Hp) (e : Jyn_seed v1 h = some o) : Bg L xs 155 0 [(0, .ref 0), (1, .int v1)] [] LY88 h ([.int o.1], LY88, o.2) := by
  obtain ⟨R, hR⟩ : ∃ R : List Value × Lay × Hp, R = ([.int o.1], LY88, o.2) := ⟨_, rfl⟩
  rw [← hR]
  refine seg_Bg (pc' := (if v1 < 0 then 4 else 7)) (lv' := [(0, .ref 0), (1, .int v1)]) (st' := []) (lay' := LY88) (h' := h) 2 rfl ?_
  refine pc_ite e (fun e => ?_) (fun e => ?_)
  · refine seg_Bg (pc' := 6) (lv' := [(0, .ref 0), (1, .int v1)]) (st' := [.int (-1000000002)]) (lay' := LY88) (h' := h) 1 rfl ?_
    rw [hR, ← Option.some.inj e]; exact ret_Bg rfl
  · refine seg_Bg (pc' := 14) (lv' := [(0, .ref 0), (1, .int v1), (2, .int (h 0 8))]) (st' := [.int v1, .ref 0]) (lay' := LY88) (h' := h) 5 rfl ?_
    refine put_Bg (pc' := 17) (lv' := [(0, .ref 0), (1, .int v1), (2, .int (h 0 8))]) (st' := []) (lay' := LY88) (x := hset h 0 8 v1) rfl e fun h1 e => ?_
    refine seg_Bg (pc' := 18) (lv' := [(0, .ref 0), (1, .int v1), (2, .int (h 0 8))]) (st' := [.int (h 0 8)]) (lay' := LY88) (h' := h1) 1 rfl ?_
    rw [hR, ← Option.some.inj e]; exact ret_Bg rfl

set_option maxRecDepth 100000 in
theorem BJm_seed (L : Nat) (xs : Nat → Int32) (v1 : Int32) (h : Hp) (o : Int32 × Hp) (e : Jm_seed v1 h = some o) : Bg L xs 249 0 [(0, .ref 37), (1, .int v1)] [] LY88 h ([.int o.1], LY88, o.2) := by
  obtain ⟨R, hR⟩ : ∃ R : List Value × Lay × Hp, R = ([.int o.1], LY88, o.2) := ⟨_, rfl⟩
  rw [← hR]
  refine seg_Bg (pc' := (if v1 < 0 then 4 else 7)) (lv' := [(0, .ref 37), (1, .int v1)]) (st' := []) (lay' := LY88) (h' := h) 2 rfl ?_
  refine pc_ite e (fun e => ?_) (fun e => ?_)
  · refine seg_Bg (pc' := 6) (lv' := [(0, .ref 37), (1, .int v1)]) (st' := [.int (-1000000002)]) (lay' := LY88) (h' := h) 1 rfl ?_
    rw [hR, ← Option.some.inj e]; exact ret_Bg rfl
  · refine seg_Bg (pc' := 14) (lv' := [(0, .ref 37), (1, .int v1), (2, .int (h 37 3))]) (st' := [.int v1, .ref 37]) (lay' := LY88) (h' := h) 5 rfl ?_
    refine put_Bg (pc' := 17) (lv' := [(0, .ref 37), (1, .int v1), (2, .int (h 37 3))]) (st' := []) (lay' := LY88) (x := hset h 37 3 v1) rfl e fun h1 e => ?_
    refine seg_Bg (pc' := 18) (lv' := [(0, .ref 37), (1, .int v1), (2, .int (h 37 3))]) (st' := [.int (h 37 3)]) (lay' := LY88) (h' := h1) 1 rfl ?_
    rw [hR, ← Option.some.inj e]; exact ret_Bg rfl

set_option maxRecDepth 100000 in
theorem BJpa_saveImage (L : Nat) (xs : Nat → Int32) (v1 : Int32) (h : Hp) (o : Hp) (e : Jpa_saveImage v1 h = some o) : Bg L xs 56 0 [(0, .ref 31), (1, .int v1), (2, .ref 29)] [] LY88 h ([], LY88, o) := by
  obtain ⟨R, hR⟩ : ∃ R : List Value × Lay × Hp, R = ([], LY88, o) := ⟨_, rfl⟩
  rw [← hR]
  refine seg_Bg (pc' := 6) (lv' := [(0, .ref 31), (1, .int v1), (2, .ref 29)]) (st' := [.ref 29, .int ((16 : Int32) + v1), .ref 31]) (lay' := LY88) (h' := h) 5 rfl ?_
  refine call_Bg (a := 58) (la := [(0, .ref 31), (1, .int ((16 : Int32) + v1)), (2, .ref 29)]) (np := 9) (lv' := [(0, .ref 31), (1, .int v1), (2, .ref 29)]) (rest := []) (res := fun r => ([], LY88, r)) rfl e (fun r e => BJpa_save L xs ((16 : Int32) + v1) h r e) (fun c1 e => ?_)
  show Bg L xs 56 9 [(0, .ref 31), (1, .int v1), (2, .ref 29)] [] LY88 c1 R
  refine seg_Bg (pc' := 11) (lv' := [(0, .ref 31), (1, .int v1), (2, .ref 29)]) (st' := [.int 0, .ref 31]) (lay' := LY88) (h' := c1) 2 rfl ?_
  refine put_Bg (pc' := 14) (lv' := [(0, .ref 31), (1, .int v1), (2, .ref 29)]) (st' := []) (lay' := LY88) (x := hset c1 31 3 0) rfl e fun h2 e => ?_
  rw [hR, ← Option.some.inj e]; exact ret_Bg rfl

set_option maxRecDepth 100000 in
theorem BJyn_keep (L : Nat) (xs : Nat → Int32) (v1 : Int32) (h : Hp) (o : Int32 × Hp) (e : Jyn_keep v1 h = some o) : Bg L xs 156 0 [(0, .ref 0), (1, .int v1)] [] LY88 h ([.int o.1], LY88, o.2) := by
  obtain ⟨R, hR⟩ : ∃ R : List Value × Lay × Hp, R = ([.int o.1], LY88, o.2) := ⟨_, rfl⟩
  rw [← hR]
  refine seg_Bg (pc' := (if v1 < 0 then 9 else 4)) (lv' := [(0, .ref 0), (1, .int v1)]) (st' := []) (lay' := LY88) (h' := h) 2 rfl ?_
  refine pc_ite e (fun e => ?_) (fun e => ?_)
  · refine seg_Bg (pc' := 11) (lv' := [(0, .ref 0), (1, .int v1)]) (st' := [.int (-1000000001)]) (lay' := LY88) (h' := h) 1 rfl ?_
    rw [hR, ← Option.some.inj e]; exact ret_Bg rfl
  · refine seg_Bg (pc' := (if v1 < 2 then 12 else 9)) (lv' := [(0, .ref 0), (1, .int v1)]) (st' := []) (lay' := LY88) (h' := h) 3 rfl ?_
    refine pc_ite e (fun e => ?_) (fun e => ?_)
    · refine seg_Bg (pc' := 21) (lv' := [(0, .ref 0), (1, .int v1)]) (st' := [.ref 29, .int v1, .ref 31]) (lay' := LY88) (h' := h) 5 rfl ?_
      refine call_Bg (a := 56) (la := [(0, .ref 31), (1, .int v1), (2, .ref 29)]) (np := 24) (lv' := [(0, .ref 0), (1, .int v1)]) (rest := []) (res := fun r => ([], LY88, r)) rfl e (fun r e => BJpa_saveImage L xs v1 h r e) (fun c1 e => ?_)
      show Bg L xs 156 24 [(0, .ref 0), (1, .int v1)] [] LY88 c1 R
      refine seg_Bg (pc' := 33) (lv' := [(0, .ref 0), (1, .int v1)]) (st' := [.int (c1 0 8), .int v1, .ref 35]) (lay' := LY88) (h' := c1) 5 rfl ?_
      refine gp_Bg (pc' := 34) (lv' := [(0, .ref 0), (1, .int v1)]) (st' := []) (lay' := LY88) (x := hset c1 35 (Int32.toNatClampNeg v1) (c1 0 8)) (g := ibB v1 2) rfl e fun h2 e => ?_
      refine seg_Bg (pc' := 40) (lv' := [(0, .ref 0), (1, .int v1)]) (st' := [.int 1, .int v1, .ref 36]) (lay' := LY88) (h' := h2) 4 rfl ?_
      refine gp_Bg (pc' := 41) (lv' := [(0, .ref 0), (1, .int v1)]) (st' := []) (lay' := LY88) (x := hset h2 36 (Int32.toNatClampNeg v1) (vp_nar .boolean 1)) (g := ibB v1 2) rfl e fun h3 e => ?_
      refine seg_Bg (pc' := 42) (lv' := [(0, .ref 0), (1, .int v1)]) (st' := [.int 1]) (lay' := LY88) (h' := h3) 1 rfl ?_
      rw [hR, ← Option.some.inj e]; exact ret_Bg rfl
    · refine seg_Bg (pc' := 11) (lv' := [(0, .ref 0), (1, .int v1)]) (st' := [.int (-1000000001)]) (lay' := LY88) (h' := h) 1 rfl ?_
      rw [hR, ← Option.some.inj e]; exact ret_Bg rfl

set_option maxRecDepth 100000 in
theorem BJm_keep (L : Nat) (xs : Nat → Int32) (v1 : Int32) (h : Hp) (o : Int32 × Hp) (e : Jm_keep v1 h = some o) : Bg L xs 250 0 [(0, .ref 37), (1, .int v1)] [] LY88 h ([.int o.1], LY88, o.2) := by
  obtain ⟨R, hR⟩ : ∃ R : List Value × Lay × Hp, R = ([.int o.1], LY88, o.2) := ⟨_, rfl⟩
  rw [← hR]
  refine seg_Bg (pc' := 4) (lv' := [(0, .ref 37), (1, .int v1)]) (st' := [.long 1, .long 0, .long (Int32.toInt64 v1)]) (lay' := LY88) (h' := h) 4 rfl ?_
  refine call_Bg (a := 166) (la := [(0, .long (Int32.toInt64 v1)), (2, .long 0), (4, .long 1)]) (np := 7) (lv' := [(0, .ref 37), (1, .int v1)]) (rest := []) (res := fun r => ([.int r], LY88, h)) rfl e (fun r e => BJm_in L xs (Int32.toInt64 v1) 0 1 LY88 h r e) (fun c1 e => ?_)
  show Bg L xs 250 7 [(0, .ref 37), (1, .int v1)] [.int c1] LY88 h R
  refine seg_Bg (pc' := (if c1 = 0 then 10 else 14)) (lv' := [(0, .ref 37), (1, .int v1)]) (st' := []) (lay' := LY88) (h' := h) 1 rfl ?_
  refine pc_ite e (fun e => ?_) (fun e => ?_)
  · refine seg_Bg (pc' := 13) (lv' := [(0, .ref 37), (1, .int v1)]) (st' := [.int (-1000000001)]) (lay' := LY88) (h' := h) 1 rfl ?_
    rw [hR, ← Option.some.inj e]; exact ret_Bg rfl
  · refine seg_Bg (pc' := 24) (lv' := [(0, .ref 37), (1, .int v1)]) (st' := [.int ((136 : Int32) + ((8 : Int32) * v1)), .int 0, .ref 37]) (lay' := LY88) (h' := h) 7 rfl ?_
    refine call_Bg (a := 168) (la := [(0, .ref 37), (1, .int 0), (2, .int ((136 : Int32) + ((8 : Int32) * v1)))]) (np := 27) (lv' := [(0, .ref 37), (1, .int v1)]) (rest := []) (res := fun r => ([], LY88, r)) rfl e (fun r e => BJm_copyRow L xs 0 ((136 : Int32) + ((8 : Int32) * v1)) h r e) (fun c2 e => ?_)
    show Bg L xs 250 27 [(0, .ref 37), (1, .int v1)] [] LY88 c2 R
    refine seg_Bg (pc' := 36) (lv' := [(0, .ref 37), (1, .int v1)]) (st' := [.int (c2 37 3), .int v1, .ref 39]) (lay' := LY88) (h' := c2) 5 rfl ?_
    refine gp_Bg (pc' := 37) (lv' := [(0, .ref 37), (1, .int v1)]) (st' := []) (lay' := LY88) (x := hset c2 39 (Int32.toNatClampNeg v1) (c2 37 3)) (g := ibB v1 2) rfl e fun h3 e => ?_
    refine seg_Bg (pc' := 46) (lv' := [(0, .ref 37), (1, .int v1)]) (st' := [.int ((h3 37 2) ||| ((1 : Int32) <<< (v1 &&& 31) : Int32)), .ref 37]) (lay' := LY88) (h' := h3) 7 rfl ?_
    refine put_Bg (pc' := 49) (lv' := [(0, .ref 37), (1, .int v1)]) (st' := []) (lay' := LY88) (x := hset h3 37 2 ((h3 37 2) ||| ((1 : Int32) <<< (v1 &&& 31) : Int32))) rfl e fun h4 e => ?_
    refine seg_Bg (pc' := 51) (lv' := [(0, .ref 37), (1, .int v1)]) (st' := [.int 0, .ref 37]) (lay' := LY88) (h' := h4) 2 rfl ?_
    refine put_Bg (pc' := 54) (lv' := [(0, .ref 37), (1, .int v1)]) (st' := []) (lay' := LY88) (x := hset h4 37 1 0) rfl e fun h5 e => ?_
    refine seg_Bg (pc' := 55) (lv' := [(0, .ref 37), (1, .int v1)]) (st' := [.int 1]) (lay' := LY88) (h' := h5) 1 rfl ?_
    rw [hR, ← Option.some.inj e]; exact ret_Bg rfl

set_option maxRecDepth 100000 in
theorem BJpa_loadImage (L : Nat) (xs : Nat → Int32) (v1 : Int32) (h : Hp) (o : Hp) (e : Jpa_loadImage v1 h = some o) : Bg L xs 57 0 [(0, .ref 31), (1, .int v1), (2, .ref 29)] [] LY88 h ([], LY88, o) := by
  obtain ⟨R, hR⟩ : ∃ R : List Value × Lay × Hp, R = ([], LY88, o) := ⟨_, rfl⟩
  rw [← hR]
  refine seg_Bg (pc' := 6) (lv' := [(0, .ref 31), (1, .int v1), (2, .ref 29)]) (st' := [.ref 29, .int ((16 : Int32) + v1), .ref 31]) (lay' := LY88) (h' := h) 5 rfl ?_
  refine call_Bg (a := 59) (la := [(0, .ref 31), (1, .int ((16 : Int32) + v1)), (2, .ref 29)]) (np := 9) (lv' := [(0, .ref 31), (1, .int v1), (2, .ref 29)]) (rest := []) (res := fun r => ([], LY88, r)) rfl e (fun r e => BJpa_load L xs ((16 : Int32) + v1) h r e) (fun c1 e => ?_)
  show Bg L xs 57 9 [(0, .ref 31), (1, .int v1), (2, .ref 29)] [] LY88 c1 R
  refine seg_Bg (pc' := 11) (lv' := [(0, .ref 31), (1, .int v1), (2, .ref 29)]) (st' := [.int 0, .ref 31]) (lay' := LY88) (h' := c1) 2 rfl ?_
  refine put_Bg (pc' := 14) (lv' := [(0, .ref 31), (1, .int v1), (2, .ref 29)]) (st' := []) (lay' := LY88) (x := hset c1 31 3 0) rfl e fun h2 e => ?_
  rw [hR, ← Option.some.inj e]; exact ret_Bg rfl

set_option maxRecDepth 100000 in
theorem BJyn_goBack (L : Nat) (xs : Nat → Int32) (v1 : Int32) (h : Hp) (o : Int32 × Hp) (e : Jyn_goBack v1 h = some o) : Bg L xs 157 0 [(0, .ref 0), (1, .int v1)] [] LY88 h ([.int o.1], LY88, o.2) := by
  obtain ⟨R, hR⟩ : ∃ R : List Value × Lay × Hp, R = ([.int o.1], LY88, o.2) := ⟨_, rfl⟩
  rw [← hR]
  refine seg_Bg (pc' := (if v1 < 0 then 9 else 4)) (lv' := [(0, .ref 0), (1, .int v1)]) (st' := []) (lay' := LY88) (h' := h) 2 rfl ?_
  refine pc_ite e (fun e => ?_) (fun e => ?_)
  · refine seg_Bg (pc' := 11) (lv' := [(0, .ref 0), (1, .int v1)]) (st' := [.int (-1000000001)]) (lay' := LY88) (h' := h) 1 rfl ?_
    rw [hR, ← Option.some.inj e]; exact ret_Bg rfl
  · refine seg_Bg (pc' := (if v1 < 2 then 12 else 9)) (lv' := [(0, .ref 0), (1, .int v1)]) (st' := []) (lay' := LY88) (h' := h) 3 rfl ?_
    refine pc_ite e (fun e => ?_) (fun e => ?_)
    · refine seg_Bg (pc' := 17) (lv' := [(0, .ref 0), (1, .int v1)]) (st' := [.int v1, .ref 36]) (lay' := LY88) (h' := h) 3 rfl ?_
      refine gd_Bg (pc' := 18) (lv' := [(0, .ref 0), (1, .int v1)]) (st' := [.int (h 36 (Int32.toNatClampNeg v1))]) (lay' := LY88) (h' := h) (g := ibB v1 2) rfl e fun e => ?_
      refine seg_Bg (pc' := (if (h 36 (Int32.toNatClampNeg v1)) = 0 then 21 else 24)) (lv' := [(0, .ref 0), (1, .int v1)]) (st' := []) (lay' := LY88) (h' := h) 1 rfl ?_
      refine pc_ite e (fun e => ?_) (fun e => ?_)
      · refine seg_Bg (pc' := 23) (lv' := [(0, .ref 0), (1, .int v1)]) (st' := [.int (-1000000003)]) (lay' := LY88) (h' := h) 1 rfl ?_
        rw [hR, ← Option.some.inj e]; exact ret_Bg rfl
      · refine seg_Bg (pc' := 33) (lv' := [(0, .ref 0), (1, .int v1)]) (st' := [.ref 29, .int v1, .ref 31]) (lay' := LY88) (h' := h) 5 rfl ?_
        refine call_Bg (a := 57) (la := [(0, .ref 31), (1, .int v1), (2, .ref 29)]) (np := 36) (lv' := [(0, .ref 0), (1, .int v1)]) (rest := []) (res := fun r => ([], LY88, r)) rfl e (fun r e => BJpa_loadImage L xs v1 h r e) (fun c1 e => ?_)
        show Bg L xs 157 36 [(0, .ref 0), (1, .int v1)] [] LY88 c1 R
        refine seg_Bg (pc' := 42) (lv' := [(0, .ref 0), (1, .int v1)]) (st' := [.int v1, .ref 35, .ref 0]) (lay' := LY88) (h' := c1) 4 rfl ?_
        refine gd_Bg (pc' := 43) (lv' := [(0, .ref 0), (1, .int v1)]) (st' := [.int (c1 35 (Int32.toNatClampNeg v1)), .ref 0]) (lay' := LY88) (h' := c1) (g := ibB v1 2) rfl e fun e => ?_
        refine put_Bg (pc' := 46) (lv' := [(0, .ref 0), (1, .int v1)]) (st' := []) (lay' := LY88) (x := hset c1 0 8 (c1 35 (Int32.toNatClampNeg v1))) rfl e fun h2 e => ?_
        refine seg_Bg (pc' := 47) (lv' := [(0, .ref 0), (1, .int v1)]) (st' := [.int 1]) (lay' := LY88) (h' := h2) 1 rfl ?_
        rw [hR, ← Option.some.inj e]; exact ret_Bg rfl
    · refine seg_Bg (pc' := 11) (lv' := [(0, .ref 0), (1, .int v1)]) (st' := [.int (-1000000001)]) (lay' := LY88) (h' := h) 1 rfl ?_
      rw [hR, ← Option.some.inj e]; exact ret_Bg rfl

set_option maxRecDepth 100000 in
theorem BJm_goBack (L : Nat) (xs : Nat → Int32) (v1 : Int32) (h : Hp) (o : Int32 × Hp) (e : Jm_goBack v1 h = some o) : Bg L xs 251 0 [(0, .ref 37), (1, .int v1)] [] LY88 h ([.int o.1], LY88, o.2) := by
  obtain ⟨R, hR⟩ : ∃ R : List Value × Lay × Hp, R = ([.int o.1], LY88, o.2) := ⟨_, rfl⟩
  rw [← hR]
  refine seg_Bg (pc' := 4) (lv' := [(0, .ref 37), (1, .int v1)]) (st' := [.long 1, .long 0, .long (Int32.toInt64 v1)]) (lay' := LY88) (h' := h) 4 rfl ?_
  refine call_Bg (a := 166) (la := [(0, .long (Int32.toInt64 v1)), (2, .long 0), (4, .long 1)]) (np := 7) (lv' := [(0, .ref 37), (1, .int v1)]) (rest := []) (res := fun r => ([.int r], LY88, h)) rfl e (fun r e => BJm_in L xs (Int32.toInt64 v1) 0 1 LY88 h r e) (fun c1 e => ?_)
  show Bg L xs 251 7 [(0, .ref 37), (1, .int v1)] [.int c1] LY88 h R
  refine seg_Bg (pc' := (if c1 = 0 then 10 else 14)) (lv' := [(0, .ref 37), (1, .int v1)]) (st' := []) (lay' := LY88) (h' := h) 1 rfl ?_
  refine pc_ite e (fun e => ?_) (fun e => ?_)
  · refine seg_Bg (pc' := 13) (lv' := [(0, .ref 37), (1, .int v1)]) (st' := [.int (-1000000001)]) (lay' := LY88) (h' := h) 1 rfl ?_
    rw [hR, ← Option.some.inj e]; exact ret_Bg rfl
  · refine seg_Bg (pc' := 19) (lv' := [(0, .ref 37), (1, .int v1)]) (st' := [.int v1, .int (h 37 2)]) (lay' := LY88) (h' := h) 3 rfl ?_
    refine call_Bg (a := 167) (la := [(0, .int (h 37 2)), (1, .int v1)]) (np := 22) (lv' := [(0, .ref 37), (1, .int v1)]) (rest := []) (res := fun r => ([.int r], LY88, h)) rfl e (fun r e => BJm_has L xs (h 37 2) v1 LY88 h r e) (fun c2 e => ?_)
    show Bg L xs 251 22 [(0, .ref 37), (1, .int v1)] [.int c2] LY88 h R
    refine seg_Bg (pc' := (if c2 = 0 then 25 else 29)) (lv' := [(0, .ref 37), (1, .int v1)]) (st' := []) (lay' := LY88) (h' := h) 1 rfl ?_
    refine pc_ite e (fun e => ?_) (fun e => ?_)
    · refine seg_Bg (pc' := 28) (lv' := [(0, .ref 37), (1, .int v1)]) (st' := [.int (-1000000003)]) (lay' := LY88) (h' := h) 1 rfl ?_
      rw [hR, ← Option.some.inj e]; exact ret_Bg rfl
    · refine seg_Bg (pc' := 39) (lv' := [(0, .ref 37), (1, .int v1)]) (st' := [.int 0, .int ((136 : Int32) + ((8 : Int32) * v1)), .ref 37]) (lay' := LY88) (h' := h) 7 rfl ?_
      refine call_Bg (a := 168) (la := [(0, .ref 37), (1, .int ((136 : Int32) + ((8 : Int32) * v1))), (2, .int 0)]) (np := 42) (lv' := [(0, .ref 37), (1, .int v1)]) (rest := []) (res := fun r => ([], LY88, r)) rfl e (fun r e => BJm_copyRow L xs ((136 : Int32) + ((8 : Int32) * v1)) 0 h r e) (fun c3 e => ?_)
      show Bg L xs 251 42 [(0, .ref 37), (1, .int v1)] [] LY88 c3 R
      refine seg_Bg (pc' := 48) (lv' := [(0, .ref 37), (1, .int v1)]) (st' := [.int v1, .ref 39, .ref 37]) (lay' := LY88) (h' := c3) 4 rfl ?_
      refine gd_Bg (pc' := 49) (lv' := [(0, .ref 37), (1, .int v1)]) (st' := [.int (c3 39 (Int32.toNatClampNeg v1)), .ref 37]) (lay' := LY88) (h' := c3) (g := ibB v1 2) rfl e fun e => ?_
      refine put_Bg (pc' := 52) (lv' := [(0, .ref 37), (1, .int v1)]) (st' := []) (lay' := LY88) (x := hset c3 37 3 (c3 39 (Int32.toNatClampNeg v1))) rfl e fun h4 e => ?_
      refine seg_Bg (pc' := 54) (lv' := [(0, .ref 37), (1, .int v1)]) (st' := [.int 0, .ref 37]) (lay' := LY88) (h' := h4) 2 rfl ?_
      refine put_Bg (pc' := 57) (lv' := [(0, .ref 37), (1, .int v1)]) (st' := []) (lay' := LY88) (x := hset h4 37 1 0) rfl e fun h5 e => ?_
      refine seg_Bg (pc' := 59) (lv' := [(0, .ref 37), (1, .int v1)]) (st' := [.int 0, .ref 37]) (lay' := LY88) (h' := h5) 2 rfl ?_
      refine put_Bg (pc' := 62) (lv' := [(0, .ref 37), (1, .int v1)]) (st' := []) (lay' := LY88) (x := hset h5 37 23 0) rfl e fun h6 e => ?_
      refine seg_Bg (pc' := 63) (lv' := [(0, .ref 37), (1, .int v1)]) (st' := [.int 1]) (lay' := LY88) (h' := h6) 1 rfl ?_
      rw [hR, ← Option.some.inj e]; exact ret_Bg rfl

set_option maxRecDepth 100000 in
theorem BJlaw_law_L18_s (L : Nat) (xs : Nat → Int32) (R : List Value × Lay × Hp) (v3 : Int32) (h : Hp) (o : ((Int32 × Hp) ⊕ ((Int32 × Hp) ⊕ (Int32 × Hp)))) (hH : ∀ s : Int32 × Hp, o = .inl s → Bg L xs 252 18 [(0, .retAddr 0), (1, .ref 0), (2, .ref 37), (3, .int s.1)] [] LY88 s.2 R) (hE : ∀ t : Int32 × Hp, o = .inr (.inl t) → Bg L xs 252 923 [(0, .retAddr 0), (1, .ref 0), (2, .ref 37), (3, .int t.1)] [] LY88 t.2 R) (hR : ∀ r : Int32 × Hp, o = .inr (.inr r) → R = ([.int r.1], LY88, r.2)) (e : Jlaw_law_L18 L xs v3 h = some o) : Bg L xs 252 18 [(0, .retAddr 0), (1, .ref 0), (2, .ref 37), (3, .int v3)] [] LY88 h R := by
  refine seg_Bg (pc' := (if ((Int32.ofNat L) - (5 : Int32)) < v3 then 923 else 26)) (lv' := [(0, .retAddr 0), (1, .ref 0), (2, .ref 37), (3, .int v3)]) (st' := []) (lay' := LY88) (h' := h) 6 rfl ?_
  refine pc_ite e (fun e => ?_) (fun e => ?_)
  · exact hE (v3, h) (Option.some.inj e).symm
  · refine seg_Bg (pc' := 28) (lv' := [(0, .retAddr 0), (1, .ref 0), (2, .ref 37), (3, .int v3)]) (st' := [.int v3, .retAddr 0]) (lay' := LY88) (h' := h) 2 rfl ?_
    refine gd_Bg (pc' := 29) (lv' := [(0, .retAddr 0), (1, .ref 0), (2, .ref 37), (3, .int v3)]) (st' := [.int (xs (Int32.toNatClampNeg v3))]) (lay' := LY88) (h' := h) (g := (ibB v3 L && true)) rfl e fun e => ?_
    refine seg_Bg (pc' := (if ((xs (Int32.toNatClampNeg v3)) &&& (31 : Int32)) = 0 then 156 else if ((xs (Int32.toNatClampNeg v3)) &&& (31 : Int32)) = 1 then 179 else if ((xs (Int32.toNatClampNeg v3)) &&& (31 : Int32)) = 2 then 192 else if ((xs (Int32.toNatClampNeg v3)) &&& (31 : Int32)) = 3 then 205 else if ((xs (Int32.toNatClampNeg v3)) &&& (31 : Int32)) = 4 then 228 else if ((xs (Int32.toNatClampNeg v3)) &&& (31 : Int32)) = 5 then 261 else if ((xs (Int32.toNatClampNeg v3)) &&& (31 : Int32)) = 6 then 294 else if ((xs (Int32.toNatClampNeg v3)) &&& (31 : Int32)) = 7 then 327 else if ((xs (Int32.toNatClampNeg v3)) &&& (31 : Int32)) = 8 then 360 else if ((xs (Int32.toNatClampNeg v3)) &&& (31 : Int32)) = 9 then 383 else if ((xs (Int32.toNatClampNeg v3)) &&& (31 : Int32)) = 10 then 416 else if ((xs (Int32.toNatClampNeg v3)) &&& (31 : Int32)) = 11 then 449 else if ((xs (Int32.toNatClampNeg v3)) &&& (31 : Int32)) = 12 then 482 else if ((xs (Int32.toNatClampNeg v3)) &&& (31 : Int32)) = 13 then 515 else if ((xs (Int32.toNatClampNeg v3)) &&& (31 : Int32)) = 14 then 548 else if ((xs (Int32.toNatClampNeg v3)) &&& (31 : Int32)) = 15 then 591 else if ((xs (Int32.toNatClampNeg v3)) &&& (31 : Int32)) = 16 then 634 else if ((xs (Int32.toNatClampNeg v3)) &&& (31 : Int32)) = 17 then 687 else if ((xs (Int32.toNatClampNeg v3)) &&& (31 : Int32)) = 18 then 710 else if ((xs (Int32.toNatClampNeg v3)) &&& (31 : Int32)) = 19 then 733 else if ((xs (Int32.toNatClampNeg v3)) &&& (31 : Int32)) = 20 then 756 else if ((xs (Int32.toNatClampNeg v3)) &&& (31 : Int32)) = 21 then 779 else if ((xs (Int32.toNatClampNeg v3)) &&& (31 : Int32)) = 22 then 802 else if ((xs (Int32.toNatClampNeg v3)) &&& (31 : Int32)) = 23 then 835 else if ((xs (Int32.toNatClampNeg v3)) &&& (31 : Int32)) = 24 then 848 else if ((xs (Int32.toNatClampNeg v3)) &&& (31 : Int32)) = 25 then 871 else if ((xs (Int32.toNatClampNeg v3)) &&& (31 : Int32)) = 26 then 894 else 917)) (lv' := [(0, .retAddr 0), (1, .ref 0), (2, .ref 37), (3, .int v3)]) (st' := []) (lay' := LY88) (h' := h) 3 rfl ?_
    refine pc_ite e (fun e => ?_) (fun e => ?_)
    · refine seg_Bg (pc' := 161) (lv' := [(0, .retAddr 0), (1, .ref 0), (2, .ref 37), (3, .int v3)]) (st' := [.int (v3 + (1 : Int32)), .retAddr 0, .ref 0]) (lay' := LY88) (h' := h) 5 rfl ?_
      refine gd_Bg (pc' := 162) (lv' := [(0, .retAddr 0), (1, .ref 0), (2, .ref 37), (3, .int v3)]) (st' := [.int (xs (Int32.toNatClampNeg (v3 + (1 : Int32)))), .ref 0]) (lay' := LY88) (h' := h) (g := (ibB (v3 + (1 : Int32)) L && true)) rfl e fun e => ?_
      refine call_Bg (a := 131) (la := [(0, .ref 0), (1, .int (xs (Int32.toNatClampNeg (v3 + (1 : Int32)))))]) (np := 165) (lv' := [(0, .retAddr 0), (1, .ref 0), (2, .ref 37), (3, .int v3)]) (rest := []) (res := fun r => ([.int r.1], LY88, r.2)) rfl e (fun r e => BJyn_feed L xs (xs (Int32.toNatClampNeg (v3 + (1 : Int32)))) h r e) (fun c5 e => ?_)
      show Bg L xs 252 165 [(0, .retAddr 0), (1, .ref 0), (2, .ref 37), (3, .int v3)] [.int c5.1] LY88 c5.2 R
      refine seg_Bg (pc' := 170) (lv' := [(0, .retAddr 0), (1, .ref 0), (2, .ref 37), (3, .int v3)]) (st' := [.int (v3 + (1 : Int32)), .retAddr 0, .ref 37, .int c5.1]) (lay' := LY88) (h' := c5.2) 5 rfl ?_
      refine gd_Bg (pc' := 171) (lv' := [(0, .retAddr 0), (1, .ref 0), (2, .ref 37), (3, .int v3)]) (st' := [.int (xs (Int32.toNatClampNeg (v3 + (1 : Int32)))), .ref 37, .int c5.1]) (lay' := LY88) (h' := c5.2) (g := (ibB (v3 + (1 : Int32)) L && true)) rfl e fun e => ?_
      refine call_Bg (a := 216) (la := [(0, .ref 37), (1, .int (xs (Int32.toNatClampNeg (v3 + (1 : Int32)))))]) (np := 174) (lv' := [(0, .retAddr 0), (1, .ref 0), (2, .ref 37), (3, .int v3)]) (rest := [.int c5.1]) (res := fun r => ([.int r.1], LY88, r.2)) rfl e (fun r e => BJm_feed L xs (xs (Int32.toNatClampNeg (v3 + (1 : Int32)))) c5.2 r e) (fun c6 e => ?_)
      show Bg L xs 252 174 [(0, .retAddr 0), (1, .ref 0), (2, .ref 37), (3, .int v3)] [.int c6.1, .int c5.1] LY88 c6.2 R
      refine seg_Bg (pc' := (if c5.1 = c6.1 then 917 else 177)) (lv' := [(0, .retAddr 0), (1, .ref 0), (2, .ref 37), (3, .int v3)]) (st' := []) (lay' := LY88) (h' := c6.2) 1 rfl ?_
      refine pc_ite e (fun e => ?_) (fun e => ?_)
      · refine seg_Bg (pc' := 18) (lv' := [(0, .retAddr 0), (1, .ref 0), (2, .ref 37), (3, .int (v3 + 5))]) (st' := []) (lay' := LY88) (h' := c6.2) 2 rfl ?_
        exact hH (v3 + 5, c6.2) (Option.some.inj e).symm
      · refine seg_Bg (pc' := 178) (lv' := [(0, .retAddr 0), (1, .ref 0), (2, .ref 37), (3, .int v3)]) (st' := [.int 0]) (lay' := LY88) (h' := c6.2) 1 rfl ?_
        rw [hR (0, c6.2) (Option.some.inj e).symm]; exact ret_Bg rfl
    · refine pc_ite e (fun e => ?_) (fun e => ?_)
      · refine seg_Bg (pc' := 180) (lv' := [(0, .retAddr 0), (1, .ref 0), (2, .ref 37), (3, .int v3)]) (st' := [.ref 0]) (lay' := LY88) (h' := h) 1 rfl ?_
        refine call_Bg (a := 132) (la := [(0, .ref 0)]) (np := 183) (lv' := [(0, .retAddr 0), (1, .ref 0), (2, .ref 37), (3, .int v3)]) (rest := []) (res := fun r => ([.int r.1], LY88, r.2)) rfl e (fun r e => BJyn_tell L xs h r e) (fun c7 e => ?_)
        show Bg L xs 252 183 [(0, .retAddr 0), (1, .ref 0), (2, .ref 37), (3, .int v3)] [.int c7.1] LY88 c7.2 R
        refine seg_Bg (pc' := 184) (lv' := [(0, .retAddr 0), (1, .ref 0), (2, .ref 37), (3, .int v3)]) (st' := [.ref 37, .int c7.1]) (lay' := LY88) (h' := c7.2) 1 rfl ?_
        refine call_Bg (a := 218) (la := [(0, .ref 37)]) (np := 187) (lv' := [(0, .retAddr 0), (1, .ref 0), (2, .ref 37), (3, .int v3)]) (rest := [.int c7.1]) (res := fun r => ([.int r.1], LY88, r.2)) rfl e (fun r e => BJm_tell L xs c7.2 r e) (fun c8 e => ?_)
        show Bg L xs 252 187 [(0, .retAddr 0), (1, .ref 0), (2, .ref 37), (3, .int v3)] [.int c8.1, .int c7.1] LY88 c8.2 R
        refine seg_Bg (pc' := (if c7.1 = c8.1 then 917 else 190)) (lv' := [(0, .retAddr 0), (1, .ref 0), (2, .ref 37), (3, .int v3)]) (st' := []) (lay' := LY88) (h' := c8.2) 1 rfl ?_
        refine pc_ite e (fun e => ?_) (fun e => ?_)
        · refine seg_Bg (pc' := 18) (lv' := [(0, .retAddr 0), (1, .ref 0), (2, .ref 37), (3, .int (v3 + 5))]) (st' := []) (lay' := LY88) (h' := c8.2) 2 rfl ?_
          exact hH (v3 + 5, c8.2) (Option.some.inj e).symm
        · refine seg_Bg (pc' := 191) (lv' := [(0, .retAddr 0), (1, .ref 0), (2, .ref 37), (3, .int v3)]) (st' := [.int 0]) (lay' := LY88) (h' := c8.2) 1 rfl ?_
          rw [hR (0, c8.2) (Option.some.inj e).symm]; exact ret_Bg rfl
      · refine pc_ite e (fun e => ?_) (fun e => ?_)
        · refine seg_Bg (pc' := 193) (lv' := [(0, .retAddr 0), (1, .ref 0), (2, .ref 37), (3, .int v3)]) (st' := [.ref 0]) (lay' := LY88) (h' := h) 1 rfl ?_
          refine call_Bg (a := 133) (la := [(0, .ref 0)]) (np := 196) (lv' := [(0, .retAddr 0), (1, .ref 0), (2, .ref 37), (3, .int v3)]) (rest := []) (res := fun r => ([.int r], LY88, h)) rfl e (fun r e => BJyn_fault L xs h r e) (fun c9 e => ?_)
          show Bg L xs 252 196 [(0, .retAddr 0), (1, .ref 0), (2, .ref 37), (3, .int v3)] [.int c9] LY88 h R
          refine seg_Bg (pc' := 197) (lv' := [(0, .retAddr 0), (1, .ref 0), (2, .ref 37), (3, .int v3)]) (st' := [.ref 37, .int c9]) (lay' := LY88) (h' := h) 1 rfl ?_
          refine call_Bg (a := 219) (la := [(0, .ref 37)]) (np := 200) (lv' := [(0, .retAddr 0), (1, .ref 0), (2, .ref 37), (3, .int v3)]) (rest := [.int c9]) (res := fun r => ([.int r], LY88, h)) rfl e (fun r e => BJm_fault L xs h r e) (fun c10 e => ?_)
          show Bg L xs 252 200 [(0, .retAddr 0), (1, .ref 0), (2, .ref 37), (3, .int v3)] [.int c10, .int c9] LY88 h R
          refine seg_Bg (pc' := (if c9 = c10 then 917 else 203)) (lv' := [(0, .retAddr 0), (1, .ref 0), (2, .ref 37), (3, .int v3)]) (st' := []) (lay' := LY88) (h' := h) 1 rfl ?_
          refine pc_ite e (fun e => ?_) (fun e => ?_)
          · refine seg_Bg (pc' := 18) (lv' := [(0, .retAddr 0), (1, .ref 0), (2, .ref 37), (3, .int (v3 + 5))]) (st' := []) (lay' := LY88) (h' := h) 2 rfl ?_
            exact hH (v3 + 5, h) (Option.some.inj e).symm
          · refine seg_Bg (pc' := 204) (lv' := [(0, .retAddr 0), (1, .ref 0), (2, .ref 37), (3, .int v3)]) (st' := [.int 0]) (lay' := LY88) (h' := h) 1 rfl ?_
            rw [hR (0, h) (Option.some.inj e).symm]; exact ret_Bg rfl
        · refine pc_ite e (fun e => ?_) (fun e => ?_)
          · refine seg_Bg (pc' := 210) (lv' := [(0, .retAddr 0), (1, .ref 0), (2, .ref 37), (3, .int v3)]) (st' := [.int (v3 + (1 : Int32)), .retAddr 0, .ref 0]) (lay' := LY88) (h' := h) 5 rfl ?_
            refine gd_Bg (pc' := 211) (lv' := [(0, .retAddr 0), (1, .ref 0), (2, .ref 37), (3, .int v3)]) (st' := [.int (xs (Int32.toNatClampNeg (v3 + (1 : Int32)))), .ref 0]) (lay' := LY88) (h' := h) (g := (ibB (v3 + (1 : Int32)) L && true)) rfl e fun e => ?_
            refine call_Bg (a := 134) (la := [(0, .ref 0), (1, .int (xs (Int32.toNatClampNeg (v3 + (1 : Int32)))))]) (np := 214) (lv' := [(0, .retAddr 0), (1, .ref 0), (2, .ref 37), (3, .int v3)]) (rest := []) (res := fun r => ([.int r.1], LY88, r.2)) rfl e (fun r e => BJyn_told L xs (xs (Int32.toNatClampNeg (v3 + (1 : Int32)))) h r e) (fun c11 e => ?_)
            show Bg L xs 252 214 [(0, .retAddr 0), (1, .ref 0), (2, .ref 37), (3, .int v3)] [.int c11.1] LY88 c11.2 R
            refine seg_Bg (pc' := 219) (lv' := [(0, .retAddr 0), (1, .ref 0), (2, .ref 37), (3, .int v3)]) (st' := [.int (v3 + (1 : Int32)), .retAddr 0, .ref 37, .int c11.1]) (lay' := LY88) (h' := c11.2) 5 rfl ?_
            refine gd_Bg (pc' := 220) (lv' := [(0, .retAddr 0), (1, .ref 0), (2, .ref 37), (3, .int v3)]) (st' := [.int (xs (Int32.toNatClampNeg (v3 + (1 : Int32)))), .ref 37, .int c11.1]) (lay' := LY88) (h' := c11.2) (g := (ibB (v3 + (1 : Int32)) L && true)) rfl e fun e => ?_
            refine call_Bg (a := 222) (la := [(0, .ref 37), (1, .int (xs (Int32.toNatClampNeg (v3 + (1 : Int32)))))]) (np := 223) (lv' := [(0, .retAddr 0), (1, .ref 0), (2, .ref 37), (3, .int v3)]) (rest := [.int c11.1]) (res := fun r => ([.int r.1], LY88, r.2)) rfl e (fun r e => BJm_told L xs (xs (Int32.toNatClampNeg (v3 + (1 : Int32)))) c11.2 r e) (fun c12 e => ?_)
            show Bg L xs 252 223 [(0, .retAddr 0), (1, .ref 0), (2, .ref 37), (3, .int v3)] [.int c12.1, .int c11.1] LY88 c12.2 R
            refine seg_Bg (pc' := (if c11.1 = c12.1 then 917 else 226)) (lv' := [(0, .retAddr 0), (1, .ref 0), (2, .ref 37), (3, .int v3)]) (st' := []) (lay' := LY88) (h' := c12.2) 1 rfl ?_
            refine pc_ite e (fun e => ?_) (fun e => ?_)
            · refine seg_Bg (pc' := 18) (lv' := [(0, .retAddr 0), (1, .ref 0), (2, .ref 37), (3, .int (v3 + 5))]) (st' := []) (lay' := LY88) (h' := c12.2) 2 rfl ?_
              exact hH (v3 + 5, c12.2) (Option.some.inj e).symm
            · refine seg_Bg (pc' := 227) (lv' := [(0, .retAddr 0), (1, .ref 0), (2, .ref 37), (3, .int v3)]) (st' := [.int 0]) (lay' := LY88) (h' := c12.2) 1 rfl ?_
              rw [hR (0, c12.2) (Option.some.inj e).symm]; exact ret_Bg rfl
          · refine pc_ite e (fun e => ?_) (fun e => ?_)
            · refine seg_Bg (pc' := 233) (lv' := [(0, .retAddr 0), (1, .ref 0), (2, .ref 37), (3, .int v3)]) (st' := [.int (v3 + (1 : Int32)), .retAddr 0, .ref 0]) (lay' := LY88) (h' := h) 5 rfl ?_
              refine gd_Bg (pc' := 234) (lv' := [(0, .retAddr 0), (1, .ref 0), (2, .ref 37), (3, .int v3)]) (st' := [.int (xs (Int32.toNatClampNeg (v3 + (1 : Int32)))), .ref 0]) (lay' := LY88) (h' := h) (g := (ibB (v3 + (1 : Int32)) L && true)) rfl e fun e => ?_
              refine seg_Bg (pc' := 238) (lv' := [(0, .retAddr 0), (1, .ref 0), (2, .ref 37), (3, .int v3)]) (st' := [.int (v3 + (2 : Int32)), .retAddr 0, .int (xs (Int32.toNatClampNeg (v3 + (1 : Int32)))), .ref 0]) (lay' := LY88) (h' := h) 4 rfl ?_
              refine gd_Bg (pc' := 239) (lv' := [(0, .retAddr 0), (1, .ref 0), (2, .ref 37), (3, .int v3)]) (st' := [.int (xs (Int32.toNatClampNeg (v3 + (2 : Int32)))), .int (xs (Int32.toNatClampNeg (v3 + (1 : Int32)))), .ref 0]) (lay' := LY88) (h' := h) (g := (ibB (v3 + (2 : Int32)) L && true)) rfl e fun e => ?_
              refine call_Bg (a := 135) (la := [(0, .ref 0), (1, .int (xs (Int32.toNatClampNeg (v3 + (1 : Int32))))), (2, .int (xs (Int32.toNatClampNeg (v3 + (2 : Int32)))))]) (np := 242) (lv' := [(0, .retAddr 0), (1, .ref 0), (2, .ref 37), (3, .int v3)]) (rest := []) (res := fun r => ([.int r.1], LY88, r.2)) rfl e (fun r e => BJyn_function L xs (xs (Int32.toNatClampNeg (v3 + (1 : Int32)))) (xs (Int32.toNatClampNeg (v3 + (2 : Int32)))) h r e) (fun c13 e => ?_)
              show Bg L xs 252 242 [(0, .retAddr 0), (1, .ref 0), (2, .ref 37), (3, .int v3)] [.int c13.1] LY88 c13.2 R
              refine seg_Bg (pc' := 247) (lv' := [(0, .retAddr 0), (1, .ref 0), (2, .ref 37), (3, .int v3)]) (st' := [.int (v3 + (1 : Int32)), .retAddr 0, .ref 37, .int c13.1]) (lay' := LY88) (h' := c13.2) 5 rfl ?_
              refine gd_Bg (pc' := 248) (lv' := [(0, .retAddr 0), (1, .ref 0), (2, .ref 37), (3, .int v3)]) (st' := [.int (xs (Int32.toNatClampNeg (v3 + (1 : Int32)))), .ref 37, .int c13.1]) (lay' := LY88) (h' := c13.2) (g := (ibB (v3 + (1 : Int32)) L && true)) rfl e fun e => ?_
              refine seg_Bg (pc' := 252) (lv' := [(0, .retAddr 0), (1, .ref 0), (2, .ref 37), (3, .int v3)]) (st' := [.int (v3 + (2 : Int32)), .retAddr 0, .int (xs (Int32.toNatClampNeg (v3 + (1 : Int32)))), .ref 37, .int c13.1]) (lay' := LY88) (h' := c13.2) 4 rfl ?_
              refine gd_Bg (pc' := 253) (lv' := [(0, .retAddr 0), (1, .ref 0), (2, .ref 37), (3, .int v3)]) (st' := [.int (xs (Int32.toNatClampNeg (v3 + (2 : Int32)))), .int (xs (Int32.toNatClampNeg (v3 + (1 : Int32)))), .ref 37, .int c13.1]) (lay' := LY88) (h' := c13.2) (g := (ibB (v3 + (2 : Int32)) L && true)) rfl e fun e => ?_
              refine call_Bg (a := 226) (la := [(0, .ref 37), (1, .int (xs (Int32.toNatClampNeg (v3 + (1 : Int32))))), (2, .int (xs (Int32.toNatClampNeg (v3 + (2 : Int32)))))]) (np := 256) (lv' := [(0, .retAddr 0), (1, .ref 0), (2, .ref 37), (3, .int v3)]) (rest := [.int c13.1]) (res := fun r => ([.int r.1], LY88, r.2)) rfl e (fun r e => BJm_function L xs (xs (Int32.toNatClampNeg (v3 + (1 : Int32)))) (xs (Int32.toNatClampNeg (v3 + (2 : Int32)))) c13.2 r e) (fun c14 e => ?_)
              show Bg L xs 252 256 [(0, .retAddr 0), (1, .ref 0), (2, .ref 37), (3, .int v3)] [.int c14.1, .int c13.1] LY88 c14.2 R
              refine seg_Bg (pc' := (if c13.1 = c14.1 then 917 else 259)) (lv' := [(0, .retAddr 0), (1, .ref 0), (2, .ref 37), (3, .int v3)]) (st' := []) (lay' := LY88) (h' := c14.2) 1 rfl ?_
              refine pc_ite e (fun e => ?_) (fun e => ?_)
              · refine seg_Bg (pc' := 18) (lv' := [(0, .retAddr 0), (1, .ref 0), (2, .ref 37), (3, .int (v3 + 5))]) (st' := []) (lay' := LY88) (h' := c14.2) 2 rfl ?_
                exact hH (v3 + 5, c14.2) (Option.some.inj e).symm
              · refine seg_Bg (pc' := 260) (lv' := [(0, .retAddr 0), (1, .ref 0), (2, .ref 37), (3, .int v3)]) (st' := [.int 0]) (lay' := LY88) (h' := c14.2) 1 rfl ?_
                rw [hR (0, c14.2) (Option.some.inj e).symm]; exact ret_Bg rfl
            · refine pc_ite e (fun e => ?_) (fun e => ?_)
              · refine seg_Bg (pc' := 266) (lv' := [(0, .retAddr 0), (1, .ref 0), (2, .ref 37), (3, .int v3)]) (st' := [.int (v3 + (1 : Int32)), .retAddr 0, .ref 0]) (lay' := LY88) (h' := h) 5 rfl ?_
                refine gd_Bg (pc' := 267) (lv' := [(0, .retAddr 0), (1, .ref 0), (2, .ref 37), (3, .int v3)]) (st' := [.int (xs (Int32.toNatClampNeg (v3 + (1 : Int32)))), .ref 0]) (lay' := LY88) (h' := h) (g := (ibB (v3 + (1 : Int32)) L && true)) rfl e fun e => ?_
                refine seg_Bg (pc' := 271) (lv' := [(0, .retAddr 0), (1, .ref 0), (2, .ref 37), (3, .int v3)]) (st' := [.int (v3 + (2 : Int32)), .retAddr 0, .int (xs (Int32.toNatClampNeg (v3 + (1 : Int32)))), .ref 0]) (lay' := LY88) (h' := h) 4 rfl ?_
                refine gd_Bg (pc' := 272) (lv' := [(0, .retAddr 0), (1, .ref 0), (2, .ref 37), (3, .int v3)]) (st' := [.int (xs (Int32.toNatClampNeg (v3 + (2 : Int32)))), .int (xs (Int32.toNatClampNeg (v3 + (1 : Int32)))), .ref 0]) (lay' := LY88) (h' := h) (g := (ibB (v3 + (2 : Int32)) L && true)) rfl e fun e => ?_
                refine call_Bg (a := 136) (la := [(0, .ref 0), (1, .int (xs (Int32.toNatClampNeg (v3 + (1 : Int32))))), (2, .int (xs (Int32.toNatClampNeg (v3 + (2 : Int32)))))]) (np := 275) (lv' := [(0, .retAddr 0), (1, .ref 0), (2, .ref 37), (3, .int v3)]) (rest := []) (res := fun r => ([.int r], LY88, h)) rfl e (fun r e => BJyn_fails L xs (xs (Int32.toNatClampNeg (v3 + (1 : Int32)))) (xs (Int32.toNatClampNeg (v3 + (2 : Int32)))) h r e) (fun c15 e => ?_)
                show Bg L xs 252 275 [(0, .retAddr 0), (1, .ref 0), (2, .ref 37), (3, .int v3)] [.int c15] LY88 h R
                refine seg_Bg (pc' := 280) (lv' := [(0, .retAddr 0), (1, .ref 0), (2, .ref 37), (3, .int v3)]) (st' := [.int (v3 + (1 : Int32)), .retAddr 0, .ref 37, .int c15]) (lay' := LY88) (h' := h) 5 rfl ?_
                refine gd_Bg (pc' := 281) (lv' := [(0, .retAddr 0), (1, .ref 0), (2, .ref 37), (3, .int v3)]) (st' := [.int (xs (Int32.toNatClampNeg (v3 + (1 : Int32)))), .ref 37, .int c15]) (lay' := LY88) (h' := h) (g := (ibB (v3 + (1 : Int32)) L && true)) rfl e fun e => ?_
                refine seg_Bg (pc' := 285) (lv' := [(0, .retAddr 0), (1, .ref 0), (2, .ref 37), (3, .int v3)]) (st' := [.int (v3 + (2 : Int32)), .retAddr 0, .int (xs (Int32.toNatClampNeg (v3 + (1 : Int32)))), .ref 37, .int c15]) (lay' := LY88) (h' := h) 4 rfl ?_
                refine gd_Bg (pc' := 286) (lv' := [(0, .retAddr 0), (1, .ref 0), (2, .ref 37), (3, .int v3)]) (st' := [.int (xs (Int32.toNatClampNeg (v3 + (2 : Int32)))), .int (xs (Int32.toNatClampNeg (v3 + (1 : Int32)))), .ref 37, .int c15]) (lay' := LY88) (h' := h) (g := (ibB (v3 + (2 : Int32)) L && true)) rfl e fun e => ?_
                refine call_Bg (a := 227) (la := [(0, .ref 37), (1, .int (xs (Int32.toNatClampNeg (v3 + (1 : Int32))))), (2, .int (xs (Int32.toNatClampNeg (v3 + (2 : Int32)))))]) (np := 289) (lv' := [(0, .retAddr 0), (1, .ref 0), (2, .ref 37), (3, .int v3)]) (rest := [.int c15]) (res := fun r => ([.int r], LY88, h)) rfl e (fun r e => BJm_fails L xs (xs (Int32.toNatClampNeg (v3 + (1 : Int32)))) (xs (Int32.toNatClampNeg (v3 + (2 : Int32)))) h r e) (fun c16 e => ?_)
                show Bg L xs 252 289 [(0, .retAddr 0), (1, .ref 0), (2, .ref 37), (3, .int v3)] [.int c16, .int c15] LY88 h R
                refine seg_Bg (pc' := (if c15 = c16 then 917 else 292)) (lv' := [(0, .retAddr 0), (1, .ref 0), (2, .ref 37), (3, .int v3)]) (st' := []) (lay' := LY88) (h' := h) 1 rfl ?_
                refine pc_ite e (fun e => ?_) (fun e => ?_)
                · refine seg_Bg (pc' := 18) (lv' := [(0, .retAddr 0), (1, .ref 0), (2, .ref 37), (3, .int (v3 + 5))]) (st' := []) (lay' := LY88) (h' := h) 2 rfl ?_
                  exact hH (v3 + 5, h) (Option.some.inj e).symm
                · refine seg_Bg (pc' := 293) (lv' := [(0, .retAddr 0), (1, .ref 0), (2, .ref 37), (3, .int v3)]) (st' := [.int 0]) (lay' := LY88) (h' := h) 1 rfl ?_
                  rw [hR (0, h) (Option.some.inj e).symm]; exact ret_Bg rfl
              · refine pc_ite e (fun e => ?_) (fun e => ?_)
                · refine seg_Bg (pc' := 299) (lv' := [(0, .retAddr 0), (1, .ref 0), (2, .ref 37), (3, .int v3)]) (st' := [.int (v3 + (1 : Int32)), .retAddr 0, .ref 0]) (lay' := LY88) (h' := h) 5 rfl ?_
                  refine gd_Bg (pc' := 300) (lv' := [(0, .retAddr 0), (1, .ref 0), (2, .ref 37), (3, .int v3)]) (st' := [.int (xs (Int32.toNatClampNeg (v3 + (1 : Int32)))), .ref 0]) (lay' := LY88) (h' := h) (g := (ibB (v3 + (1 : Int32)) L && true)) rfl e fun e => ?_
                  refine seg_Bg (pc' := 304) (lv' := [(0, .retAddr 0), (1, .ref 0), (2, .ref 37), (3, .int v3)]) (st' := [.int (v3 + (2 : Int32)), .retAddr 0, .int (xs (Int32.toNatClampNeg (v3 + (1 : Int32)))), .ref 0]) (lay' := LY88) (h' := h) 4 rfl ?_
                  refine gd_Bg (pc' := 305) (lv' := [(0, .retAddr 0), (1, .ref 0), (2, .ref 37), (3, .int v3)]) (st' := [.int (xs (Int32.toNatClampNeg (v3 + (2 : Int32)))), .int (xs (Int32.toNatClampNeg (v3 + (1 : Int32)))), .ref 0]) (lay' := LY88) (h' := h) (g := (ibB (v3 + (2 : Int32)) L && true)) rfl e fun e => ?_
                  refine call_Bg (a := 137) (la := [(0, .ref 0), (1, .int (xs (Int32.toNatClampNeg (v3 + (1 : Int32))))), (2, .int (xs (Int32.toNatClampNeg (v3 + (2 : Int32)))))]) (np := 308) (lv' := [(0, .retAddr 0), (1, .ref 0), (2, .ref 37), (3, .int v3)]) (rest := []) (res := fun r => ([.int r.1], LY88, r.2)) rfl e (fun r e => BJyn_cost L xs (xs (Int32.toNatClampNeg (v3 + (1 : Int32)))) (xs (Int32.toNatClampNeg (v3 + (2 : Int32)))) h r e) (fun c17 e => ?_)
                  show Bg L xs 252 308 [(0, .retAddr 0), (1, .ref 0), (2, .ref 37), (3, .int v3)] [.int c17.1] LY88 c17.2 R
                  refine seg_Bg (pc' := 313) (lv' := [(0, .retAddr 0), (1, .ref 0), (2, .ref 37), (3, .int v3)]) (st' := [.int (v3 + (1 : Int32)), .retAddr 0, .ref 37, .int c17.1]) (lay' := LY88) (h' := c17.2) 5 rfl ?_
                  refine gd_Bg (pc' := 314) (lv' := [(0, .retAddr 0), (1, .ref 0), (2, .ref 37), (3, .int v3)]) (st' := [.int (xs (Int32.toNatClampNeg (v3 + (1 : Int32)))), .ref 37, .int c17.1]) (lay' := LY88) (h' := c17.2) (g := (ibB (v3 + (1 : Int32)) L && true)) rfl e fun e => ?_
                  refine seg_Bg (pc' := 318) (lv' := [(0, .retAddr 0), (1, .ref 0), (2, .ref 37), (3, .int v3)]) (st' := [.int (v3 + (2 : Int32)), .retAddr 0, .int (xs (Int32.toNatClampNeg (v3 + (1 : Int32)))), .ref 37, .int c17.1]) (lay' := LY88) (h' := c17.2) 4 rfl ?_
                  refine gd_Bg (pc' := 319) (lv' := [(0, .retAddr 0), (1, .ref 0), (2, .ref 37), (3, .int v3)]) (st' := [.int (xs (Int32.toNatClampNeg (v3 + (2 : Int32)))), .int (xs (Int32.toNatClampNeg (v3 + (1 : Int32)))), .ref 37, .int c17.1]) (lay' := LY88) (h' := c17.2) (g := (ibB (v3 + (2 : Int32)) L && true)) rfl e fun e => ?_
                  refine call_Bg (a := 228) (la := [(0, .ref 37), (1, .int (xs (Int32.toNatClampNeg (v3 + (1 : Int32))))), (2, .int (xs (Int32.toNatClampNeg (v3 + (2 : Int32)))))]) (np := 322) (lv' := [(0, .retAddr 0), (1, .ref 0), (2, .ref 37), (3, .int v3)]) (rest := [.int c17.1]) (res := fun r => ([.int r.1], LY88, r.2)) rfl e (fun r e => BJm_cost L xs (xs (Int32.toNatClampNeg (v3 + (1 : Int32)))) (xs (Int32.toNatClampNeg (v3 + (2 : Int32)))) c17.2 r e) (fun c18 e => ?_)
                  show Bg L xs 252 322 [(0, .retAddr 0), (1, .ref 0), (2, .ref 37), (3, .int v3)] [.int c18.1, .int c17.1] LY88 c18.2 R
                  refine seg_Bg (pc' := (if c17.1 = c18.1 then 917 else 325)) (lv' := [(0, .retAddr 0), (1, .ref 0), (2, .ref 37), (3, .int v3)]) (st' := []) (lay' := LY88) (h' := c18.2) 1 rfl ?_
                  refine pc_ite e (fun e => ?_) (fun e => ?_)
                  · refine seg_Bg (pc' := 18) (lv' := [(0, .retAddr 0), (1, .ref 0), (2, .ref 37), (3, .int (v3 + 5))]) (st' := []) (lay' := LY88) (h' := c18.2) 2 rfl ?_
                    exact hH (v3 + 5, c18.2) (Option.some.inj e).symm
                  · refine seg_Bg (pc' := 326) (lv' := [(0, .retAddr 0), (1, .ref 0), (2, .ref 37), (3, .int v3)]) (st' := [.int 0]) (lay' := LY88) (h' := c18.2) 1 rfl ?_
                    rw [hR (0, c18.2) (Option.some.inj e).symm]; exact ret_Bg rfl
                · refine pc_ite e (fun e => ?_) (fun e => ?_)
                  · refine seg_Bg (pc' := 332) (lv' := [(0, .retAddr 0), (1, .ref 0), (2, .ref 37), (3, .int v3)]) (st' := [.int (v3 + (1 : Int32)), .retAddr 0, .ref 0]) (lay' := LY88) (h' := h) 5 rfl ?_
                    refine gd_Bg (pc' := 333) (lv' := [(0, .retAddr 0), (1, .ref 0), (2, .ref 37), (3, .int v3)]) (st' := [.int (xs (Int32.toNatClampNeg (v3 + (1 : Int32)))), .ref 0]) (lay' := LY88) (h' := h) (g := (ibB (v3 + (1 : Int32)) L && true)) rfl e fun e => ?_
                    refine seg_Bg (pc' := 337) (lv' := [(0, .retAddr 0), (1, .ref 0), (2, .ref 37), (3, .int v3)]) (st' := [.int (v3 + (2 : Int32)), .retAddr 0, .int (xs (Int32.toNatClampNeg (v3 + (1 : Int32)))), .ref 0]) (lay' := LY88) (h' := h) 4 rfl ?_
                    refine gd_Bg (pc' := 338) (lv' := [(0, .retAddr 0), (1, .ref 0), (2, .ref 37), (3, .int v3)]) (st' := [.int (xs (Int32.toNatClampNeg (v3 + (2 : Int32)))), .int (xs (Int32.toNatClampNeg (v3 + (1 : Int32)))), .ref 0]) (lay' := LY88) (h' := h) (g := (ibB (v3 + (2 : Int32)) L && true)) rfl e fun e => ?_
                    refine call_Bg (a := 138) (la := [(0, .ref 0), (1, .int (xs (Int32.toNatClampNeg (v3 + (1 : Int32))))), (2, .int (xs (Int32.toNatClampNeg (v3 + (2 : Int32)))))]) (np := 341) (lv' := [(0, .retAddr 0), (1, .ref 0), (2, .ref 37), (3, .int v3)]) (rest := []) (res := fun r => ([.int r.1], LY88, r.2)) rfl e (fun r e => BJyn_spell L xs (xs (Int32.toNatClampNeg (v3 + (1 : Int32)))) (xs (Int32.toNatClampNeg (v3 + (2 : Int32)))) h r e) (fun c19 e => ?_)
                    show Bg L xs 252 341 [(0, .retAddr 0), (1, .ref 0), (2, .ref 37), (3, .int v3)] [.int c19.1] LY88 c19.2 R
                    refine seg_Bg (pc' := 346) (lv' := [(0, .retAddr 0), (1, .ref 0), (2, .ref 37), (3, .int v3)]) (st' := [.int (v3 + (1 : Int32)), .retAddr 0, .ref 37, .int c19.1]) (lay' := LY88) (h' := c19.2) 5 rfl ?_
                    refine gd_Bg (pc' := 347) (lv' := [(0, .retAddr 0), (1, .ref 0), (2, .ref 37), (3, .int v3)]) (st' := [.int (xs (Int32.toNatClampNeg (v3 + (1 : Int32)))), .ref 37, .int c19.1]) (lay' := LY88) (h' := c19.2) (g := (ibB (v3 + (1 : Int32)) L && true)) rfl e fun e => ?_
                    refine seg_Bg (pc' := 351) (lv' := [(0, .retAddr 0), (1, .ref 0), (2, .ref 37), (3, .int v3)]) (st' := [.int (v3 + (2 : Int32)), .retAddr 0, .int (xs (Int32.toNatClampNeg (v3 + (1 : Int32)))), .ref 37, .int c19.1]) (lay' := LY88) (h' := c19.2) 4 rfl ?_
                    refine gd_Bg (pc' := 352) (lv' := [(0, .retAddr 0), (1, .ref 0), (2, .ref 37), (3, .int v3)]) (st' := [.int (xs (Int32.toNatClampNeg (v3 + (2 : Int32)))), .int (xs (Int32.toNatClampNeg (v3 + (1 : Int32)))), .ref 37, .int c19.1]) (lay' := LY88) (h' := c19.2) (g := (ibB (v3 + (2 : Int32)) L && true)) rfl e fun e => ?_
                    refine call_Bg (a := 230) (la := [(0, .ref 37), (1, .int (xs (Int32.toNatClampNeg (v3 + (1 : Int32))))), (2, .int (xs (Int32.toNatClampNeg (v3 + (2 : Int32)))))]) (np := 355) (lv' := [(0, .retAddr 0), (1, .ref 0), (2, .ref 37), (3, .int v3)]) (rest := [.int c19.1]) (res := fun r => ([.int r.1], LY88, r.2)) rfl e (fun r e => BJm_spell L xs (xs (Int32.toNatClampNeg (v3 + (1 : Int32)))) (xs (Int32.toNatClampNeg (v3 + (2 : Int32)))) c19.2 r e) (fun c20 e => ?_)
                    show Bg L xs 252 355 [(0, .retAddr 0), (1, .ref 0), (2, .ref 37), (3, .int v3)] [.int c20.1, .int c19.1] LY88 c20.2 R
                    refine seg_Bg (pc' := (if c19.1 = c20.1 then 917 else 358)) (lv' := [(0, .retAddr 0), (1, .ref 0), (2, .ref 37), (3, .int v3)]) (st' := []) (lay' := LY88) (h' := c20.2) 1 rfl ?_
                    refine pc_ite e (fun e => ?_) (fun e => ?_)
                    · refine seg_Bg (pc' := 18) (lv' := [(0, .retAddr 0), (1, .ref 0), (2, .ref 37), (3, .int (v3 + 5))]) (st' := []) (lay' := LY88) (h' := c20.2) 2 rfl ?_
                      exact hH (v3 + 5, c20.2) (Option.some.inj e).symm
                    · refine seg_Bg (pc' := 359) (lv' := [(0, .retAddr 0), (1, .ref 0), (2, .ref 37), (3, .int v3)]) (st' := [.int 0]) (lay' := LY88) (h' := c20.2) 1 rfl ?_
                      rw [hR (0, c20.2) (Option.some.inj e).symm]; exact ret_Bg rfl
                  · refine pc_ite e (fun e => ?_) (fun e => ?_)
                    · refine seg_Bg (pc' := 365) (lv' := [(0, .retAddr 0), (1, .ref 0), (2, .ref 37), (3, .int v3)]) (st' := [.int (v3 + (1 : Int32)), .retAddr 0, .ref 0]) (lay' := LY88) (h' := h) 5 rfl ?_
                      refine gd_Bg (pc' := 366) (lv' := [(0, .retAddr 0), (1, .ref 0), (2, .ref 37), (3, .int v3)]) (st' := [.int (xs (Int32.toNatClampNeg (v3 + (1 : Int32)))), .ref 0]) (lay' := LY88) (h' := h) (g := (ibB (v3 + (1 : Int32)) L && true)) rfl e fun e => ?_
                      refine call_Bg (a := 139) (la := [(0, .ref 0), (1, .int (xs (Int32.toNatClampNeg (v3 + (1 : Int32)))))]) (np := 369) (lv' := [(0, .retAddr 0), (1, .ref 0), (2, .ref 37), (3, .int v3)]) (rest := []) (res := fun r => ([.int r.1], LY88, r.2)) rfl e (fun r e => BJyn_costing L xs (xs (Int32.toNatClampNeg (v3 + (1 : Int32)))) h r e) (fun c21 e => ?_)
                      show Bg L xs 252 369 [(0, .retAddr 0), (1, .ref 0), (2, .ref 37), (3, .int v3)] [.int c21.1] LY88 c21.2 R
                      refine seg_Bg (pc' := 374) (lv' := [(0, .retAddr 0), (1, .ref 0), (2, .ref 37), (3, .int v3)]) (st' := [.int (v3 + (1 : Int32)), .retAddr 0, .ref 37, .int c21.1]) (lay' := LY88) (h' := c21.2) 5 rfl ?_
                      refine gd_Bg (pc' := 375) (lv' := [(0, .retAddr 0), (1, .ref 0), (2, .ref 37), (3, .int v3)]) (st' := [.int (xs (Int32.toNatClampNeg (v3 + (1 : Int32)))), .ref 37, .int c21.1]) (lay' := LY88) (h' := c21.2) (g := (ibB (v3 + (1 : Int32)) L && true)) rfl e fun e => ?_
                      refine call_Bg (a := 231) (la := [(0, .ref 37), (1, .int (xs (Int32.toNatClampNeg (v3 + (1 : Int32)))))]) (np := 378) (lv' := [(0, .retAddr 0), (1, .ref 0), (2, .ref 37), (3, .int v3)]) (rest := [.int c21.1]) (res := fun r => ([.int r.1], LY88, r.2)) rfl e (fun r e => BJm_costing L xs (xs (Int32.toNatClampNeg (v3 + (1 : Int32)))) c21.2 r e) (fun c22 e => ?_)
                      show Bg L xs 252 378 [(0, .retAddr 0), (1, .ref 0), (2, .ref 37), (3, .int v3)] [.int c22.1, .int c21.1] LY88 c22.2 R
                      refine seg_Bg (pc' := (if c21.1 = c22.1 then 917 else 381)) (lv' := [(0, .retAddr 0), (1, .ref 0), (2, .ref 37), (3, .int v3)]) (st' := []) (lay' := LY88) (h' := c22.2) 1 rfl ?_
                      refine pc_ite e (fun e => ?_) (fun e => ?_)
                      · refine seg_Bg (pc' := 18) (lv' := [(0, .retAddr 0), (1, .ref 0), (2, .ref 37), (3, .int (v3 + 5))]) (st' := []) (lay' := LY88) (h' := c22.2) 2 rfl ?_
                        exact hH (v3 + 5, c22.2) (Option.some.inj e).symm
                      · refine seg_Bg (pc' := 382) (lv' := [(0, .retAddr 0), (1, .ref 0), (2, .ref 37), (3, .int v3)]) (st' := [.int 0]) (lay' := LY88) (h' := c22.2) 1 rfl ?_
                        rw [hR (0, c22.2) (Option.some.inj e).symm]; exact ret_Bg rfl
                    · refine pc_ite e (fun e => ?_) (fun e => ?_)
                      · refine seg_Bg (pc' := 388) (lv' := [(0, .retAddr 0), (1, .ref 0), (2, .ref 37), (3, .int v3)]) (st' := [.int (v3 + (1 : Int32)), .retAddr 0, .ref 0]) (lay' := LY88) (h' := h) 5 rfl ?_
                        refine gd_Bg (pc' := 389) (lv' := [(0, .retAddr 0), (1, .ref 0), (2, .ref 37), (3, .int v3)]) (st' := [.int (xs (Int32.toNatClampNeg (v3 + (1 : Int32)))), .ref 0]) (lay' := LY88) (h' := h) (g := (ibB (v3 + (1 : Int32)) L && true)) rfl e fun e => ?_
                        refine seg_Bg (pc' := 393) (lv' := [(0, .retAddr 0), (1, .ref 0), (2, .ref 37), (3, .int v3)]) (st' := [.int (v3 + (2 : Int32)), .retAddr 0, .int (xs (Int32.toNatClampNeg (v3 + (1 : Int32)))), .ref 0]) (lay' := LY88) (h' := h) 4 rfl ?_
                        refine gd_Bg (pc' := 394) (lv' := [(0, .retAddr 0), (1, .ref 0), (2, .ref 37), (3, .int v3)]) (st' := [.int (xs (Int32.toNatClampNeg (v3 + (2 : Int32)))), .int (xs (Int32.toNatClampNeg (v3 + (1 : Int32)))), .ref 0]) (lay' := LY88) (h' := h) (g := (ibB (v3 + (2 : Int32)) L && true)) rfl e fun e => ?_
                        refine call_Bg (a := 140) (la := [(0, .ref 0), (1, .int (xs (Int32.toNatClampNeg (v3 + (1 : Int32))))), (2, .int (xs (Int32.toNatClampNeg (v3 + (2 : Int32)))))]) (np := 397) (lv' := [(0, .retAddr 0), (1, .ref 0), (2, .ref 37), (3, .int v3)]) (rest := []) (res := fun r => ([.int r], LY88, h)) rfl e (fun r e => BJyn_place L xs (xs (Int32.toNatClampNeg (v3 + (1 : Int32)))) (xs (Int32.toNatClampNeg (v3 + (2 : Int32)))) h r e) (fun c23 e => ?_)
                        show Bg L xs 252 397 [(0, .retAddr 0), (1, .ref 0), (2, .ref 37), (3, .int v3)] [.int c23] LY88 h R
                        refine seg_Bg (pc' := 402) (lv' := [(0, .retAddr 0), (1, .ref 0), (2, .ref 37), (3, .int v3)]) (st' := [.int (v3 + (1 : Int32)), .retAddr 0, .ref 37, .int c23]) (lay' := LY88) (h' := h) 5 rfl ?_
                        refine gd_Bg (pc' := 403) (lv' := [(0, .retAddr 0), (1, .ref 0), (2, .ref 37), (3, .int v3)]) (st' := [.int (xs (Int32.toNatClampNeg (v3 + (1 : Int32)))), .ref 37, .int c23]) (lay' := LY88) (h' := h) (g := (ibB (v3 + (1 : Int32)) L && true)) rfl e fun e => ?_
                        refine seg_Bg (pc' := 407) (lv' := [(0, .retAddr 0), (1, .ref 0), (2, .ref 37), (3, .int v3)]) (st' := [.int (v3 + (2 : Int32)), .retAddr 0, .int (xs (Int32.toNatClampNeg (v3 + (1 : Int32)))), .ref 37, .int c23]) (lay' := LY88) (h' := h) 4 rfl ?_
                        refine gd_Bg (pc' := 408) (lv' := [(0, .retAddr 0), (1, .ref 0), (2, .ref 37), (3, .int v3)]) (st' := [.int (xs (Int32.toNatClampNeg (v3 + (2 : Int32)))), .int (xs (Int32.toNatClampNeg (v3 + (1 : Int32)))), .ref 37, .int c23]) (lay' := LY88) (h' := h) (g := (ibB (v3 + (2 : Int32)) L && true)) rfl e fun e => ?_
                        refine call_Bg (a := 232) (la := [(0, .ref 37), (1, .int (xs (Int32.toNatClampNeg (v3 + (1 : Int32))))), (2, .int (xs (Int32.toNatClampNeg (v3 + (2 : Int32)))))]) (np := 411) (lv' := [(0, .retAddr 0), (1, .ref 0), (2, .ref 37), (3, .int v3)]) (rest := [.int c23]) (res := fun r => ([.int r.1], LY88, r.2)) rfl e (fun r e => BJm_place L xs (xs (Int32.toNatClampNeg (v3 + (1 : Int32)))) (xs (Int32.toNatClampNeg (v3 + (2 : Int32)))) h r e) (fun c24 e => ?_)
                        show Bg L xs 252 411 [(0, .retAddr 0), (1, .ref 0), (2, .ref 37), (3, .int v3)] [.int c24.1, .int c23] LY88 c24.2 R
                        refine seg_Bg (pc' := (if c23 = c24.1 then 917 else 414)) (lv' := [(0, .retAddr 0), (1, .ref 0), (2, .ref 37), (3, .int v3)]) (st' := []) (lay' := LY88) (h' := c24.2) 1 rfl ?_
                        refine pc_ite e (fun e => ?_) (fun e => ?_)
                        · refine seg_Bg (pc' := 18) (lv' := [(0, .retAddr 0), (1, .ref 0), (2, .ref 37), (3, .int (v3 + 5))]) (st' := []) (lay' := LY88) (h' := c24.2) 2 rfl ?_
                          exact hH (v3 + 5, c24.2) (Option.some.inj e).symm
                        · refine seg_Bg (pc' := 415) (lv' := [(0, .retAddr 0), (1, .ref 0), (2, .ref 37), (3, .int v3)]) (st' := [.int 0]) (lay' := LY88) (h' := c24.2) 1 rfl ?_
                          rw [hR (0, c24.2) (Option.some.inj e).symm]; exact ret_Bg rfl
                      · refine pc_ite e (fun e => ?_) (fun e => ?_)
                        · refine seg_Bg (pc' := 421) (lv' := [(0, .retAddr 0), (1, .ref 0), (2, .ref 37), (3, .int v3)]) (st' := [.int (v3 + (1 : Int32)), .retAddr 0, .ref 0]) (lay' := LY88) (h' := h) 5 rfl ?_
                          refine gd_Bg (pc' := 422) (lv' := [(0, .retAddr 0), (1, .ref 0), (2, .ref 37), (3, .int v3)]) (st' := [.int (xs (Int32.toNatClampNeg (v3 + (1 : Int32)))), .ref 0]) (lay' := LY88) (h' := h) (g := (ibB (v3 + (1 : Int32)) L && true)) rfl e fun e => ?_
                          refine seg_Bg (pc' := 426) (lv' := [(0, .retAddr 0), (1, .ref 0), (2, .ref 37), (3, .int v3)]) (st' := [.int (v3 + (2 : Int32)), .retAddr 0, .int (xs (Int32.toNatClampNeg (v3 + (1 : Int32)))), .ref 0]) (lay' := LY88) (h' := h) 4 rfl ?_
                          refine gd_Bg (pc' := 427) (lv' := [(0, .retAddr 0), (1, .ref 0), (2, .ref 37), (3, .int v3)]) (st' := [.int (xs (Int32.toNatClampNeg (v3 + (2 : Int32)))), .int (xs (Int32.toNatClampNeg (v3 + (1 : Int32)))), .ref 0]) (lay' := LY88) (h' := h) (g := (ibB (v3 + (2 : Int32)) L && true)) rfl e fun e => ?_
                          refine call_Bg (a := 141) (la := [(0, .ref 0), (1, .int (xs (Int32.toNatClampNeg (v3 + (1 : Int32))))), (2, .int (xs (Int32.toNatClampNeg (v3 + (2 : Int32)))))]) (np := 430) (lv' := [(0, .retAddr 0), (1, .ref 0), (2, .ref 37), (3, .int v3)]) (rest := []) (res := fun r => ([.int r], LY88, h)) rfl e (fun r e => BJyn_above L xs (xs (Int32.toNatClampNeg (v3 + (1 : Int32)))) (xs (Int32.toNatClampNeg (v3 + (2 : Int32)))) h r e) (fun c25 e => ?_)
                          show Bg L xs 252 430 [(0, .retAddr 0), (1, .ref 0), (2, .ref 37), (3, .int v3)] [.int c25] LY88 h R
                          refine seg_Bg (pc' := 435) (lv' := [(0, .retAddr 0), (1, .ref 0), (2, .ref 37), (3, .int v3)]) (st' := [.int (v3 + (1 : Int32)), .retAddr 0, .ref 37, .int c25]) (lay' := LY88) (h' := h) 5 rfl ?_
                          refine gd_Bg (pc' := 436) (lv' := [(0, .retAddr 0), (1, .ref 0), (2, .ref 37), (3, .int v3)]) (st' := [.int (xs (Int32.toNatClampNeg (v3 + (1 : Int32)))), .ref 37, .int c25]) (lay' := LY88) (h' := h) (g := (ibB (v3 + (1 : Int32)) L && true)) rfl e fun e => ?_
                          refine seg_Bg (pc' := 440) (lv' := [(0, .retAddr 0), (1, .ref 0), (2, .ref 37), (3, .int v3)]) (st' := [.int (v3 + (2 : Int32)), .retAddr 0, .int (xs (Int32.toNatClampNeg (v3 + (1 : Int32)))), .ref 37, .int c25]) (lay' := LY88) (h' := h) 4 rfl ?_
                          refine gd_Bg (pc' := 441) (lv' := [(0, .retAddr 0), (1, .ref 0), (2, .ref 37), (3, .int v3)]) (st' := [.int (xs (Int32.toNatClampNeg (v3 + (2 : Int32)))), .int (xs (Int32.toNatClampNeg (v3 + (1 : Int32)))), .ref 37, .int c25]) (lay' := LY88) (h' := h) (g := (ibB (v3 + (2 : Int32)) L && true)) rfl e fun e => ?_
                          refine call_Bg (a := 234) (la := [(0, .ref 37), (1, .int (xs (Int32.toNatClampNeg (v3 + (1 : Int32))))), (2, .int (xs (Int32.toNatClampNeg (v3 + (2 : Int32)))))]) (np := 444) (lv' := [(0, .retAddr 0), (1, .ref 0), (2, .ref 37), (3, .int v3)]) (rest := [.int c25]) (res := fun r => ([.int r.1], LY88, r.2)) rfl e (fun r e => BJm_above L xs (xs (Int32.toNatClampNeg (v3 + (1 : Int32)))) (xs (Int32.toNatClampNeg (v3 + (2 : Int32)))) h r e) (fun c26 e => ?_)
                          show Bg L xs 252 444 [(0, .retAddr 0), (1, .ref 0), (2, .ref 37), (3, .int v3)] [.int c26.1, .int c25] LY88 c26.2 R
                          refine seg_Bg (pc' := (if c25 = c26.1 then 917 else 447)) (lv' := [(0, .retAddr 0), (1, .ref 0), (2, .ref 37), (3, .int v3)]) (st' := []) (lay' := LY88) (h' := c26.2) 1 rfl ?_
                          refine pc_ite e (fun e => ?_) (fun e => ?_)
                          · refine seg_Bg (pc' := 18) (lv' := [(0, .retAddr 0), (1, .ref 0), (2, .ref 37), (3, .int (v3 + 5))]) (st' := []) (lay' := LY88) (h' := c26.2) 2 rfl ?_
                            exact hH (v3 + 5, c26.2) (Option.some.inj e).symm
                          · refine seg_Bg (pc' := 448) (lv' := [(0, .retAddr 0), (1, .ref 0), (2, .ref 37), (3, .int v3)]) (st' := [.int 0]) (lay' := LY88) (h' := c26.2) 1 rfl ?_
                            rw [hR (0, c26.2) (Option.some.inj e).symm]; exact ret_Bg rfl
                        · refine pc_ite e (fun e => ?_) (fun e => ?_)
                          · refine seg_Bg (pc' := 454) (lv' := [(0, .retAddr 0), (1, .ref 0), (2, .ref 37), (3, .int v3)]) (st' := [.int (v3 + (1 : Int32)), .retAddr 0, .ref 0]) (lay' := LY88) (h' := h) 5 rfl ?_
                            refine gd_Bg (pc' := 455) (lv' := [(0, .retAddr 0), (1, .ref 0), (2, .ref 37), (3, .int v3)]) (st' := [.int (xs (Int32.toNatClampNeg (v3 + (1 : Int32)))), .ref 0]) (lay' := LY88) (h' := h) (g := (ibB (v3 + (1 : Int32)) L && true)) rfl e fun e => ?_
                            refine seg_Bg (pc' := 459) (lv' := [(0, .retAddr 0), (1, .ref 0), (2, .ref 37), (3, .int v3)]) (st' := [.int (v3 + (2 : Int32)), .retAddr 0, .int (xs (Int32.toNatClampNeg (v3 + (1 : Int32)))), .ref 0]) (lay' := LY88) (h' := h) 4 rfl ?_
                            refine gd_Bg (pc' := 460) (lv' := [(0, .retAddr 0), (1, .ref 0), (2, .ref 37), (3, .int v3)]) (st' := [.int (xs (Int32.toNatClampNeg (v3 + (2 : Int32)))), .int (xs (Int32.toNatClampNeg (v3 + (1 : Int32)))), .ref 0]) (lay' := LY88) (h' := h) (g := (ibB (v3 + (2 : Int32)) L && true)) rfl e fun e => ?_
                            refine call_Bg (a := 142) (la := [(0, .ref 0), (1, .int (xs (Int32.toNatClampNeg (v3 + (1 : Int32))))), (2, .int (xs (Int32.toNatClampNeg (v3 + (2 : Int32)))))]) (np := 463) (lv' := [(0, .retAddr 0), (1, .ref 0), (2, .ref 37), (3, .int v3)]) (rest := []) (res := fun r => ([.int r], LY88, h)) rfl e (fun r e => BJyn_below L xs (xs (Int32.toNatClampNeg (v3 + (1 : Int32)))) (xs (Int32.toNatClampNeg (v3 + (2 : Int32)))) h r e) (fun c27 e => ?_)
                            show Bg L xs 252 463 [(0, .retAddr 0), (1, .ref 0), (2, .ref 37), (3, .int v3)] [.int c27] LY88 h R
                            refine seg_Bg (pc' := 468) (lv' := [(0, .retAddr 0), (1, .ref 0), (2, .ref 37), (3, .int v3)]) (st' := [.int (v3 + (1 : Int32)), .retAddr 0, .ref 37, .int c27]) (lay' := LY88) (h' := h) 5 rfl ?_
                            refine gd_Bg (pc' := 469) (lv' := [(0, .retAddr 0), (1, .ref 0), (2, .ref 37), (3, .int v3)]) (st' := [.int (xs (Int32.toNatClampNeg (v3 + (1 : Int32)))), .ref 37, .int c27]) (lay' := LY88) (h' := h) (g := (ibB (v3 + (1 : Int32)) L && true)) rfl e fun e => ?_
                            refine seg_Bg (pc' := 473) (lv' := [(0, .retAddr 0), (1, .ref 0), (2, .ref 37), (3, .int v3)]) (st' := [.int (v3 + (2 : Int32)), .retAddr 0, .int (xs (Int32.toNatClampNeg (v3 + (1 : Int32)))), .ref 37, .int c27]) (lay' := LY88) (h' := h) 4 rfl ?_
                            refine gd_Bg (pc' := 474) (lv' := [(0, .retAddr 0), (1, .ref 0), (2, .ref 37), (3, .int v3)]) (st' := [.int (xs (Int32.toNatClampNeg (v3 + (2 : Int32)))), .int (xs (Int32.toNatClampNeg (v3 + (1 : Int32)))), .ref 37, .int c27]) (lay' := LY88) (h' := h) (g := (ibB (v3 + (2 : Int32)) L && true)) rfl e fun e => ?_
                            refine call_Bg (a := 235) (la := [(0, .ref 37), (1, .int (xs (Int32.toNatClampNeg (v3 + (1 : Int32))))), (2, .int (xs (Int32.toNatClampNeg (v3 + (2 : Int32)))))]) (np := 477) (lv' := [(0, .retAddr 0), (1, .ref 0), (2, .ref 37), (3, .int v3)]) (rest := [.int c27]) (res := fun r => ([.int r.1], LY88, r.2)) rfl e (fun r e => BJm_below L xs (xs (Int32.toNatClampNeg (v3 + (1 : Int32)))) (xs (Int32.toNatClampNeg (v3 + (2 : Int32)))) h r e) (fun c28 e => ?_)
                            show Bg L xs 252 477 [(0, .retAddr 0), (1, .ref 0), (2, .ref 37), (3, .int v3)] [.int c28.1, .int c27] LY88 c28.2 R
                            refine seg_Bg (pc' := (if c27 = c28.1 then 917 else 480)) (lv' := [(0, .retAddr 0), (1, .ref 0), (2, .ref 37), (3, .int v3)]) (st' := []) (lay' := LY88) (h' := c28.2) 1 rfl ?_
                            refine pc_ite e (fun e => ?_) (fun e => ?_)
                            · refine seg_Bg (pc' := 18) (lv' := [(0, .retAddr 0), (1, .ref 0), (2, .ref 37), (3, .int (v3 + 5))]) (st' := []) (lay' := LY88) (h' := c28.2) 2 rfl ?_
                              exact hH (v3 + 5, c28.2) (Option.some.inj e).symm
                            · refine seg_Bg (pc' := 481) (lv' := [(0, .retAddr 0), (1, .ref 0), (2, .ref 37), (3, .int v3)]) (st' := [.int 0]) (lay' := LY88) (h' := c28.2) 1 rfl ?_
                              rw [hR (0, c28.2) (Option.some.inj e).symm]; exact ret_Bg rfl
                          · refine pc_ite e (fun e => ?_) (fun e => ?_)
                            · refine seg_Bg (pc' := 487) (lv' := [(0, .retAddr 0), (1, .ref 0), (2, .ref 37), (3, .int v3)]) (st' := [.int (v3 + (1 : Int32)), .retAddr 0, .ref 0]) (lay' := LY88) (h' := h) 5 rfl ?_
                              refine gd_Bg (pc' := 488) (lv' := [(0, .retAddr 0), (1, .ref 0), (2, .ref 37), (3, .int v3)]) (st' := [.int (xs (Int32.toNatClampNeg (v3 + (1 : Int32)))), .ref 0]) (lay' := LY88) (h' := h) (g := (ibB (v3 + (1 : Int32)) L && true)) rfl e fun e => ?_
                              refine seg_Bg (pc' := 492) (lv' := [(0, .retAddr 0), (1, .ref 0), (2, .ref 37), (3, .int v3)]) (st' := [.int (v3 + (2 : Int32)), .retAddr 0, .int (xs (Int32.toNatClampNeg (v3 + (1 : Int32)))), .ref 0]) (lay' := LY88) (h' := h) 4 rfl ?_
                              refine gd_Bg (pc' := 493) (lv' := [(0, .retAddr 0), (1, .ref 0), (2, .ref 37), (3, .int v3)]) (st' := [.int (xs (Int32.toNatClampNeg (v3 + (2 : Int32)))), .int (xs (Int32.toNatClampNeg (v3 + (1 : Int32)))), .ref 0]) (lay' := LY88) (h' := h) (g := (ibB (v3 + (2 : Int32)) L && true)) rfl e fun e => ?_
                              refine call_Bg (a := 143) (la := [(0, .ref 0), (1, .int (xs (Int32.toNatClampNeg (v3 + (1 : Int32))))), (2, .int (xs (Int32.toNatClampNeg (v3 + (2 : Int32)))))]) (np := 496) (lv' := [(0, .retAddr 0), (1, .ref 0), (2, .ref 37), (3, .int v3)]) (rest := []) (res := fun r => ([.int r], LY88, h)) rfl e (fun r e => BJyn_meet L xs (xs (Int32.toNatClampNeg (v3 + (1 : Int32)))) (xs (Int32.toNatClampNeg (v3 + (2 : Int32)))) h r e) (fun c29 e => ?_)
                              show Bg L xs 252 496 [(0, .retAddr 0), (1, .ref 0), (2, .ref 37), (3, .int v3)] [.int c29] LY88 h R
                              refine seg_Bg (pc' := 501) (lv' := [(0, .retAddr 0), (1, .ref 0), (2, .ref 37), (3, .int v3)]) (st' := [.int (v3 + (1 : Int32)), .retAddr 0, .ref 37, .int c29]) (lay' := LY88) (h' := h) 5 rfl ?_
                              refine gd_Bg (pc' := 502) (lv' := [(0, .retAddr 0), (1, .ref 0), (2, .ref 37), (3, .int v3)]) (st' := [.int (xs (Int32.toNatClampNeg (v3 + (1 : Int32)))), .ref 37, .int c29]) (lay' := LY88) (h' := h) (g := (ibB (v3 + (1 : Int32)) L && true)) rfl e fun e => ?_
                              refine seg_Bg (pc' := 506) (lv' := [(0, .retAddr 0), (1, .ref 0), (2, .ref 37), (3, .int v3)]) (st' := [.int (v3 + (2 : Int32)), .retAddr 0, .int (xs (Int32.toNatClampNeg (v3 + (1 : Int32)))), .ref 37, .int c29]) (lay' := LY88) (h' := h) 4 rfl ?_
                              refine gd_Bg (pc' := 507) (lv' := [(0, .retAddr 0), (1, .ref 0), (2, .ref 37), (3, .int v3)]) (st' := [.int (xs (Int32.toNatClampNeg (v3 + (2 : Int32)))), .int (xs (Int32.toNatClampNeg (v3 + (1 : Int32)))), .ref 37, .int c29]) (lay' := LY88) (h' := h) (g := (ibB (v3 + (2 : Int32)) L && true)) rfl e fun e => ?_
                              refine call_Bg (a := 236) (la := [(0, .ref 37), (1, .int (xs (Int32.toNatClampNeg (v3 + (1 : Int32))))), (2, .int (xs (Int32.toNatClampNeg (v3 + (2 : Int32)))))]) (np := 510) (lv' := [(0, .retAddr 0), (1, .ref 0), (2, .ref 37), (3, .int v3)]) (rest := [.int c29]) (res := fun r => ([.int r.1], LY88, r.2)) rfl e (fun r e => BJm_meet L xs (xs (Int32.toNatClampNeg (v3 + (1 : Int32)))) (xs (Int32.toNatClampNeg (v3 + (2 : Int32)))) h r e) (fun c30 e => ?_)
                              show Bg L xs 252 510 [(0, .retAddr 0), (1, .ref 0), (2, .ref 37), (3, .int v3)] [.int c30.1, .int c29] LY88 c30.2 R
                              refine seg_Bg (pc' := (if c29 = c30.1 then 917 else 513)) (lv' := [(0, .retAddr 0), (1, .ref 0), (2, .ref 37), (3, .int v3)]) (st' := []) (lay' := LY88) (h' := c30.2) 1 rfl ?_
                              refine pc_ite e (fun e => ?_) (fun e => ?_)
                              · refine seg_Bg (pc' := 18) (lv' := [(0, .retAddr 0), (1, .ref 0), (2, .ref 37), (3, .int (v3 + 5))]) (st' := []) (lay' := LY88) (h' := c30.2) 2 rfl ?_
                                exact hH (v3 + 5, c30.2) (Option.some.inj e).symm
                              · refine seg_Bg (pc' := 514) (lv' := [(0, .retAddr 0), (1, .ref 0), (2, .ref 37), (3, .int v3)]) (st' := [.int 0]) (lay' := LY88) (h' := c30.2) 1 rfl ?_
                                rw [hR (0, c30.2) (Option.some.inj e).symm]; exact ret_Bg rfl
                            · refine pc_ite e (fun e => ?_) (fun e => ?_)
                              · refine seg_Bg (pc' := 520) (lv' := [(0, .retAddr 0), (1, .ref 0), (2, .ref 37), (3, .int v3)]) (st' := [.int (v3 + (1 : Int32)), .retAddr 0, .ref 0]) (lay' := LY88) (h' := h) 5 rfl ?_
                                refine gd_Bg (pc' := 521) (lv' := [(0, .retAddr 0), (1, .ref 0), (2, .ref 37), (3, .int v3)]) (st' := [.int (xs (Int32.toNatClampNeg (v3 + (1 : Int32)))), .ref 0]) (lay' := LY88) (h' := h) (g := (ibB (v3 + (1 : Int32)) L && true)) rfl e fun e => ?_
                                refine seg_Bg (pc' := 525) (lv' := [(0, .retAddr 0), (1, .ref 0), (2, .ref 37), (3, .int v3)]) (st' := [.int (v3 + (2 : Int32)), .retAddr 0, .int (xs (Int32.toNatClampNeg (v3 + (1 : Int32)))), .ref 0]) (lay' := LY88) (h' := h) 4 rfl ?_
                                refine gd_Bg (pc' := 526) (lv' := [(0, .retAddr 0), (1, .ref 0), (2, .ref 37), (3, .int v3)]) (st' := [.int (xs (Int32.toNatClampNeg (v3 + (2 : Int32)))), .int (xs (Int32.toNatClampNeg (v3 + (1 : Int32)))), .ref 0]) (lay' := LY88) (h' := h) (g := (ibB (v3 + (2 : Int32)) L && true)) rfl e fun e => ?_
                                refine call_Bg (a := 144) (la := [(0, .ref 0), (1, .int (xs (Int32.toNatClampNeg (v3 + (1 : Int32))))), (2, .int (xs (Int32.toNatClampNeg (v3 + (2 : Int32)))))]) (np := 529) (lv' := [(0, .retAddr 0), (1, .ref 0), (2, .ref 37), (3, .int v3)]) (rest := []) (res := fun r => ([.int r], LY88, h)) rfl e (fun r e => BJyn_join L xs (xs (Int32.toNatClampNeg (v3 + (1 : Int32)))) (xs (Int32.toNatClampNeg (v3 + (2 : Int32)))) h r e) (fun c31 e => ?_)
                                show Bg L xs 252 529 [(0, .retAddr 0), (1, .ref 0), (2, .ref 37), (3, .int v3)] [.int c31] LY88 h R
                                refine seg_Bg (pc' := 534) (lv' := [(0, .retAddr 0), (1, .ref 0), (2, .ref 37), (3, .int v3)]) (st' := [.int (v3 + (1 : Int32)), .retAddr 0, .ref 37, .int c31]) (lay' := LY88) (h' := h) 5 rfl ?_
                                refine gd_Bg (pc' := 535) (lv' := [(0, .retAddr 0), (1, .ref 0), (2, .ref 37), (3, .int v3)]) (st' := [.int (xs (Int32.toNatClampNeg (v3 + (1 : Int32)))), .ref 37, .int c31]) (lay' := LY88) (h' := h) (g := (ibB (v3 + (1 : Int32)) L && true)) rfl e fun e => ?_
                                refine seg_Bg (pc' := 539) (lv' := [(0, .retAddr 0), (1, .ref 0), (2, .ref 37), (3, .int v3)]) (st' := [.int (v3 + (2 : Int32)), .retAddr 0, .int (xs (Int32.toNatClampNeg (v3 + (1 : Int32)))), .ref 37, .int c31]) (lay' := LY88) (h' := h) 4 rfl ?_
                                refine gd_Bg (pc' := 540) (lv' := [(0, .retAddr 0), (1, .ref 0), (2, .ref 37), (3, .int v3)]) (st' := [.int (xs (Int32.toNatClampNeg (v3 + (2 : Int32)))), .int (xs (Int32.toNatClampNeg (v3 + (1 : Int32)))), .ref 37, .int c31]) (lay' := LY88) (h' := h) (g := (ibB (v3 + (2 : Int32)) L && true)) rfl e fun e => ?_
                                refine call_Bg (a := 237) (la := [(0, .ref 37), (1, .int (xs (Int32.toNatClampNeg (v3 + (1 : Int32))))), (2, .int (xs (Int32.toNatClampNeg (v3 + (2 : Int32)))))]) (np := 543) (lv' := [(0, .retAddr 0), (1, .ref 0), (2, .ref 37), (3, .int v3)]) (rest := [.int c31]) (res := fun r => ([.int r.1], LY88, r.2)) rfl e (fun r e => BJm_join L xs (xs (Int32.toNatClampNeg (v3 + (1 : Int32)))) (xs (Int32.toNatClampNeg (v3 + (2 : Int32)))) h r e) (fun c32 e => ?_)
                                show Bg L xs 252 543 [(0, .retAddr 0), (1, .ref 0), (2, .ref 37), (3, .int v3)] [.int c32.1, .int c31] LY88 c32.2 R
                                refine seg_Bg (pc' := (if c31 = c32.1 then 917 else 546)) (lv' := [(0, .retAddr 0), (1, .ref 0), (2, .ref 37), (3, .int v3)]) (st' := []) (lay' := LY88) (h' := c32.2) 1 rfl ?_
                                refine pc_ite e (fun e => ?_) (fun e => ?_)
                                · refine seg_Bg (pc' := 18) (lv' := [(0, .retAddr 0), (1, .ref 0), (2, .ref 37), (3, .int (v3 + 5))]) (st' := []) (lay' := LY88) (h' := c32.2) 2 rfl ?_
                                  exact hH (v3 + 5, c32.2) (Option.some.inj e).symm
                                · refine seg_Bg (pc' := 547) (lv' := [(0, .retAddr 0), (1, .ref 0), (2, .ref 37), (3, .int v3)]) (st' := [.int 0]) (lay' := LY88) (h' := c32.2) 1 rfl ?_
                                  rw [hR (0, c32.2) (Option.some.inj e).symm]; exact ret_Bg rfl
                              · refine pc_ite e (fun e => ?_) (fun e => ?_)
                                · refine seg_Bg (pc' := 553) (lv' := [(0, .retAddr 0), (1, .ref 0), (2, .ref 37), (3, .int v3)]) (st' := [.int (v3 + (1 : Int32)), .retAddr 0, .ref 0]) (lay' := LY88) (h' := h) 5 rfl ?_
                                  refine gd_Bg (pc' := 554) (lv' := [(0, .retAddr 0), (1, .ref 0), (2, .ref 37), (3, .int v3)]) (st' := [.int (xs (Int32.toNatClampNeg (v3 + (1 : Int32)))), .ref 0]) (lay' := LY88) (h' := h) (g := (ibB (v3 + (1 : Int32)) L && true)) rfl e fun e => ?_
                                  refine seg_Bg (pc' := 558) (lv' := [(0, .retAddr 0), (1, .ref 0), (2, .ref 37), (3, .int v3)]) (st' := [.int (v3 + (2 : Int32)), .retAddr 0, .int (xs (Int32.toNatClampNeg (v3 + (1 : Int32)))), .ref 0]) (lay' := LY88) (h' := h) 4 rfl ?_
                                  refine gd_Bg (pc' := 559) (lv' := [(0, .retAddr 0), (1, .ref 0), (2, .ref 37), (3, .int v3)]) (st' := [.int (xs (Int32.toNatClampNeg (v3 + (2 : Int32)))), .int (xs (Int32.toNatClampNeg (v3 + (1 : Int32)))), .ref 0]) (lay' := LY88) (h' := h) (g := (ibB (v3 + (2 : Int32)) L && true)) rfl e fun e => ?_
                                  refine seg_Bg (pc' := 563) (lv' := [(0, .retAddr 0), (1, .ref 0), (2, .ref 37), (3, .int v3)]) (st' := [.int (v3 + (3 : Int32)), .retAddr 0, .int (xs (Int32.toNatClampNeg (v3 + (2 : Int32)))), .int (xs (Int32.toNatClampNeg (v3 + (1 : Int32)))), .ref 0]) (lay' := LY88) (h' := h) 4 rfl ?_
                                  refine gd_Bg (pc' := 564) (lv' := [(0, .retAddr 0), (1, .ref 0), (2, .ref 37), (3, .int v3)]) (st' := [.int (xs (Int32.toNatClampNeg (v3 + (3 : Int32)))), .int (xs (Int32.toNatClampNeg (v3 + (2 : Int32)))), .int (xs (Int32.toNatClampNeg (v3 + (1 : Int32)))), .ref 0]) (lay' := LY88) (h' := h) (g := (ibB (v3 + (3 : Int32)) L && true)) rfl e fun e => ?_
                                  refine call_Bg (a := 145) (la := [(0, .ref 0), (1, .int (xs (Int32.toNatClampNeg (v3 + (1 : Int32))))), (2, .int (xs (Int32.toNatClampNeg (v3 + (2 : Int32))))), (3, .int (xs (Int32.toNatClampNeg (v3 + (3 : Int32)))))]) (np := 567) (lv' := [(0, .retAddr 0), (1, .ref 0), (2, .ref 37), (3, .int v3)]) (rest := []) (res := fun r => ([.int r], LY88, h)) rfl e (fun r e => BJyn_relation L xs (xs (Int32.toNatClampNeg (v3 + (1 : Int32)))) (xs (Int32.toNatClampNeg (v3 + (2 : Int32)))) (xs (Int32.toNatClampNeg (v3 + (3 : Int32)))) h r e) (fun c33 e => ?_)
                                  show Bg L xs 252 567 [(0, .retAddr 0), (1, .ref 0), (2, .ref 37), (3, .int v3)] [.int c33] LY88 h R
                                  refine seg_Bg (pc' := 572) (lv' := [(0, .retAddr 0), (1, .ref 0), (2, .ref 37), (3, .int v3)]) (st' := [.int (v3 + (1 : Int32)), .retAddr 0, .ref 37, .int c33]) (lay' := LY88) (h' := h) 5 rfl ?_
                                  refine gd_Bg (pc' := 573) (lv' := [(0, .retAddr 0), (1, .ref 0), (2, .ref 37), (3, .int v3)]) (st' := [.int (xs (Int32.toNatClampNeg (v3 + (1 : Int32)))), .ref 37, .int c33]) (lay' := LY88) (h' := h) (g := (ibB (v3 + (1 : Int32)) L && true)) rfl e fun e => ?_
                                  refine seg_Bg (pc' := 577) (lv' := [(0, .retAddr 0), (1, .ref 0), (2, .ref 37), (3, .int v3)]) (st' := [.int (v3 + (2 : Int32)), .retAddr 0, .int (xs (Int32.toNatClampNeg (v3 + (1 : Int32)))), .ref 37, .int c33]) (lay' := LY88) (h' := h) 4 rfl ?_
                                  refine gd_Bg (pc' := 578) (lv' := [(0, .retAddr 0), (1, .ref 0), (2, .ref 37), (3, .int v3)]) (st' := [.int (xs (Int32.toNatClampNeg (v3 + (2 : Int32)))), .int (xs (Int32.toNatClampNeg (v3 + (1 : Int32)))), .ref 37, .int c33]) (lay' := LY88) (h' := h) (g := (ibB (v3 + (2 : Int32)) L && true)) rfl e fun e => ?_
                                  refine seg_Bg (pc' := 582) (lv' := [(0, .retAddr 0), (1, .ref 0), (2, .ref 37), (3, .int v3)]) (st' := [.int (v3 + (3 : Int32)), .retAddr 0, .int (xs (Int32.toNatClampNeg (v3 + (2 : Int32)))), .int (xs (Int32.toNatClampNeg (v3 + (1 : Int32)))), .ref 37, .int c33]) (lay' := LY88) (h' := h) 4 rfl ?_
                                  refine gd_Bg (pc' := 583) (lv' := [(0, .retAddr 0), (1, .ref 0), (2, .ref 37), (3, .int v3)]) (st' := [.int (xs (Int32.toNatClampNeg (v3 + (3 : Int32)))), .int (xs (Int32.toNatClampNeg (v3 + (2 : Int32)))), .int (xs (Int32.toNatClampNeg (v3 + (1 : Int32)))), .ref 37, .int c33]) (lay' := LY88) (h' := h) (g := (ibB (v3 + (3 : Int32)) L && true)) rfl e fun e => ?_
                                  refine call_Bg (a := 238) (la := [(0, .ref 37), (1, .int (xs (Int32.toNatClampNeg (v3 + (1 : Int32))))), (2, .int (xs (Int32.toNatClampNeg (v3 + (2 : Int32))))), (3, .int (xs (Int32.toNatClampNeg (v3 + (3 : Int32)))))]) (np := 586) (lv' := [(0, .retAddr 0), (1, .ref 0), (2, .ref 37), (3, .int v3)]) (rest := [.int c33]) (res := fun r => ([.int r.1], LY88, r.2)) rfl e (fun r e => BJm_relation L xs (xs (Int32.toNatClampNeg (v3 + (1 : Int32)))) (xs (Int32.toNatClampNeg (v3 + (2 : Int32)))) (xs (Int32.toNatClampNeg (v3 + (3 : Int32)))) h r e) (fun c34 e => ?_)
                                  show Bg L xs 252 586 [(0, .retAddr 0), (1, .ref 0), (2, .ref 37), (3, .int v3)] [.int c34.1, .int c33] LY88 c34.2 R
                                  refine seg_Bg (pc' := (if c33 = c34.1 then 917 else 589)) (lv' := [(0, .retAddr 0), (1, .ref 0), (2, .ref 37), (3, .int v3)]) (st' := []) (lay' := LY88) (h' := c34.2) 1 rfl ?_
                                  refine pc_ite e (fun e => ?_) (fun e => ?_)
                                  · refine seg_Bg (pc' := 18) (lv' := [(0, .retAddr 0), (1, .ref 0), (2, .ref 37), (3, .int (v3 + 5))]) (st' := []) (lay' := LY88) (h' := c34.2) 2 rfl ?_
                                    exact hH (v3 + 5, c34.2) (Option.some.inj e).symm
                                  · refine seg_Bg (pc' := 590) (lv' := [(0, .retAddr 0), (1, .ref 0), (2, .ref 37), (3, .int v3)]) (st' := [.int 0]) (lay' := LY88) (h' := c34.2) 1 rfl ?_
                                    rw [hR (0, c34.2) (Option.some.inj e).symm]; exact ret_Bg rfl
                                · refine pc_ite e (fun e => ?_) (fun e => ?_)
                                  · refine seg_Bg (pc' := 596) (lv' := [(0, .retAddr 0), (1, .ref 0), (2, .ref 37), (3, .int v3)]) (st' := [.int (v3 + (1 : Int32)), .retAddr 0, .ref 0]) (lay' := LY88) (h' := h) 5 rfl ?_
                                    refine gd_Bg (pc' := 597) (lv' := [(0, .retAddr 0), (1, .ref 0), (2, .ref 37), (3, .int v3)]) (st' := [.int (xs (Int32.toNatClampNeg (v3 + (1 : Int32)))), .ref 0]) (lay' := LY88) (h' := h) (g := (ibB (v3 + (1 : Int32)) L && true)) rfl e fun e => ?_
                                    refine seg_Bg (pc' := 601) (lv' := [(0, .retAddr 0), (1, .ref 0), (2, .ref 37), (3, .int v3)]) (st' := [.int (v3 + (2 : Int32)), .retAddr 0, .int (xs (Int32.toNatClampNeg (v3 + (1 : Int32)))), .ref 0]) (lay' := LY88) (h' := h) 4 rfl ?_
                                    refine gd_Bg (pc' := 602) (lv' := [(0, .retAddr 0), (1, .ref 0), (2, .ref 37), (3, .int v3)]) (st' := [.int (xs (Int32.toNatClampNeg (v3 + (2 : Int32)))), .int (xs (Int32.toNatClampNeg (v3 + (1 : Int32)))), .ref 0]) (lay' := LY88) (h' := h) (g := (ibB (v3 + (2 : Int32)) L && true)) rfl e fun e => ?_
                                    refine seg_Bg (pc' := 606) (lv' := [(0, .retAddr 0), (1, .ref 0), (2, .ref 37), (3, .int v3)]) (st' := [.int (v3 + (3 : Int32)), .retAddr 0, .int (xs (Int32.toNatClampNeg (v3 + (2 : Int32)))), .int (xs (Int32.toNatClampNeg (v3 + (1 : Int32)))), .ref 0]) (lay' := LY88) (h' := h) 4 rfl ?_
                                    refine gd_Bg (pc' := 607) (lv' := [(0, .retAddr 0), (1, .ref 0), (2, .ref 37), (3, .int v3)]) (st' := [.int (xs (Int32.toNatClampNeg (v3 + (3 : Int32)))), .int (xs (Int32.toNatClampNeg (v3 + (2 : Int32)))), .int (xs (Int32.toNatClampNeg (v3 + (1 : Int32)))), .ref 0]) (lay' := LY88) (h' := h) (g := (ibB (v3 + (3 : Int32)) L && true)) rfl e fun e => ?_
                                    refine call_Bg (a := 146) (la := [(0, .ref 0), (1, .int (xs (Int32.toNatClampNeg (v3 + (1 : Int32))))), (2, .int (xs (Int32.toNatClampNeg (v3 + (2 : Int32))))), (3, .int (xs (Int32.toNatClampNeg (v3 + (3 : Int32)))))]) (np := 610) (lv' := [(0, .retAddr 0), (1, .ref 0), (2, .ref 37), (3, .int v3)]) (rest := []) (res := fun r => ([.int r], LY88, h)) rfl e (fun r e => BJyn_keeps L xs (xs (Int32.toNatClampNeg (v3 + (1 : Int32)))) (xs (Int32.toNatClampNeg (v3 + (2 : Int32)))) (xs (Int32.toNatClampNeg (v3 + (3 : Int32)))) h r e) (fun c35 e => ?_)
                                    show Bg L xs 252 610 [(0, .retAddr 0), (1, .ref 0), (2, .ref 37), (3, .int v3)] [.int c35] LY88 h R
                                    refine seg_Bg (pc' := 615) (lv' := [(0, .retAddr 0), (1, .ref 0), (2, .ref 37), (3, .int v3)]) (st' := [.int (v3 + (1 : Int32)), .retAddr 0, .ref 37, .int c35]) (lay' := LY88) (h' := h) 5 rfl ?_
                                    refine gd_Bg (pc' := 616) (lv' := [(0, .retAddr 0), (1, .ref 0), (2, .ref 37), (3, .int v3)]) (st' := [.int (xs (Int32.toNatClampNeg (v3 + (1 : Int32)))), .ref 37, .int c35]) (lay' := LY88) (h' := h) (g := (ibB (v3 + (1 : Int32)) L && true)) rfl e fun e => ?_
                                    refine seg_Bg (pc' := 620) (lv' := [(0, .retAddr 0), (1, .ref 0), (2, .ref 37), (3, .int v3)]) (st' := [.int (v3 + (2 : Int32)), .retAddr 0, .int (xs (Int32.toNatClampNeg (v3 + (1 : Int32)))), .ref 37, .int c35]) (lay' := LY88) (h' := h) 4 rfl ?_
                                    refine gd_Bg (pc' := 621) (lv' := [(0, .retAddr 0), (1, .ref 0), (2, .ref 37), (3, .int v3)]) (st' := [.int (xs (Int32.toNatClampNeg (v3 + (2 : Int32)))), .int (xs (Int32.toNatClampNeg (v3 + (1 : Int32)))), .ref 37, .int c35]) (lay' := LY88) (h' := h) (g := (ibB (v3 + (2 : Int32)) L && true)) rfl e fun e => ?_
                                    refine seg_Bg (pc' := 625) (lv' := [(0, .retAddr 0), (1, .ref 0), (2, .ref 37), (3, .int v3)]) (st' := [.int (v3 + (3 : Int32)), .retAddr 0, .int (xs (Int32.toNatClampNeg (v3 + (2 : Int32)))), .int (xs (Int32.toNatClampNeg (v3 + (1 : Int32)))), .ref 37, .int c35]) (lay' := LY88) (h' := h) 4 rfl ?_
                                    refine gd_Bg (pc' := 626) (lv' := [(0, .retAddr 0), (1, .ref 0), (2, .ref 37), (3, .int v3)]) (st' := [.int (xs (Int32.toNatClampNeg (v3 + (3 : Int32)))), .int (xs (Int32.toNatClampNeg (v3 + (2 : Int32)))), .int (xs (Int32.toNatClampNeg (v3 + (1 : Int32)))), .ref 37, .int c35]) (lay' := LY88) (h' := h) (g := (ibB (v3 + (3 : Int32)) L && true)) rfl e fun e => ?_
                                    refine call_Bg (a := 239) (la := [(0, .ref 37), (1, .int (xs (Int32.toNatClampNeg (v3 + (1 : Int32))))), (2, .int (xs (Int32.toNatClampNeg (v3 + (2 : Int32))))), (3, .int (xs (Int32.toNatClampNeg (v3 + (3 : Int32)))))]) (np := 629) (lv' := [(0, .retAddr 0), (1, .ref 0), (2, .ref 37), (3, .int v3)]) (rest := [.int c35]) (res := fun r => ([.int r], LY88, h)) rfl e (fun r e => BJm_keeps L xs (xs (Int32.toNatClampNeg (v3 + (1 : Int32)))) (xs (Int32.toNatClampNeg (v3 + (2 : Int32)))) (xs (Int32.toNatClampNeg (v3 + (3 : Int32)))) h r e) (fun c36 e => ?_)
                                    show Bg L xs 252 629 [(0, .retAddr 0), (1, .ref 0), (2, .ref 37), (3, .int v3)] [.int c36, .int c35] LY88 h R
                                    refine seg_Bg (pc' := (if c35 = c36 then 917 else 632)) (lv' := [(0, .retAddr 0), (1, .ref 0), (2, .ref 37), (3, .int v3)]) (st' := []) (lay' := LY88) (h' := h) 1 rfl ?_
                                    refine pc_ite e (fun e => ?_) (fun e => ?_)
                                    · refine seg_Bg (pc' := 18) (lv' := [(0, .retAddr 0), (1, .ref 0), (2, .ref 37), (3, .int (v3 + 5))]) (st' := []) (lay' := LY88) (h' := h) 2 rfl ?_
                                      exact hH (v3 + 5, h) (Option.some.inj e).symm
                                    · refine seg_Bg (pc' := 633) (lv' := [(0, .retAddr 0), (1, .ref 0), (2, .ref 37), (3, .int v3)]) (st' := [.int 0]) (lay' := LY88) (h' := h) 1 rfl ?_
                                      rw [hR (0, h) (Option.some.inj e).symm]; exact ret_Bg rfl
                                  · refine pc_ite e (fun e => ?_) (fun e => ?_)
                                    · refine seg_Bg (pc' := 639) (lv' := [(0, .retAddr 0), (1, .ref 0), (2, .ref 37), (3, .int v3)]) (st' := [.int (v3 + (1 : Int32)), .retAddr 0, .ref 0]) (lay' := LY88) (h' := h) 5 rfl ?_
                                      refine gd_Bg (pc' := 640) (lv' := [(0, .retAddr 0), (1, .ref 0), (2, .ref 37), (3, .int v3)]) (st' := [.int (xs (Int32.toNatClampNeg (v3 + (1 : Int32)))), .ref 0]) (lay' := LY88) (h' := h) (g := (ibB (v3 + (1 : Int32)) L && true)) rfl e fun e => ?_
                                      refine seg_Bg (pc' := 644) (lv' := [(0, .retAddr 0), (1, .ref 0), (2, .ref 37), (3, .int v3)]) (st' := [.int (v3 + (2 : Int32)), .retAddr 0, .int (xs (Int32.toNatClampNeg (v3 + (1 : Int32)))), .ref 0]) (lay' := LY88) (h' := h) 4 rfl ?_
                                      refine gd_Bg (pc' := 645) (lv' := [(0, .retAddr 0), (1, .ref 0), (2, .ref 37), (3, .int v3)]) (st' := [.int (xs (Int32.toNatClampNeg (v3 + (2 : Int32)))), .int (xs (Int32.toNatClampNeg (v3 + (1 : Int32)))), .ref 0]) (lay' := LY88) (h' := h) (g := (ibB (v3 + (2 : Int32)) L && true)) rfl e fun e => ?_
                                      refine seg_Bg (pc' := 649) (lv' := [(0, .retAddr 0), (1, .ref 0), (2, .ref 37), (3, .int v3)]) (st' := [.int (v3 + (3 : Int32)), .retAddr 0, .int (xs (Int32.toNatClampNeg (v3 + (2 : Int32)))), .int (xs (Int32.toNatClampNeg (v3 + (1 : Int32)))), .ref 0]) (lay' := LY88) (h' := h) 4 rfl ?_
                                      refine gd_Bg (pc' := 650) (lv' := [(0, .retAddr 0), (1, .ref 0), (2, .ref 37), (3, .int v3)]) (st' := [.int (xs (Int32.toNatClampNeg (v3 + (3 : Int32)))), .int (xs (Int32.toNatClampNeg (v3 + (2 : Int32)))), .int (xs (Int32.toNatClampNeg (v3 + (1 : Int32)))), .ref 0]) (lay' := LY88) (h' := h) (g := (ibB (v3 + (3 : Int32)) L && true)) rfl e fun e => ?_
                                      refine seg_Bg (pc' := 654) (lv' := [(0, .retAddr 0), (1, .ref 0), (2, .ref 37), (3, .int v3)]) (st' := [.int (v3 + (4 : Int32)), .retAddr 0, .int (xs (Int32.toNatClampNeg (v3 + (3 : Int32)))), .int (xs (Int32.toNatClampNeg (v3 + (2 : Int32)))), .int (xs (Int32.toNatClampNeg (v3 + (1 : Int32)))), .ref 0]) (lay' := LY88) (h' := h) 4 rfl ?_
                                      refine gd_Bg (pc' := 655) (lv' := [(0, .retAddr 0), (1, .ref 0), (2, .ref 37), (3, .int v3)]) (st' := [.int (xs (Int32.toNatClampNeg (v3 + (4 : Int32)))), .int (xs (Int32.toNatClampNeg (v3 + (3 : Int32)))), .int (xs (Int32.toNatClampNeg (v3 + (2 : Int32)))), .int (xs (Int32.toNatClampNeg (v3 + (1 : Int32)))), .ref 0]) (lay' := LY88) (h' := h) (g := (ibB (v3 + (4 : Int32)) L && true)) rfl e fun e => ?_
                                      refine call_Bg (a := 147) (la := [(0, .ref 0), (1, .int (xs (Int32.toNatClampNeg (v3 + (1 : Int32))))), (2, .int (xs (Int32.toNatClampNeg (v3 + (2 : Int32))))), (3, .int (xs (Int32.toNatClampNeg (v3 + (3 : Int32))))), (4, .int (xs (Int32.toNatClampNeg (v3 + (4 : Int32)))))]) (np := 658) (lv' := [(0, .retAddr 0), (1, .ref 0), (2, .ref 37), (3, .int v3)]) (rest := []) (res := fun r => ([.int r.1], LY88, r.2)) rfl e (fun r e => BJyn_put L xs (xs (Int32.toNatClampNeg (v3 + (1 : Int32)))) (xs (Int32.toNatClampNeg (v3 + (2 : Int32)))) (xs (Int32.toNatClampNeg (v3 + (3 : Int32)))) (xs (Int32.toNatClampNeg (v3 + (4 : Int32)))) h r e) (fun c37 e => ?_)
                                      show Bg L xs 252 658 [(0, .retAddr 0), (1, .ref 0), (2, .ref 37), (3, .int v3)] [.int c37.1] LY88 c37.2 R
                                      refine seg_Bg (pc' := 663) (lv' := [(0, .retAddr 0), (1, .ref 0), (2, .ref 37), (3, .int v3)]) (st' := [.int (v3 + (1 : Int32)), .retAddr 0, .ref 37, .int c37.1]) (lay' := LY88) (h' := c37.2) 5 rfl ?_
                                      refine gd_Bg (pc' := 664) (lv' := [(0, .retAddr 0), (1, .ref 0), (2, .ref 37), (3, .int v3)]) (st' := [.int (xs (Int32.toNatClampNeg (v3 + (1 : Int32)))), .ref 37, .int c37.1]) (lay' := LY88) (h' := c37.2) (g := (ibB (v3 + (1 : Int32)) L && true)) rfl e fun e => ?_
                                      refine seg_Bg (pc' := 668) (lv' := [(0, .retAddr 0), (1, .ref 0), (2, .ref 37), (3, .int v3)]) (st' := [.int (v3 + (2 : Int32)), .retAddr 0, .int (xs (Int32.toNatClampNeg (v3 + (1 : Int32)))), .ref 37, .int c37.1]) (lay' := LY88) (h' := c37.2) 4 rfl ?_
                                      refine gd_Bg (pc' := 669) (lv' := [(0, .retAddr 0), (1, .ref 0), (2, .ref 37), (3, .int v3)]) (st' := [.int (xs (Int32.toNatClampNeg (v3 + (2 : Int32)))), .int (xs (Int32.toNatClampNeg (v3 + (1 : Int32)))), .ref 37, .int c37.1]) (lay' := LY88) (h' := c37.2) (g := (ibB (v3 + (2 : Int32)) L && true)) rfl e fun e => ?_
                                      refine seg_Bg (pc' := 673) (lv' := [(0, .retAddr 0), (1, .ref 0), (2, .ref 37), (3, .int v3)]) (st' := [.int (v3 + (3 : Int32)), .retAddr 0, .int (xs (Int32.toNatClampNeg (v3 + (2 : Int32)))), .int (xs (Int32.toNatClampNeg (v3 + (1 : Int32)))), .ref 37, .int c37.1]) (lay' := LY88) (h' := c37.2) 4 rfl ?_
                                      refine gd_Bg (pc' := 674) (lv' := [(0, .retAddr 0), (1, .ref 0), (2, .ref 37), (3, .int v3)]) (st' := [.int (xs (Int32.toNatClampNeg (v3 + (3 : Int32)))), .int (xs (Int32.toNatClampNeg (v3 + (2 : Int32)))), .int (xs (Int32.toNatClampNeg (v3 + (1 : Int32)))), .ref 37, .int c37.1]) (lay' := LY88) (h' := c37.2) (g := (ibB (v3 + (3 : Int32)) L && true)) rfl e fun e => ?_
                                      refine seg_Bg (pc' := 678) (lv' := [(0, .retAddr 0), (1, .ref 0), (2, .ref 37), (3, .int v3)]) (st' := [.int (v3 + (4 : Int32)), .retAddr 0, .int (xs (Int32.toNatClampNeg (v3 + (3 : Int32)))), .int (xs (Int32.toNatClampNeg (v3 + (2 : Int32)))), .int (xs (Int32.toNatClampNeg (v3 + (1 : Int32)))), .ref 37, .int c37.1]) (lay' := LY88) (h' := c37.2) 4 rfl ?_
                                      refine gd_Bg (pc' := 679) (lv' := [(0, .retAddr 0), (1, .ref 0), (2, .ref 37), (3, .int v3)]) (st' := [.int (xs (Int32.toNatClampNeg (v3 + (4 : Int32)))), .int (xs (Int32.toNatClampNeg (v3 + (3 : Int32)))), .int (xs (Int32.toNatClampNeg (v3 + (2 : Int32)))), .int (xs (Int32.toNatClampNeg (v3 + (1 : Int32)))), .ref 37, .int c37.1]) (lay' := LY88) (h' := c37.2) (g := (ibB (v3 + (4 : Int32)) L && true)) rfl e fun e => ?_
                                      refine call_Bg (a := 240) (la := [(0, .ref 37), (1, .int (xs (Int32.toNatClampNeg (v3 + (1 : Int32))))), (2, .int (xs (Int32.toNatClampNeg (v3 + (2 : Int32))))), (3, .int (xs (Int32.toNatClampNeg (v3 + (3 : Int32))))), (4, .int (xs (Int32.toNatClampNeg (v3 + (4 : Int32)))))]) (np := 682) (lv' := [(0, .retAddr 0), (1, .ref 0), (2, .ref 37), (3, .int v3)]) (rest := [.int c37.1]) (res := fun r => ([.int r.1], LY88, r.2)) rfl e (fun r e => BJm_put L xs (xs (Int32.toNatClampNeg (v3 + (1 : Int32)))) (xs (Int32.toNatClampNeg (v3 + (2 : Int32)))) (xs (Int32.toNatClampNeg (v3 + (3 : Int32)))) (xs (Int32.toNatClampNeg (v3 + (4 : Int32)))) c37.2 r e) (fun c38 e => ?_)
                                      show Bg L xs 252 682 [(0, .retAddr 0), (1, .ref 0), (2, .ref 37), (3, .int v3)] [.int c38.1, .int c37.1] LY88 c38.2 R
                                      refine seg_Bg (pc' := (if c37.1 = c38.1 then 917 else 685)) (lv' := [(0, .retAddr 0), (1, .ref 0), (2, .ref 37), (3, .int v3)]) (st' := []) (lay' := LY88) (h' := c38.2) 1 rfl ?_
                                      refine pc_ite e (fun e => ?_) (fun e => ?_)
                                      · refine seg_Bg (pc' := 18) (lv' := [(0, .retAddr 0), (1, .ref 0), (2, .ref 37), (3, .int (v3 + 5))]) (st' := []) (lay' := LY88) (h' := c38.2) 2 rfl ?_
                                        exact hH (v3 + 5, c38.2) (Option.some.inj e).symm
                                      · refine seg_Bg (pc' := 686) (lv' := [(0, .retAddr 0), (1, .ref 0), (2, .ref 37), (3, .int v3)]) (st' := [.int 0]) (lay' := LY88) (h' := c38.2) 1 rfl ?_
                                        rw [hR (0, c38.2) (Option.some.inj e).symm]; exact ret_Bg rfl
                                    · refine pc_ite e (fun e => ?_) (fun e => ?_)
                                      · refine seg_Bg (pc' := 692) (lv' := [(0, .retAddr 0), (1, .ref 0), (2, .ref 37), (3, .int v3)]) (st' := [.int (v3 + (1 : Int32)), .retAddr 0, .ref 0]) (lay' := LY88) (h' := h) 5 rfl ?_
                                        refine gd_Bg (pc' := 693) (lv' := [(0, .retAddr 0), (1, .ref 0), (2, .ref 37), (3, .int v3)]) (st' := [.int (xs (Int32.toNatClampNeg (v3 + (1 : Int32)))), .ref 0]) (lay' := LY88) (h' := h) (g := (ibB (v3 + (1 : Int32)) L && true)) rfl e fun e => ?_
                                        refine call_Bg (a := 148) (la := [(0, .ref 0), (1, .int (xs (Int32.toNatClampNeg (v3 + (1 : Int32)))))]) (np := 696) (lv' := [(0, .retAddr 0), (1, .ref 0), (2, .ref 37), (3, .int v3)]) (rest := []) (res := fun r => ([.int r.1], LY88, r.2)) rfl e (fun r e => BJyn_turn L xs (xs (Int32.toNatClampNeg (v3 + (1 : Int32)))) h r e) (fun c39 e => ?_)
                                        show Bg L xs 252 696 [(0, .retAddr 0), (1, .ref 0), (2, .ref 37), (3, .int v3)] [.int c39.1] LY88 c39.2 R
                                        refine seg_Bg (pc' := 701) (lv' := [(0, .retAddr 0), (1, .ref 0), (2, .ref 37), (3, .int v3)]) (st' := [.int (v3 + (1 : Int32)), .retAddr 0, .ref 37, .int c39.1]) (lay' := LY88) (h' := c39.2) 5 rfl ?_
                                        refine gd_Bg (pc' := 702) (lv' := [(0, .retAddr 0), (1, .ref 0), (2, .ref 37), (3, .int v3)]) (st' := [.int (xs (Int32.toNatClampNeg (v3 + (1 : Int32)))), .ref 37, .int c39.1]) (lay' := LY88) (h' := c39.2) (g := (ibB (v3 + (1 : Int32)) L && true)) rfl e fun e => ?_
                                        refine call_Bg (a := 241) (la := [(0, .ref 37), (1, .int (xs (Int32.toNatClampNeg (v3 + (1 : Int32)))))]) (np := 705) (lv' := [(0, .retAddr 0), (1, .ref 0), (2, .ref 37), (3, .int v3)]) (rest := [.int c39.1]) (res := fun r => ([.int r.1], LY88, r.2)) rfl e (fun r e => BJm_turn L xs (xs (Int32.toNatClampNeg (v3 + (1 : Int32)))) c39.2 r e) (fun c40 e => ?_)
                                        show Bg L xs 252 705 [(0, .retAddr 0), (1, .ref 0), (2, .ref 37), (3, .int v3)] [.int c40.1, .int c39.1] LY88 c40.2 R
                                        refine seg_Bg (pc' := (if c39.1 = c40.1 then 917 else 708)) (lv' := [(0, .retAddr 0), (1, .ref 0), (2, .ref 37), (3, .int v3)]) (st' := []) (lay' := LY88) (h' := c40.2) 1 rfl ?_
                                        refine pc_ite e (fun e => ?_) (fun e => ?_)
                                        · refine seg_Bg (pc' := 18) (lv' := [(0, .retAddr 0), (1, .ref 0), (2, .ref 37), (3, .int (v3 + 5))]) (st' := []) (lay' := LY88) (h' := c40.2) 2 rfl ?_
                                          exact hH (v3 + 5, c40.2) (Option.some.inj e).symm
                                        · refine seg_Bg (pc' := 709) (lv' := [(0, .retAddr 0), (1, .ref 0), (2, .ref 37), (3, .int v3)]) (st' := [.int 0]) (lay' := LY88) (h' := c40.2) 1 rfl ?_
                                          rw [hR (0, c40.2) (Option.some.inj e).symm]; exact ret_Bg rfl
                                      · refine pc_ite e (fun e => ?_) (fun e => ?_)
                                        · refine seg_Bg (pc' := 715) (lv' := [(0, .retAddr 0), (1, .ref 0), (2, .ref 37), (3, .int v3)]) (st' := [.int (v3 + (1 : Int32)), .retAddr 0, .ref 0]) (lay' := LY88) (h' := h) 5 rfl ?_
                                          refine gd_Bg (pc' := 716) (lv' := [(0, .retAddr 0), (1, .ref 0), (2, .ref 37), (3, .int v3)]) (st' := [.int (xs (Int32.toNatClampNeg (v3 + (1 : Int32)))), .ref 0]) (lay' := LY88) (h' := h) (g := (ibB (v3 + (1 : Int32)) L && true)) rfl e fun e => ?_
                                          refine call_Bg (a := 149) (la := [(0, .ref 0), (1, .int (xs (Int32.toNatClampNeg (v3 + (1 : Int32)))))]) (np := 719) (lv' := [(0, .retAddr 0), (1, .ref 0), (2, .ref 37), (3, .int v3)]) (rest := []) (res := fun r => ([.int r.1], LY88, r.2)) rfl e (fun r e => BJyn_take L xs (xs (Int32.toNatClampNeg (v3 + (1 : Int32)))) h r e) (fun c41 e => ?_)
                                          show Bg L xs 252 719 [(0, .retAddr 0), (1, .ref 0), (2, .ref 37), (3, .int v3)] [.int c41.1] LY88 c41.2 R
                                          refine seg_Bg (pc' := 724) (lv' := [(0, .retAddr 0), (1, .ref 0), (2, .ref 37), (3, .int v3)]) (st' := [.int (v3 + (1 : Int32)), .retAddr 0, .ref 37, .int c41.1]) (lay' := LY88) (h' := c41.2) 5 rfl ?_
                                          refine gd_Bg (pc' := 725) (lv' := [(0, .retAddr 0), (1, .ref 0), (2, .ref 37), (3, .int v3)]) (st' := [.int (xs (Int32.toNatClampNeg (v3 + (1 : Int32)))), .ref 37, .int c41.1]) (lay' := LY88) (h' := c41.2) (g := (ibB (v3 + (1 : Int32)) L && true)) rfl e fun e => ?_
                                          refine call_Bg (a := 242) (la := [(0, .ref 37), (1, .int (xs (Int32.toNatClampNeg (v3 + (1 : Int32)))))]) (np := 728) (lv' := [(0, .retAddr 0), (1, .ref 0), (2, .ref 37), (3, .int v3)]) (rest := [.int c41.1]) (res := fun r => ([.int r.1], LY88, r.2)) rfl e (fun r e => BJm_take L xs (xs (Int32.toNatClampNeg (v3 + (1 : Int32)))) c41.2 r e) (fun c42 e => ?_)
                                          show Bg L xs 252 728 [(0, .retAddr 0), (1, .ref 0), (2, .ref 37), (3, .int v3)] [.int c42.1, .int c41.1] LY88 c42.2 R
                                          refine seg_Bg (pc' := (if c41.1 = c42.1 then 917 else 731)) (lv' := [(0, .retAddr 0), (1, .ref 0), (2, .ref 37), (3, .int v3)]) (st' := []) (lay' := LY88) (h' := c42.2) 1 rfl ?_
                                          refine pc_ite e (fun e => ?_) (fun e => ?_)
                                          · refine seg_Bg (pc' := 18) (lv' := [(0, .retAddr 0), (1, .ref 0), (2, .ref 37), (3, .int (v3 + 5))]) (st' := []) (lay' := LY88) (h' := c42.2) 2 rfl ?_
                                            exact hH (v3 + 5, c42.2) (Option.some.inj e).symm
                                          · refine seg_Bg (pc' := 732) (lv' := [(0, .retAddr 0), (1, .ref 0), (2, .ref 37), (3, .int v3)]) (st' := [.int 0]) (lay' := LY88) (h' := c42.2) 1 rfl ?_
                                            rw [hR (0, c42.2) (Option.some.inj e).symm]; exact ret_Bg rfl
                                        · refine pc_ite e (fun e => ?_) (fun e => ?_)
                                          · refine seg_Bg (pc' := 738) (lv' := [(0, .retAddr 0), (1, .ref 0), (2, .ref 37), (3, .int v3)]) (st' := [.int (v3 + (1 : Int32)), .retAddr 0, .ref 0]) (lay' := LY88) (h' := h) 5 rfl ?_
                                            refine gd_Bg (pc' := 739) (lv' := [(0, .retAddr 0), (1, .ref 0), (2, .ref 37), (3, .int v3)]) (st' := [.int (xs (Int32.toNatClampNeg (v3 + (1 : Int32)))), .ref 0]) (lay' := LY88) (h' := h) (g := (ibB (v3 + (1 : Int32)) L && true)) rfl e fun e => ?_
                                            refine call_Bg (a := 150) (la := [(0, .ref 0), (1, .int (xs (Int32.toNatClampNeg (v3 + (1 : Int32)))))]) (np := 742) (lv' := [(0, .retAddr 0), (1, .ref 0), (2, .ref 37), (3, .int v3)]) (rest := []) (res := fun r => ([.int r.1], LY88, r.2)) rfl e (fun r e => BJyn_base L xs (xs (Int32.toNatClampNeg (v3 + (1 : Int32)))) h r e) (fun c43 e => ?_)
                                            show Bg L xs 252 742 [(0, .retAddr 0), (1, .ref 0), (2, .ref 37), (3, .int v3)] [.int c43.1] LY88 c43.2 R
                                            refine seg_Bg (pc' := 747) (lv' := [(0, .retAddr 0), (1, .ref 0), (2, .ref 37), (3, .int v3)]) (st' := [.int (v3 + (1 : Int32)), .retAddr 0, .ref 37, .int c43.1]) (lay' := LY88) (h' := c43.2) 5 rfl ?_
                                            refine gd_Bg (pc' := 748) (lv' := [(0, .retAddr 0), (1, .ref 0), (2, .ref 37), (3, .int v3)]) (st' := [.int (xs (Int32.toNatClampNeg (v3 + (1 : Int32)))), .ref 37, .int c43.1]) (lay' := LY88) (h' := c43.2) (g := (ibB (v3 + (1 : Int32)) L && true)) rfl e fun e => ?_
                                            refine call_Bg (a := 243) (la := [(0, .ref 37), (1, .int (xs (Int32.toNatClampNeg (v3 + (1 : Int32)))))]) (np := 751) (lv' := [(0, .retAddr 0), (1, .ref 0), (2, .ref 37), (3, .int v3)]) (rest := [.int c43.1]) (res := fun r => ([.int r.1], LY88, r.2)) rfl e (fun r e => BJm_base L xs (xs (Int32.toNatClampNeg (v3 + (1 : Int32)))) c43.2 r e) (fun c44 e => ?_)
                                            show Bg L xs 252 751 [(0, .retAddr 0), (1, .ref 0), (2, .ref 37), (3, .int v3)] [.int c44.1, .int c43.1] LY88 c44.2 R
                                            refine seg_Bg (pc' := (if c43.1 = c44.1 then 917 else 754)) (lv' := [(0, .retAddr 0), (1, .ref 0), (2, .ref 37), (3, .int v3)]) (st' := []) (lay' := LY88) (h' := c44.2) 1 rfl ?_
                                            refine pc_ite e (fun e => ?_) (fun e => ?_)
                                            · refine seg_Bg (pc' := 18) (lv' := [(0, .retAddr 0), (1, .ref 0), (2, .ref 37), (3, .int (v3 + 5))]) (st' := []) (lay' := LY88) (h' := c44.2) 2 rfl ?_
                                              exact hH (v3 + 5, c44.2) (Option.some.inj e).symm
                                            · refine seg_Bg (pc' := 755) (lv' := [(0, .retAddr 0), (1, .ref 0), (2, .ref 37), (3, .int v3)]) (st' := [.int 0]) (lay' := LY88) (h' := c44.2) 1 rfl ?_
                                              rw [hR (0, c44.2) (Option.some.inj e).symm]; exact ret_Bg rfl
                                          · refine pc_ite e (fun e => ?_) (fun e => ?_)
                                            · refine seg_Bg (pc' := 761) (lv' := [(0, .retAddr 0), (1, .ref 0), (2, .ref 37), (3, .int v3)]) (st' := [.int (v3 + (1 : Int32)), .retAddr 0, .ref 0]) (lay' := LY88) (h' := h) 5 rfl ?_
                                              refine gd_Bg (pc' := 762) (lv' := [(0, .retAddr 0), (1, .ref 0), (2, .ref 37), (3, .int v3)]) (st' := [.int (xs (Int32.toNatClampNeg (v3 + (1 : Int32)))), .ref 0]) (lay' := LY88) (h' := h) (g := (ibB (v3 + (1 : Int32)) L && true)) rfl e fun e => ?_
                                              refine call_Bg (a := 151) (la := [(0, .ref 0), (1, .int (xs (Int32.toNatClampNeg (v3 + (1 : Int32)))))]) (np := 765) (lv' := [(0, .retAddr 0), (1, .ref 0), (2, .ref 37), (3, .int v3)]) (rest := []) (res := fun r => ([.int r.1], LY88, r.2)) rfl e (fun r e => BJyn_drift L xs (xs (Int32.toNatClampNeg (v3 + (1 : Int32)))) h r e) (fun c45 e => ?_)
                                              show Bg L xs 252 765 [(0, .retAddr 0), (1, .ref 0), (2, .ref 37), (3, .int v3)] [.int c45.1] LY88 c45.2 R
                                              refine seg_Bg (pc' := 770) (lv' := [(0, .retAddr 0), (1, .ref 0), (2, .ref 37), (3, .int v3)]) (st' := [.int (v3 + (1 : Int32)), .retAddr 0, .ref 37, .int c45.1]) (lay' := LY88) (h' := c45.2) 5 rfl ?_
                                              refine gd_Bg (pc' := 771) (lv' := [(0, .retAddr 0), (1, .ref 0), (2, .ref 37), (3, .int v3)]) (st' := [.int (xs (Int32.toNatClampNeg (v3 + (1 : Int32)))), .ref 37, .int c45.1]) (lay' := LY88) (h' := c45.2) (g := (ibB (v3 + (1 : Int32)) L && true)) rfl e fun e => ?_
                                              refine call_Bg (a := 245) (la := [(0, .ref 37), (1, .int (xs (Int32.toNatClampNeg (v3 + (1 : Int32)))))]) (np := 774) (lv' := [(0, .retAddr 0), (1, .ref 0), (2, .ref 37), (3, .int v3)]) (rest := [.int c45.1]) (res := fun r => ([.int r.1], LY88, r.2)) rfl e (fun r e => BJm_drift L xs (xs (Int32.toNatClampNeg (v3 + (1 : Int32)))) c45.2 r e) (fun c46 e => ?_)
                                              show Bg L xs 252 774 [(0, .retAddr 0), (1, .ref 0), (2, .ref 37), (3, .int v3)] [.int c46.1, .int c45.1] LY88 c46.2 R
                                              refine seg_Bg (pc' := (if c45.1 = c46.1 then 917 else 777)) (lv' := [(0, .retAddr 0), (1, .ref 0), (2, .ref 37), (3, .int v3)]) (st' := []) (lay' := LY88) (h' := c46.2) 1 rfl ?_
                                              refine pc_ite e (fun e => ?_) (fun e => ?_)
                                              · refine seg_Bg (pc' := 18) (lv' := [(0, .retAddr 0), (1, .ref 0), (2, .ref 37), (3, .int (v3 + 5))]) (st' := []) (lay' := LY88) (h' := c46.2) 2 rfl ?_
                                                exact hH (v3 + 5, c46.2) (Option.some.inj e).symm
                                              · refine seg_Bg (pc' := 778) (lv' := [(0, .retAddr 0), (1, .ref 0), (2, .ref 37), (3, .int v3)]) (st' := [.int 0]) (lay' := LY88) (h' := c46.2) 1 rfl ?_
                                                rw [hR (0, c46.2) (Option.some.inj e).symm]; exact ret_Bg rfl
                                            · refine pc_ite e (fun e => ?_) (fun e => ?_)
                                              · refine seg_Bg (pc' := 784) (lv' := [(0, .retAddr 0), (1, .ref 0), (2, .ref 37), (3, .int v3)]) (st' := [.int (v3 + (1 : Int32)), .retAddr 0, .ref 0]) (lay' := LY88) (h' := h) 5 rfl ?_
                                                refine gd_Bg (pc' := 785) (lv' := [(0, .retAddr 0), (1, .ref 0), (2, .ref 37), (3, .int v3)]) (st' := [.int (xs (Int32.toNatClampNeg (v3 + (1 : Int32)))), .ref 0]) (lay' := LY88) (h' := h) (g := (ibB (v3 + (1 : Int32)) L && true)) rfl e fun e => ?_
                                                refine call_Bg (a := 152) (la := [(0, .ref 0), (1, .int (xs (Int32.toNatClampNeg (v3 + (1 : Int32)))))]) (np := 788) (lv' := [(0, .retAddr 0), (1, .ref 0), (2, .ref 37), (3, .int v3)]) (rest := []) (res := fun r => ([.int r.1], LY88, r.2)) rfl e (fun r e => BJyn_undo L xs (xs (Int32.toNatClampNeg (v3 + (1 : Int32)))) h r e) (fun c47 e => ?_)
                                                show Bg L xs 252 788 [(0, .retAddr 0), (1, .ref 0), (2, .ref 37), (3, .int v3)] [.int c47.1] LY88 c47.2 R
                                                refine seg_Bg (pc' := 793) (lv' := [(0, .retAddr 0), (1, .ref 0), (2, .ref 37), (3, .int v3)]) (st' := [.int (v3 + (1 : Int32)), .retAddr 0, .ref 37, .int c47.1]) (lay' := LY88) (h' := c47.2) 5 rfl ?_
                                                refine gd_Bg (pc' := 794) (lv' := [(0, .retAddr 0), (1, .ref 0), (2, .ref 37), (3, .int v3)]) (st' := [.int (xs (Int32.toNatClampNeg (v3 + (1 : Int32)))), .ref 37, .int c47.1]) (lay' := LY88) (h' := c47.2) (g := (ibB (v3 + (1 : Int32)) L && true)) rfl e fun e => ?_
                                                refine call_Bg (a := 246) (la := [(0, .ref 37), (1, .int (xs (Int32.toNatClampNeg (v3 + (1 : Int32)))))]) (np := 797) (lv' := [(0, .retAddr 0), (1, .ref 0), (2, .ref 37), (3, .int v3)]) (rest := [.int c47.1]) (res := fun r => ([.int r.1], LY88, r.2)) rfl e (fun r e => BJm_undo L xs (xs (Int32.toNatClampNeg (v3 + (1 : Int32)))) c47.2 r e) (fun c48 e => ?_)
                                                show Bg L xs 252 797 [(0, .retAddr 0), (1, .ref 0), (2, .ref 37), (3, .int v3)] [.int c48.1, .int c47.1] LY88 c48.2 R
                                                refine seg_Bg (pc' := (if c47.1 = c48.1 then 917 else 800)) (lv' := [(0, .retAddr 0), (1, .ref 0), (2, .ref 37), (3, .int v3)]) (st' := []) (lay' := LY88) (h' := c48.2) 1 rfl ?_
                                                refine pc_ite e (fun e => ?_) (fun e => ?_)
                                                · refine seg_Bg (pc' := 18) (lv' := [(0, .retAddr 0), (1, .ref 0), (2, .ref 37), (3, .int (v3 + 5))]) (st' := []) (lay' := LY88) (h' := c48.2) 2 rfl ?_
                                                  exact hH (v3 + 5, c48.2) (Option.some.inj e).symm
                                                · refine seg_Bg (pc' := 801) (lv' := [(0, .retAddr 0), (1, .ref 0), (2, .ref 37), (3, .int v3)]) (st' := [.int 0]) (lay' := LY88) (h' := c48.2) 1 rfl ?_
                                                  rw [hR (0, c48.2) (Option.some.inj e).symm]; exact ret_Bg rfl
                                              · refine pc_ite e (fun e => ?_) (fun e => ?_)
                                                · refine seg_Bg (pc' := 807) (lv' := [(0, .retAddr 0), (1, .ref 0), (2, .ref 37), (3, .int v3)]) (st' := [.int (v3 + (1 : Int32)), .retAddr 0, .ref 0]) (lay' := LY88) (h' := h) 5 rfl ?_
                                                  refine gd_Bg (pc' := 808) (lv' := [(0, .retAddr 0), (1, .ref 0), (2, .ref 37), (3, .int v3)]) (st' := [.int (xs (Int32.toNatClampNeg (v3 + (1 : Int32)))), .ref 0]) (lay' := LY88) (h' := h) (g := (ibB (v3 + (1 : Int32)) L && true)) rfl e fun e => ?_
                                                  refine seg_Bg (pc' := 812) (lv' := [(0, .retAddr 0), (1, .ref 0), (2, .ref 37), (3, .int v3)]) (st' := [.int (v3 + (2 : Int32)), .retAddr 0, .int (xs (Int32.toNatClampNeg (v3 + (1 : Int32)))), .ref 0]) (lay' := LY88) (h' := h) 4 rfl ?_
                                                  refine gd_Bg (pc' := 813) (lv' := [(0, .retAddr 0), (1, .ref 0), (2, .ref 37), (3, .int v3)]) (st' := [.int (xs (Int32.toNatClampNeg (v3 + (2 : Int32)))), .int (xs (Int32.toNatClampNeg (v3 + (1 : Int32)))), .ref 0]) (lay' := LY88) (h' := h) (g := (ibB (v3 + (2 : Int32)) L && true)) rfl e fun e => ?_
                                                  refine call_Bg (a := 153) (la := [(0, .ref 0), (1, .int (xs (Int32.toNatClampNeg (v3 + (1 : Int32))))), (2, .int (xs (Int32.toNatClampNeg (v3 + (2 : Int32)))))]) (np := 816) (lv' := [(0, .retAddr 0), (1, .ref 0), (2, .ref 37), (3, .int v3)]) (rest := []) (res := fun r => ([.int r.1], LY88, r.2)) rfl e (fun r e => BJyn_write L xs (xs (Int32.toNatClampNeg (v3 + (1 : Int32)))) (xs (Int32.toNatClampNeg (v3 + (2 : Int32)))) h r e) (fun c49 e => ?_)
                                                  show Bg L xs 252 816 [(0, .retAddr 0), (1, .ref 0), (2, .ref 37), (3, .int v3)] [.int c49.1] LY88 c49.2 R
                                                  refine seg_Bg (pc' := 821) (lv' := [(0, .retAddr 0), (1, .ref 0), (2, .ref 37), (3, .int v3)]) (st' := [.int (v3 + (1 : Int32)), .retAddr 0, .ref 37, .int c49.1]) (lay' := LY88) (h' := c49.2) 5 rfl ?_
                                                  refine gd_Bg (pc' := 822) (lv' := [(0, .retAddr 0), (1, .ref 0), (2, .ref 37), (3, .int v3)]) (st' := [.int (xs (Int32.toNatClampNeg (v3 + (1 : Int32)))), .ref 37, .int c49.1]) (lay' := LY88) (h' := c49.2) (g := (ibB (v3 + (1 : Int32)) L && true)) rfl e fun e => ?_
                                                  refine seg_Bg (pc' := 826) (lv' := [(0, .retAddr 0), (1, .ref 0), (2, .ref 37), (3, .int v3)]) (st' := [.int (v3 + (2 : Int32)), .retAddr 0, .int (xs (Int32.toNatClampNeg (v3 + (1 : Int32)))), .ref 37, .int c49.1]) (lay' := LY88) (h' := c49.2) 4 rfl ?_
                                                  refine gd_Bg (pc' := 827) (lv' := [(0, .retAddr 0), (1, .ref 0), (2, .ref 37), (3, .int v3)]) (st' := [.int (xs (Int32.toNatClampNeg (v3 + (2 : Int32)))), .int (xs (Int32.toNatClampNeg (v3 + (1 : Int32)))), .ref 37, .int c49.1]) (lay' := LY88) (h' := c49.2) (g := (ibB (v3 + (2 : Int32)) L && true)) rfl e fun e => ?_
                                                  refine call_Bg (a := 247) (la := [(0, .ref 37), (1, .int (xs (Int32.toNatClampNeg (v3 + (1 : Int32))))), (2, .int (xs (Int32.toNatClampNeg (v3 + (2 : Int32)))))]) (np := 830) (lv' := [(0, .retAddr 0), (1, .ref 0), (2, .ref 37), (3, .int v3)]) (rest := [.int c49.1]) (res := fun r => ([.int r.1], LY88, r.2)) rfl e (fun r e => BJm_write L xs (xs (Int32.toNatClampNeg (v3 + (1 : Int32)))) (xs (Int32.toNatClampNeg (v3 + (2 : Int32)))) c49.2 r e) (fun c50 e => ?_)
                                                  show Bg L xs 252 830 [(0, .retAddr 0), (1, .ref 0), (2, .ref 37), (3, .int v3)] [.int c50.1, .int c49.1] LY88 c50.2 R
                                                  refine seg_Bg (pc' := (if c49.1 = c50.1 then 917 else 833)) (lv' := [(0, .retAddr 0), (1, .ref 0), (2, .ref 37), (3, .int v3)]) (st' := []) (lay' := LY88) (h' := c50.2) 1 rfl ?_
                                                  refine pc_ite e (fun e => ?_) (fun e => ?_)
                                                  · refine seg_Bg (pc' := 18) (lv' := [(0, .retAddr 0), (1, .ref 0), (2, .ref 37), (3, .int (v3 + 5))]) (st' := []) (lay' := LY88) (h' := c50.2) 2 rfl ?_
                                                    exact hH (v3 + 5, c50.2) (Option.some.inj e).symm
                                                  · refine seg_Bg (pc' := 834) (lv' := [(0, .retAddr 0), (1, .ref 0), (2, .ref 37), (3, .int v3)]) (st' := [.int 0]) (lay' := LY88) (h' := c50.2) 1 rfl ?_
                                                    rw [hR (0, c50.2) (Option.some.inj e).symm]; exact ret_Bg rfl
                                                · refine pc_ite e (fun e => ?_) (fun e => ?_)
                                                  · refine seg_Bg (pc' := 836) (lv' := [(0, .retAddr 0), (1, .ref 0), (2, .ref 37), (3, .int v3)]) (st' := [.ref 0]) (lay' := LY88) (h' := h) 1 rfl ?_
                                                    refine call_Bg (a := 154) (la := [(0, .ref 0)]) (np := 839) (lv' := [(0, .retAddr 0), (1, .ref 0), (2, .ref 37), (3, .int v3)]) (rest := []) (res := fun r => ([.int r.1], LY88, r.2)) rfl e (fun r e => BJyn_tear L xs h r e) (fun c51 e => ?_)
                                                    show Bg L xs 252 839 [(0, .retAddr 0), (1, .ref 0), (2, .ref 37), (3, .int v3)] [.int c51.1] LY88 c51.2 R
                                                    refine seg_Bg (pc' := 840) (lv' := [(0, .retAddr 0), (1, .ref 0), (2, .ref 37), (3, .int v3)]) (st' := [.ref 37, .int c51.1]) (lay' := LY88) (h' := c51.2) 1 rfl ?_
                                                    refine call_Bg (a := 248) (la := [(0, .ref 37)]) (np := 843) (lv' := [(0, .retAddr 0), (1, .ref 0), (2, .ref 37), (3, .int v3)]) (rest := [.int c51.1]) (res := fun r => ([.int r.1], LY88, r.2)) rfl e (fun r e => BJm_tear L xs c51.2 r e) (fun c52 e => ?_)
                                                    show Bg L xs 252 843 [(0, .retAddr 0), (1, .ref 0), (2, .ref 37), (3, .int v3)] [.int c52.1, .int c51.1] LY88 c52.2 R
                                                    refine seg_Bg (pc' := (if c51.1 = c52.1 then 917 else 846)) (lv' := [(0, .retAddr 0), (1, .ref 0), (2, .ref 37), (3, .int v3)]) (st' := []) (lay' := LY88) (h' := c52.2) 1 rfl ?_
                                                    refine pc_ite e (fun e => ?_) (fun e => ?_)
                                                    · refine seg_Bg (pc' := 18) (lv' := [(0, .retAddr 0), (1, .ref 0), (2, .ref 37), (3, .int (v3 + 5))]) (st' := []) (lay' := LY88) (h' := c52.2) 2 rfl ?_
                                                      exact hH (v3 + 5, c52.2) (Option.some.inj e).symm
                                                    · refine seg_Bg (pc' := 847) (lv' := [(0, .retAddr 0), (1, .ref 0), (2, .ref 37), (3, .int v3)]) (st' := [.int 0]) (lay' := LY88) (h' := c52.2) 1 rfl ?_
                                                      rw [hR (0, c52.2) (Option.some.inj e).symm]; exact ret_Bg rfl
                                                  · refine pc_ite e (fun e => ?_) (fun e => ?_)
                                                    · refine seg_Bg (pc' := 853) (lv' := [(0, .retAddr 0), (1, .ref 0), (2, .ref 37), (3, .int v3)]) (st' := [.int (v3 + (1 : Int32)), .retAddr 0, .ref 0]) (lay' := LY88) (h' := h) 5 rfl ?_
                                                      refine gd_Bg (pc' := 854) (lv' := [(0, .retAddr 0), (1, .ref 0), (2, .ref 37), (3, .int v3)]) (st' := [.int (xs (Int32.toNatClampNeg (v3 + (1 : Int32)))), .ref 0]) (lay' := LY88) (h' := h) (g := (ibB (v3 + (1 : Int32)) L && true)) rfl e fun e => ?_
                                                      refine call_Bg (a := 155) (la := [(0, .ref 0), (1, .int (xs (Int32.toNatClampNeg (v3 + (1 : Int32)))))]) (np := 857) (lv' := [(0, .retAddr 0), (1, .ref 0), (2, .ref 37), (3, .int v3)]) (rest := []) (res := fun r => ([.int r.1], LY88, r.2)) rfl e (fun r e => BJyn_seed L xs (xs (Int32.toNatClampNeg (v3 + (1 : Int32)))) h r e) (fun c53 e => ?_)
                                                      show Bg L xs 252 857 [(0, .retAddr 0), (1, .ref 0), (2, .ref 37), (3, .int v3)] [.int c53.1] LY88 c53.2 R
                                                      refine seg_Bg (pc' := 862) (lv' := [(0, .retAddr 0), (1, .ref 0), (2, .ref 37), (3, .int v3)]) (st' := [.int (v3 + (1 : Int32)), .retAddr 0, .ref 37, .int c53.1]) (lay' := LY88) (h' := c53.2) 5 rfl ?_
                                                      refine gd_Bg (pc' := 863) (lv' := [(0, .retAddr 0), (1, .ref 0), (2, .ref 37), (3, .int v3)]) (st' := [.int (xs (Int32.toNatClampNeg (v3 + (1 : Int32)))), .ref 37, .int c53.1]) (lay' := LY88) (h' := c53.2) (g := (ibB (v3 + (1 : Int32)) L && true)) rfl e fun e => ?_
                                                      refine call_Bg (a := 249) (la := [(0, .ref 37), (1, .int (xs (Int32.toNatClampNeg (v3 + (1 : Int32)))))]) (np := 866) (lv' := [(0, .retAddr 0), (1, .ref 0), (2, .ref 37), (3, .int v3)]) (rest := [.int c53.1]) (res := fun r => ([.int r.1], LY88, r.2)) rfl e (fun r e => BJm_seed L xs (xs (Int32.toNatClampNeg (v3 + (1 : Int32)))) c53.2 r e) (fun c54 e => ?_)
                                                      show Bg L xs 252 866 [(0, .retAddr 0), (1, .ref 0), (2, .ref 37), (3, .int v3)] [.int c54.1, .int c53.1] LY88 c54.2 R
                                                      refine seg_Bg (pc' := (if c53.1 = c54.1 then 917 else 869)) (lv' := [(0, .retAddr 0), (1, .ref 0), (2, .ref 37), (3, .int v3)]) (st' := []) (lay' := LY88) (h' := c54.2) 1 rfl ?_
                                                      refine pc_ite e (fun e => ?_) (fun e => ?_)
                                                      · refine seg_Bg (pc' := 18) (lv' := [(0, .retAddr 0), (1, .ref 0), (2, .ref 37), (3, .int (v3 + 5))]) (st' := []) (lay' := LY88) (h' := c54.2) 2 rfl ?_
                                                        exact hH (v3 + 5, c54.2) (Option.some.inj e).symm
                                                      · refine seg_Bg (pc' := 870) (lv' := [(0, .retAddr 0), (1, .ref 0), (2, .ref 37), (3, .int v3)]) (st' := [.int 0]) (lay' := LY88) (h' := c54.2) 1 rfl ?_
                                                        rw [hR (0, c54.2) (Option.some.inj e).symm]; exact ret_Bg rfl
                                                    · refine pc_ite e (fun e => ?_) (fun e => ?_)
                                                      · refine seg_Bg (pc' := 876) (lv' := [(0, .retAddr 0), (1, .ref 0), (2, .ref 37), (3, .int v3)]) (st' := [.int (v3 + (1 : Int32)), .retAddr 0, .ref 0]) (lay' := LY88) (h' := h) 5 rfl ?_
                                                        refine gd_Bg (pc' := 877) (lv' := [(0, .retAddr 0), (1, .ref 0), (2, .ref 37), (3, .int v3)]) (st' := [.int (xs (Int32.toNatClampNeg (v3 + (1 : Int32)))), .ref 0]) (lay' := LY88) (h' := h) (g := (ibB (v3 + (1 : Int32)) L && true)) rfl e fun e => ?_
                                                        refine call_Bg (a := 156) (la := [(0, .ref 0), (1, .int (xs (Int32.toNatClampNeg (v3 + (1 : Int32)))))]) (np := 880) (lv' := [(0, .retAddr 0), (1, .ref 0), (2, .ref 37), (3, .int v3)]) (rest := []) (res := fun r => ([.int r.1], LY88, r.2)) rfl e (fun r e => BJyn_keep L xs (xs (Int32.toNatClampNeg (v3 + (1 : Int32)))) h r e) (fun c55 e => ?_)
                                                        show Bg L xs 252 880 [(0, .retAddr 0), (1, .ref 0), (2, .ref 37), (3, .int v3)] [.int c55.1] LY88 c55.2 R
                                                        refine seg_Bg (pc' := 885) (lv' := [(0, .retAddr 0), (1, .ref 0), (2, .ref 37), (3, .int v3)]) (st' := [.int (v3 + (1 : Int32)), .retAddr 0, .ref 37, .int c55.1]) (lay' := LY88) (h' := c55.2) 5 rfl ?_
                                                        refine gd_Bg (pc' := 886) (lv' := [(0, .retAddr 0), (1, .ref 0), (2, .ref 37), (3, .int v3)]) (st' := [.int (xs (Int32.toNatClampNeg (v3 + (1 : Int32)))), .ref 37, .int c55.1]) (lay' := LY88) (h' := c55.2) (g := (ibB (v3 + (1 : Int32)) L && true)) rfl e fun e => ?_
                                                        refine call_Bg (a := 250) (la := [(0, .ref 37), (1, .int (xs (Int32.toNatClampNeg (v3 + (1 : Int32)))))]) (np := 889) (lv' := [(0, .retAddr 0), (1, .ref 0), (2, .ref 37), (3, .int v3)]) (rest := [.int c55.1]) (res := fun r => ([.int r.1], LY88, r.2)) rfl e (fun r e => BJm_keep L xs (xs (Int32.toNatClampNeg (v3 + (1 : Int32)))) c55.2 r e) (fun c56 e => ?_)
                                                        show Bg L xs 252 889 [(0, .retAddr 0), (1, .ref 0), (2, .ref 37), (3, .int v3)] [.int c56.1, .int c55.1] LY88 c56.2 R
                                                        refine seg_Bg (pc' := (if c55.1 = c56.1 then 917 else 892)) (lv' := [(0, .retAddr 0), (1, .ref 0), (2, .ref 37), (3, .int v3)]) (st' := []) (lay' := LY88) (h' := c56.2) 1 rfl ?_
                                                        refine pc_ite e (fun e => ?_) (fun e => ?_)
                                                        · refine seg_Bg (pc' := 18) (lv' := [(0, .retAddr 0), (1, .ref 0), (2, .ref 37), (3, .int (v3 + 5))]) (st' := []) (lay' := LY88) (h' := c56.2) 2 rfl ?_
                                                          exact hH (v3 + 5, c56.2) (Option.some.inj e).symm
                                                        · refine seg_Bg (pc' := 893) (lv' := [(0, .retAddr 0), (1, .ref 0), (2, .ref 37), (3, .int v3)]) (st' := [.int 0]) (lay' := LY88) (h' := c56.2) 1 rfl ?_
                                                          rw [hR (0, c56.2) (Option.some.inj e).symm]; exact ret_Bg rfl
                                                      · refine pc_ite e (fun e => ?_) (fun e => ?_)
                                                        · refine seg_Bg (pc' := 899) (lv' := [(0, .retAddr 0), (1, .ref 0), (2, .ref 37), (3, .int v3)]) (st' := [.int (v3 + (1 : Int32)), .retAddr 0, .ref 0]) (lay' := LY88) (h' := h) 5 rfl ?_
                                                          refine gd_Bg (pc' := 900) (lv' := [(0, .retAddr 0), (1, .ref 0), (2, .ref 37), (3, .int v3)]) (st' := [.int (xs (Int32.toNatClampNeg (v3 + (1 : Int32)))), .ref 0]) (lay' := LY88) (h' := h) (g := (ibB (v3 + (1 : Int32)) L && true)) rfl e fun e => ?_
                                                          refine call_Bg (a := 157) (la := [(0, .ref 0), (1, .int (xs (Int32.toNatClampNeg (v3 + (1 : Int32)))))]) (np := 903) (lv' := [(0, .retAddr 0), (1, .ref 0), (2, .ref 37), (3, .int v3)]) (rest := []) (res := fun r => ([.int r.1], LY88, r.2)) rfl e (fun r e => BJyn_goBack L xs (xs (Int32.toNatClampNeg (v3 + (1 : Int32)))) h r e) (fun c57 e => ?_)
                                                          show Bg L xs 252 903 [(0, .retAddr 0), (1, .ref 0), (2, .ref 37), (3, .int v3)] [.int c57.1] LY88 c57.2 R
                                                          refine seg_Bg (pc' := 908) (lv' := [(0, .retAddr 0), (1, .ref 0), (2, .ref 37), (3, .int v3)]) (st' := [.int (v3 + (1 : Int32)), .retAddr 0, .ref 37, .int c57.1]) (lay' := LY88) (h' := c57.2) 5 rfl ?_
                                                          refine gd_Bg (pc' := 909) (lv' := [(0, .retAddr 0), (1, .ref 0), (2, .ref 37), (3, .int v3)]) (st' := [.int (xs (Int32.toNatClampNeg (v3 + (1 : Int32)))), .ref 37, .int c57.1]) (lay' := LY88) (h' := c57.2) (g := (ibB (v3 + (1 : Int32)) L && true)) rfl e fun e => ?_
                                                          refine call_Bg (a := 251) (la := [(0, .ref 37), (1, .int (xs (Int32.toNatClampNeg (v3 + (1 : Int32)))))]) (np := 912) (lv' := [(0, .retAddr 0), (1, .ref 0), (2, .ref 37), (3, .int v3)]) (rest := [.int c57.1]) (res := fun r => ([.int r.1], LY88, r.2)) rfl e (fun r e => BJm_goBack L xs (xs (Int32.toNatClampNeg (v3 + (1 : Int32)))) c57.2 r e) (fun c58 e => ?_)
                                                          show Bg L xs 252 912 [(0, .retAddr 0), (1, .ref 0), (2, .ref 37), (3, .int v3)] [.int c58.1, .int c57.1] LY88 c58.2 R
                                                          refine seg_Bg (pc' := (if c57.1 = c58.1 then 917 else 915)) (lv' := [(0, .retAddr 0), (1, .ref 0), (2, .ref 37), (3, .int v3)]) (st' := []) (lay' := LY88) (h' := c58.2) 1 rfl ?_
                                                          refine pc_ite e (fun e => ?_) (fun e => ?_)
                                                          · refine seg_Bg (pc' := 18) (lv' := [(0, .retAddr 0), (1, .ref 0), (2, .ref 37), (3, .int (v3 + 5))]) (st' := []) (lay' := LY88) (h' := c58.2) 2 rfl ?_
                                                            exact hH (v3 + 5, c58.2) (Option.some.inj e).symm
                                                          · refine seg_Bg (pc' := 916) (lv' := [(0, .retAddr 0), (1, .ref 0), (2, .ref 37), (3, .int v3)]) (st' := [.int 0]) (lay' := LY88) (h' := c58.2) 1 rfl ?_
                                                            rw [hR (0, c58.2) (Option.some.inj e).symm]; exact ret_Bg rfl
                                                        · refine seg_Bg (pc' := 18) (lv' := [(0, .retAddr 0), (1, .ref 0), (2, .ref 37), (3, .int (v3 + 5))]) (st' := []) (lay' := LY88) (h' := h) 2 rfl ?_
                                                          exact hH (v3 + 5, h) (Option.some.inj e).symm
theorem BJlaw_law_L18 (L : Nat) (xs : Nat → Int32) (R : List Value × Lay × Hp) (C : ((Int32 × Hp) ⊕ (Int32 × Hp)) → Prop) (hE : ∀ t : Int32 × Hp, C (.inl t) → Bg L xs 252 923 [(0, .retAddr 0), (1, .ref 0), (2, .ref 37), (3, .int t.1)] [] LY88 t.2 R) (hR : ∀ r : Int32 × Hp, C (.inr r) → R = ([.int r.1], LY88, r.2)) (n : Nat) (s : Int32 × Hp) (o : ((Int32 × Hp) ⊕ (Int32 × Hp))) (e : loopN n (fun s => Jlaw_law_L18 L xs s.1 s.2) s = some o) (hC : C o) : Bg L xs 252 18 [(0, .retAddr 0), (1, .ref 0), (2, .ref 37), (3, .int s.1)] [] LY88 s.2 R := by
  refine loop_B (fun s => Jlaw_law_L18 L xs s.1 s.2) (fun s : Int32 × Hp => Bg L xs 252 18 [(0, .retAddr 0), (1, .ref 0), (2, .ref 37), (3, .int s.1)] [] LY88 s.2 R) C (fun s o e => ?_) n s o e hC
  intro hK
  refine BJlaw_law_L18_s L xs R s.1 s.2 o (fun s q => by subst q; exact hK) (fun t q => by subst q; exact hE t hK) (fun r q => by subst q; exact hR r hK) e
set_option maxRecDepth 100000 in
theorem BJlaw_law (L : Nat) (xs : Nat → Int32) (h : Hp) (o : Int32 × Hp) (e : Jlaw_law L xs h = some o) : Bg L xs 252 0 [(0, .retAddr 0)] [] LY104 h ([.int o.1], LY88, o.2) := by
  obtain ⟨R, hR⟩ : ∃ R : List Value × Lay × Hp, R = ([.int o.1], LY88, o.2) := ⟨_, rfl⟩
  rw [← hR]
  refine put_Bg (pc' := 3) (lv' := [(0, .retAddr 0)]) (st' := [.ref 0]) (lay' := LY0) (x := hnew h 0) rfl e fun h1 e => ?_
  refine seg_Bg (pc' := 4) (lv' := [(0, .retAddr 0)]) (st' := [.ref 0, .ref 0]) (lay' := LY0) (h' := h1) 1 rfl ?_
  refine call_Bg (a := 130) (la := [(0, .ref 0)]) (np := 7) (lv' := [(0, .retAddr 0)]) (rest := [.ref 0]) (res := fun r => ([], LY70, r)) rfl e (fun r e => BJyn_init L xs h1 r e) (fun c2 e => ?_)
  show Bg L xs 252 7 [(0, .retAddr 0)] [.ref 0] LY70 c2 R
  refine seg_Bg (pc' := 8) (lv' := [(0, .retAddr 0), (1, .ref 0)]) (st' := []) (lay' := LY70) (h' := c2) 1 rfl ?_
  refine put_Bg (pc' := 11) (lv' := [(0, .retAddr 0), (1, .ref 0)]) (st' := [.ref 37]) (lay' := LY73) (x := hnew c2 37) rfl e fun h3 e => ?_
  refine seg_Bg (pc' := 12) (lv' := [(0, .retAddr 0), (1, .ref 0)]) (st' := [.ref 37, .ref 37]) (lay' := LY73) (h' := h3) 1 rfl ?_
  refine call_Bg (a := 165) (la := [(0, .ref 37)]) (np := 15) (lv' := [(0, .retAddr 0), (1, .ref 0)]) (rest := [.ref 37]) (res := fun r => ([], LY88, r)) rfl e (fun r e => BJm_init L xs h3 r e) (fun c4 e => ?_)
  show Bg L xs 252 15 [(0, .retAddr 0), (1, .ref 0)] [.ref 37] LY88 c4 R
  refine seg_Bg (pc' := 18) (lv' := [(0, .retAddr 0), (1, .ref 0), (2, .ref 37), (3, .int 0)]) (st' := []) (lay' := LY88) (h' := c4) 3 rfl ?_
  obtain ⟨t59o, et59o, e⟩ := bd_s e
  refine BJlaw_law_L18 L xs R (fun (t59x : (Int32 × Hp) ⊕ (Int32 × Hp)) => (sm t59x (fun t59 => some (1, t59.2)) (fun r59 => some r59)) = some o) (fun t59 e => ?_) (fun r59 e => ?_) 1000000 (0, c4) _ et59o e
  · refine seg_Bg (pc' := 924) (lv' := [(0, .retAddr 0), (1, .ref 0), (2, .ref 37), (3, .int t59.1)]) (st' := [.int 1]) (lay' := LY88) (h' := t59.2) 1 rfl ?_
    rw [hR, ← Option.some.inj e]; exact ret_Bg rfl
  · rw [hR]; exact congrArg (fun r => (([.int r.1], LY88, r.2) : List Value × Lay × Hp)) (Option.some.inj e).symm

