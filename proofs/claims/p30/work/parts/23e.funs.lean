/-! Runs of the small machine are the functions of the methods. (Written by wip/p30/gen3.py.) -/
set_option maxRecDepth 100000 in
theorem BJyn_put (L : Nat) (xs : Nat → Int32) (v1 : Int32) (v2 : Int32) (v3 : Int32) (v4 : Int32) (h : Hp) (o : Int32 × Hp) (e : Jyn_put v1 v2 v3 v4 h = some o) : Bg L xs 118 0 [(0, .ref 0), (1, .int v1), (2, .int v2), (3, .int v3), (4, .int v4)] [] LY70 h ([.int o.1], LY70, o.2) := by
  obtain ⟨R, hR⟩ : ∃ R : List Value × Lay × Hp, R = ([.int o.1], LY70, o.2) := ⟨_, rfl⟩
  rw [← hR]
  refine seg_Bg (pc' := 5) (lv' := [(0, .ref 0), (1, .int v1), (2, .int v2), (3, .int v3), (4, .int v4)]) (st' := [.int v1, .ref 29]) (lay' := LY70) (h' := h) 3 rfl ?_
  refine call_Bg (a := 76) (la := [(0, .ref 29), (1, .int v1)]) (np := 8) (lv' := [(0, .ref 0), (1, .int v1), (2, .int v2), (3, .int v3), (4, .int v4)]) (rest := []) (res := fun r => ([.int r], LY70, h)) rfl e (fun r e => BJsh_holds L xs v1 h r e) (fun c1 e => ?_)
  show Bg L xs 118 8 [(0, .ref 0), (1, .int v1), (2, .int v2), (3, .int v3), (4, .int v4)] [.int c1] LY70 h R
  refine seg_Bg (pc' := (if c1 = 0 then 45 else 11)) (lv' := [(0, .ref 0), (1, .int v1), (2, .int v2), (3, .int v3), (4, .int v4)]) (st' := []) (lay' := LY70) (h' := h) 1 rfl ?_
  refine pc_ite e (fun e => ?_) (fun e => ?_)
  · refine seg_Bg (pc' := 47) (lv' := [(0, .ref 0), (1, .int v1), (2, .int v2), (3, .int v3), (4, .int v4)]) (st' := [.int (-1000000001)]) (lay' := LY70) (h' := h) 1 rfl ?_
    rw [hR, ← Option.some.inj e]; exact ret_Bg rfl
  · refine seg_Bg (pc' := 16) (lv' := [(0, .ref 0), (1, .int v1), (2, .int v2), (3, .int v3), (4, .int v4)]) (st' := [.int v2, .ref 29]) (lay' := LY70) (h' := h) 3 rfl ?_
    refine call_Bg (a := 76) (la := [(0, .ref 29), (1, .int v2)]) (np := 19) (lv' := [(0, .ref 0), (1, .int v1), (2, .int v2), (3, .int v3), (4, .int v4)]) (rest := []) (res := fun r => ([.int r], LY70, h)) rfl e (fun r e => BJsh_holds L xs v2 h r e) (fun c2 e => ?_)
    show Bg L xs 118 19 [(0, .ref 0), (1, .int v1), (2, .int v2), (3, .int v3), (4, .int v4)] [.int c2] LY70 h R
    refine seg_Bg (pc' := (if c2 = 0 then 45 else 22)) (lv' := [(0, .ref 0), (1, .int v1), (2, .int v2), (3, .int v3), (4, .int v4)]) (st' := []) (lay' := LY70) (h' := h) 1 rfl ?_
    refine pc_ite e (fun e => ?_) (fun e => ?_)
    · refine seg_Bg (pc' := 47) (lv' := [(0, .ref 0), (1, .int v1), (2, .int v2), (3, .int v3), (4, .int v4)]) (st' := [.int (-1000000001)]) (lay' := LY70) (h' := h) 1 rfl ?_
      rw [hR, ← Option.some.inj e]; exact ret_Bg rfl
    · refine seg_Bg (pc' := 27) (lv' := [(0, .ref 0), (1, .int v1), (2, .int v2), (3, .int v3), (4, .int v4)]) (st' := [.int v3, .ref 29]) (lay' := LY70) (h' := h) 3 rfl ?_
      refine call_Bg (a := 76) (la := [(0, .ref 29), (1, .int v3)]) (np := 30) (lv' := [(0, .ref 0), (1, .int v1), (2, .int v2), (3, .int v3), (4, .int v4)]) (rest := []) (res := fun r => ([.int r], LY70, h)) rfl e (fun r e => BJsh_holds L xs v3 h r e) (fun c3 e => ?_)
      show Bg L xs 118 30 [(0, .ref 0), (1, .int v1), (2, .int v2), (3, .int v3), (4, .int v4)] [.int c3] LY70 h R
      refine seg_Bg (pc' := (if c3 = 0 then 45 else 33)) (lv' := [(0, .ref 0), (1, .int v1), (2, .int v2), (3, .int v3), (4, .int v4)]) (st' := []) (lay' := LY70) (h' := h) 1 rfl ?_
      refine pc_ite e (fun e => ?_) (fun e => ?_)
      · refine seg_Bg (pc' := 47) (lv' := [(0, .ref 0), (1, .int v1), (2, .int v2), (3, .int v3), (4, .int v4)]) (st' := [.int (-1000000001)]) (lay' := LY70) (h' := h) 1 rfl ?_
        rw [hR, ← Option.some.inj e]; exact ret_Bg rfl
      · refine seg_Bg (pc' := 39) (lv' := [(0, .ref 0), (1, .int v1), (2, .int v2), (3, .int v3), (4, .int v4)]) (st' := [.int v4, .ref 29]) (lay' := LY70) (h' := h) 3 rfl ?_
        refine call_Bg (a := 76) (la := [(0, .ref 29), (1, .int v4)]) (np := 42) (lv' := [(0, .ref 0), (1, .int v1), (2, .int v2), (3, .int v3), (4, .int v4)]) (rest := []) (res := fun r => ([.int r], LY70, h)) rfl e (fun r e => BJsh_holds L xs v4 h r e) (fun c4 e => ?_)
        show Bg L xs 118 42 [(0, .ref 0), (1, .int v1), (2, .int v2), (3, .int v3), (4, .int v4)] [.int c4] LY70 h R
        refine seg_Bg (pc' := (if c4 = 0 then 45 else 48)) (lv' := [(0, .ref 0), (1, .int v1), (2, .int v2), (3, .int v3), (4, .int v4)]) (st' := []) (lay' := LY70) (h' := h) 1 rfl ?_
        refine pc_ite e (fun e => ?_) (fun e => ?_)
        · refine seg_Bg (pc' := 47) (lv' := [(0, .ref 0), (1, .int v1), (2, .int v2), (3, .int v3), (4, .int v4)]) (st' := [.int (-1000000001)]) (lay' := LY70) (h' := h) 1 rfl ?_
          rw [hR, ← Option.some.inj e]; exact ret_Bg rfl
        · refine seg_Bg (pc' := 52) (lv' := [(0, .ref 0), (1, .int v1), (2, .int v2), (3, .int v3), (4, .int v4)]) (st' := [.ref 29]) (lay' := LY70) (h' := h) 2 rfl ?_
          refine call_Bg (a := 75) (la := [(0, .ref 29)]) (np := 55) (lv' := [(0, .ref 0), (1, .int v1), (2, .int v2), (3, .int v3), (4, .int v4)]) (rest := []) (res := fun r => ([.int r], LY70, h)) rfl e (fun r e => BJsh_isFull L xs h r e) (fun c5 e => ?_)
          show Bg L xs 118 55 [(0, .ref 0), (1, .int v1), (2, .int v2), (3, .int v3), (4, .int v4)] [.int c5] LY70 h R
          refine seg_Bg (pc' := (if c5 = 0 then 61 else 58)) (lv' := [(0, .ref 0), (1, .int v1), (2, .int v2), (3, .int v3), (4, .int v4)]) (st' := []) (lay' := LY70) (h' := h) 1 rfl ?_
          refine pc_ite e (fun e => ?_) (fun e => ?_)
          · refine seg_Bg (pc' := 69) (lv' := [(0, .ref 0), (1, .int v1), (2, .int v2), (3, .int v3), (4, .int v4)]) (st' := [.ref 29, .ref 31]) (lay' := LY70) (h' := h) 4 rfl ?_
            refine call_Bg (a := 51) (la := [(0, .ref 31), (1, .ref 29)]) (np := 72) (lv' := [(0, .ref 0), (1, .int v1), (2, .int v2), (3, .int v3), (4, .int v4)]) (rest := []) (res := fun r => ([], LY70, r)) rfl e (fun r e => BJpa_push L xs h r e) (fun c6 e => ?_)
            show Bg L xs 118 72 [(0, .ref 0), (1, .int v1), (2, .int v2), (3, .int v3), (4, .int v4)] [] LY70 c6 R
            refine seg_Bg (pc' := 81) (lv' := [(0, .ref 0), (1, .int v1), (2, .int v2), (3, .int v3), (4, .int v4)]) (st' := [.int v1, .ref 29, .ref 29]) (lay' := LY70) (h' := c6) 5 rfl ?_
            refine call_Bg (a := 77) (la := [(0, .ref 29), (1, .int v1)]) (np := 84) (lv' := [(0, .ref 0), (1, .int v1), (2, .int v2), (3, .int v3), (4, .int v4)]) (rest := [.ref 29]) (res := fun r => ([.int r], LY70, c6)) rfl e (fun r e => BJsh_codeAt L xs v1 c6 r e) (fun c7 e => ?_)
            show Bg L xs 118 84 [(0, .ref 0), (1, .int v1), (2, .int v2), (3, .int v3), (4, .int v4)] [.int c7, .ref 29] LY70 c6 R
            refine seg_Bg (pc' := 89) (lv' := [(0, .ref 0), (1, .int v1), (2, .int v2), (3, .int v3), (4, .int v4)]) (st' := [.int v2, .ref 29, .int c7, .ref 29]) (lay' := LY70) (h' := c6) 3 rfl ?_
            refine call_Bg (a := 77) (la := [(0, .ref 29), (1, .int v2)]) (np := 92) (lv' := [(0, .ref 0), (1, .int v1), (2, .int v2), (3, .int v3), (4, .int v4)]) (rest := [.int c7, .ref 29]) (res := fun r => ([.int r], LY70, c6)) rfl e (fun r e => BJsh_codeAt L xs v2 c6 r e) (fun c8 e => ?_)
            show Bg L xs 118 92 [(0, .ref 0), (1, .int v1), (2, .int v2), (3, .int v3), (4, .int v4)] [.int c8, .int c7, .ref 29] LY70 c6 R
            refine seg_Bg (pc' := 97) (lv' := [(0, .ref 0), (1, .int v1), (2, .int v2), (3, .int v3), (4, .int v4)]) (st' := [.int v3, .ref 29, .int c8, .int c7, .ref 29]) (lay' := LY70) (h' := c6) 3 rfl ?_
            refine call_Bg (a := 77) (la := [(0, .ref 29), (1, .int v3)]) (np := 100) (lv' := [(0, .ref 0), (1, .int v1), (2, .int v2), (3, .int v3), (4, .int v4)]) (rest := [.int c8, .int c7, .ref 29]) (res := fun r => ([.int r], LY70, c6)) rfl e (fun r e => BJsh_codeAt L xs v3 c6 r e) (fun c9 e => ?_)
            show Bg L xs 118 100 [(0, .ref 0), (1, .int v1), (2, .int v2), (3, .int v3), (4, .int v4)] [.int c9, .int c8, .int c7, .ref 29] LY70 c6 R
            refine seg_Bg (pc' := 106) (lv' := [(0, .ref 0), (1, .int v1), (2, .int v2), (3, .int v3), (4, .int v4)]) (st' := [.int v4, .ref 29, .int c9, .int c8, .int c7, .ref 29]) (lay' := LY70) (h' := c6) 3 rfl ?_
            refine call_Bg (a := 77) (la := [(0, .ref 29), (1, .int v4)]) (np := 109) (lv' := [(0, .ref 0), (1, .int v1), (2, .int v2), (3, .int v3), (4, .int v4)]) (rest := [.int c9, .int c8, .int c7, .ref 29]) (res := fun r => ([.int r], LY70, c6)) rfl e (fun r e => BJsh_codeAt L xs v4 c6 r e) (fun c10 e => ?_)
            show Bg L xs 118 109 [(0, .ref 0), (1, .int v1), (2, .int v2), (3, .int v3), (4, .int v4)] [.int c10, .int c9, .int c8, .int c7, .ref 29] LY70 c6 R
            refine call_Bg (a := 6) (la := [(0, .int c7), (1, .int c8), (2, .int c9), (3, .int c10)]) (np := 112) (lv' := [(0, .ref 0), (1, .int v1), (2, .int v2), (3, .int v3), (4, .int v4)]) (rest := [.ref 29]) (res := fun r => ([.int r], LY70, c6)) rfl e (fun r e => BJco_putOn L xs c7 c8 c9 c10 LY70 c6 r e) (fun c11 e => ?_)
            show Bg L xs 118 112 [(0, .ref 0), (1, .int v1), (2, .int v2), (3, .int v3), (4, .int v4)] [.int c11, .ref 29] LY70 c6 R
            refine call_Bg (a := 80) (la := [(0, .ref 29), (1, .int c11)]) (np := 115) (lv' := [(0, .ref 0), (1, .int v1), (2, .int v2), (3, .int v3), (4, .int v4)]) (rest := []) (res := fun r => ([.int r.1], LY70, r.2)) rfl e (fun r e => BJsh_add L xs c11 c6 r e) (fun c12 e => ?_)
            show Bg L xs 118 115 [(0, .ref 0), (1, .int v1), (2, .int v2), (3, .int v3), (4, .int v4)] [.int c12.1] LY70 c12.2 R
            rw [hR, ← Option.some.inj e]; exact ret_Bg rfl
          · refine seg_Bg (pc' := 60) (lv' := [(0, .ref 0), (1, .int v1), (2, .int v2), (3, .int v3), (4, .int v4)]) (st' := [.int (-1000000004)]) (lay' := LY70) (h' := h) 1 rfl ?_
            rw [hR, ← Option.some.inj e]; exact ret_Bg rfl

set_option maxRecDepth 100000 in
theorem BJsh_change (L : Nat) (xs : Nat → Int32) (v1 : Int32) (v2 : Int32) (h : Hp) (o : Hp) (e : Jsh_change v1 v2 h = some o) : Bg L xs 81 0 [(0, .ref 29), (1, .int v1), (2, .int v2)] [] LY70 h ([], LY70, o) := by
  obtain ⟨R, hR⟩ : ∃ R : List Value × Lay × Hp, R = ([], LY70, o) := ⟨_, rfl⟩
  rw [← hR]
  refine seg_Bg (pc' := 2) (lv' := [(0, .ref 29), (1, .int v1), (2, .int v2)]) (st' := [.int v1, .ref 29]) (lay' := LY70) (h' := h) 2 rfl ?_
  refine call_Bg (a := 76) (la := [(0, .ref 29), (1, .int v1)]) (np := 5) (lv' := [(0, .ref 29), (1, .int v1), (2, .int v2)]) (rest := []) (res := fun r => ([.int r], LY70, h)) rfl e (fun r e => BJsh_holds L xs v1 h r e) (fun c1 e => ?_)
  show Bg L xs 81 5 [(0, .ref 29), (1, .int v1), (2, .int v2)] [.int c1] LY70 h R
  refine seg_Bg (pc' := (if c1 = 0 then 15 else 8)) (lv' := [(0, .ref 29), (1, .int v1), (2, .int v2)]) (st' := []) (lay' := LY70) (h' := h) 1 rfl ?_
  refine pc_ite e (fun e => ?_) (fun e => ?_)
  · rw [hR, ← Option.some.inj e]; exact ret_Bg rfl
  · refine seg_Bg (pc' := 14) (lv' := [(0, .ref 29), (1, .int v1), (2, .int v2)]) (st' := [.int v2, .int v1, .ref 30]) (lay' := LY70) (h' := h) 4 rfl ?_
    refine gp_Bg (pc' := 15) (lv' := [(0, .ref 29), (1, .int v1), (2, .int v2)]) (st' := []) (lay' := LY70) (x := hset h 30 (Int32.toNatClampNeg v1) v2) (g := ibB v1 6) rfl e fun h2 e => ?_
    rw [hR, ← Option.some.inj e]; exact ret_Bg rfl

set_option maxRecDepth 100000 in
theorem BJyn_turn (L : Nat) (xs : Nat → Int32) (v1 : Int32) (h : Hp) (o : Int32 × Hp) (e : Jyn_turn v1 h = some o) : Bg L xs 119 0 [(0, .ref 0), (1, .int v1)] [] LY70 h ([.int o.1], LY70, o.2) := by
  obtain ⟨R, hR⟩ : ∃ R : List Value × Lay × Hp, R = ([.int o.1], LY70, o.2) := ⟨_, rfl⟩
  rw [← hR]
  refine seg_Bg (pc' := 5) (lv' := [(0, .ref 0), (1, .int v1)]) (st' := [.int v1, .ref 29]) (lay' := LY70) (h' := h) 3 rfl ?_
  refine call_Bg (a := 76) (la := [(0, .ref 29), (1, .int v1)]) (np := 8) (lv' := [(0, .ref 0), (1, .int v1)]) (rest := []) (res := fun r => ([.int r], LY70, h)) rfl e (fun r e => BJsh_holds L xs v1 h r e) (fun c1 e => ?_)
  show Bg L xs 119 8 [(0, .ref 0), (1, .int v1)] [.int c1] LY70 h R
  refine seg_Bg (pc' := (if c1 = 0 then 11 else 14)) (lv' := [(0, .ref 0), (1, .int v1)]) (st' := []) (lay' := LY70) (h' := h) 1 rfl ?_
  refine pc_ite e (fun e => ?_) (fun e => ?_)
  · refine seg_Bg (pc' := 13) (lv' := [(0, .ref 0), (1, .int v1)]) (st' := [.int (-1000000001)]) (lay' := LY70) (h' := h) 1 rfl ?_
    rw [hR, ← Option.some.inj e]; exact ret_Bg rfl
  · refine seg_Bg (pc' := 22) (lv' := [(0, .ref 0), (1, .int v1)]) (st' := [.ref 29, .ref 31]) (lay' := LY70) (h' := h) 4 rfl ?_
    refine call_Bg (a := 51) (la := [(0, .ref 31), (1, .ref 29)]) (np := 25) (lv' := [(0, .ref 0), (1, .int v1)]) (rest := []) (res := fun r => ([], LY70, r)) rfl e (fun r e => BJpa_push L xs h r e) (fun c2 e => ?_)
    show Bg L xs 119 25 [(0, .ref 0), (1, .int v1)] [] LY70 c2 R
    refine seg_Bg (pc' := 30) (lv' := [(0, .ref 0), (1, .int v1)]) (st' := [.int v1, .ref 29]) (lay' := LY70) (h' := c2) 3 rfl ?_
    refine call_Bg (a := 77) (la := [(0, .ref 29), (1, .int v1)]) (np := 33) (lv' := [(0, .ref 0), (1, .int v1)]) (rest := []) (res := fun r => ([.int r], LY70, c2)) rfl e (fun r e => BJsh_codeAt L xs v1 c2 r e) (fun c3 e => ?_)
    show Bg L xs 119 33 [(0, .ref 0), (1, .int v1)] [.int c3] LY70 c2 R
    refine call_Bg (a := 8) (la := [(0, .int c3)]) (np := 36) (lv' := [(0, .ref 0), (1, .int v1)]) (rest := []) (res := fun r => ([.int r], LY70, c2)) rfl e (fun r e => BJco_turnedOver L xs c3 LY70 c2 r e) (fun c4 e => ?_)
    show Bg L xs 119 36 [(0, .ref 0), (1, .int v1)] [.int c4] LY70 c2 R
    refine seg_Bg (pc' := 43) (lv' := [(0, .ref 0), (1, .int v1), (2, .int c4)]) (st' := [.int c4, .int v1, .ref 29]) (lay' := LY70) (h' := c2) 5 rfl ?_
    refine call_Bg (a := 81) (la := [(0, .ref 29), (1, .int v1), (2, .int c4)]) (np := 46) (lv' := [(0, .ref 0), (1, .int v1), (2, .int c4)]) (rest := []) (res := fun r => ([], LY70, r)) rfl e (fun r e => BJsh_change L xs v1 c4 c2 r e) (fun c5 e => ?_)
    show Bg L xs 119 46 [(0, .ref 0), (1, .int v1), (2, .int c4)] [] LY70 c5 R
    refine seg_Bg (pc' := 47) (lv' := [(0, .ref 0), (1, .int v1), (2, .int c4)]) (st' := [.int c4]) (lay' := LY70) (h' := c5) 1 rfl ?_
    rw [hR, ← Option.some.inj e]; exact ret_Bg rfl

set_option maxRecDepth 100000 in
theorem BJsh_choose (L : Nat) (xs : Nat → Int32) (v1 : Int32) (h : Hp) (o : Hp) (e : Jsh_choose v1 h = some o) : Bg L xs 82 0 [(0, .ref 29), (1, .int v1)] [] LY70 h ([], LY70, o) := by
  obtain ⟨R, hR⟩ : ∃ R : List Value × Lay × Hp, R = ([], LY70, o) := ⟨_, rfl⟩
  rw [← hR]
  refine seg_Bg (pc' := 2) (lv' := [(0, .ref 29), (1, .int v1)]) (st' := [.int v1, .ref 29]) (lay' := LY70) (h' := h) 2 rfl ?_
  refine put_Bg (pc' := 5) (lv' := [(0, .ref 29), (1, .int v1)]) (st' := []) (lay' := LY70) (x := hset h 29 2 v1) rfl e fun h1 e => ?_
  rw [hR, ← Option.some.inj e]; exact ret_Bg rfl

set_option maxRecDepth 100000 in
theorem BJyn_base (L : Nat) (xs : Nat → Int32) (v1 : Int32) (h : Hp) (o : Int32 × Hp) (e : Jyn_base v1 h = some o) : Bg L xs 120 0 [(0, .ref 0), (1, .int v1)] [] LY70 h ([.int o.1], LY70, o.2) := by
  obtain ⟨R, hR⟩ : ∃ R : List Value × Lay × Hp, R = ([.int o.1], LY70, o.2) := ⟨_, rfl⟩
  rw [← hR]
  refine seg_Bg (pc' := 5) (lv' := [(0, .ref 0), (1, .int v1)]) (st' := [.ref 29, .int v1]) (lay' := LY70) (h' := h) 3 rfl ?_
  refine call_Bg (a := 74) (la := [(0, .ref 29)]) (np := 8) (lv' := [(0, .ref 0), (1, .int v1)]) (rest := [.int v1]) (res := fun r => ([.int r], LY70, h)) rfl e (fun r e => BJsh_size L xs h r e) (fun c1 e => ?_)
  show Bg L xs 120 8 [(0, .ref 0), (1, .int v1)] [.int c1, .int v1] LY70 h R
  refine seg_Bg (pc' := (if (v1 >>> (c1 &&& 31) : Int32) = 0 then 15 else 12)) (lv' := [(0, .ref 0), (1, .int v1)]) (st' := []) (lay' := LY70) (h' := h) 2 rfl ?_
  refine pc_ite e (fun e => ?_) (fun e => ?_)
  · refine seg_Bg (pc' := 23) (lv' := [(0, .ref 0), (1, .int v1)]) (st' := [.ref 29, .ref 31]) (lay' := LY70) (h' := h) 4 rfl ?_
    refine call_Bg (a := 51) (la := [(0, .ref 31), (1, .ref 29)]) (np := 26) (lv' := [(0, .ref 0), (1, .int v1)]) (rest := []) (res := fun r => ([], LY70, r)) rfl e (fun r e => BJpa_push L xs h r e) (fun c2 e => ?_)
    show Bg L xs 120 26 [(0, .ref 0), (1, .int v1)] [] LY70 c2 R
    refine seg_Bg (pc' := 31) (lv' := [(0, .ref 0), (1, .int v1)]) (st' := [.int v1, .ref 29]) (lay' := LY70) (h' := c2) 3 rfl ?_
    refine call_Bg (a := 82) (la := [(0, .ref 29), (1, .int v1)]) (np := 34) (lv' := [(0, .ref 0), (1, .int v1)]) (rest := []) (res := fun r => ([], LY70, r)) rfl e (fun r e => BJsh_choose L xs v1 c2 r e) (fun c3 e => ?_)
    show Bg L xs 120 34 [(0, .ref 0), (1, .int v1)] [] LY70 c3 R
    refine seg_Bg (pc' := 35) (lv' := [(0, .ref 0), (1, .int v1)]) (st' := [.ref 0]) (lay' := LY70) (h' := c3) 1 rfl ?_
    refine call_Bg (a := 123) (la := [(0, .ref 0)]) (np := 38) (lv' := [(0, .ref 0), (1, .int v1)]) (rest := []) (res := fun r => ([.int r], LY70, c3)) rfl e (fun r e => BJyn_common L xs c3 r e) (fun c4 e => ?_)
    show Bg L xs 120 38 [(0, .ref 0), (1, .int v1)] [.int c4] LY70 c3 R
    rw [hR, ← Option.some.inj e]; exact ret_Bg rfl
  · refine seg_Bg (pc' := 14) (lv' := [(0, .ref 0), (1, .int v1)]) (st' := [.int (-1000000001)]) (lay' := LY70) (h' := h) 1 rfl ?_
    rw [hR, ← Option.some.inj e]; exact ret_Bg rfl

set_option maxRecDepth 100000 in
theorem BJsh_restart (L : Nat) (xs : Nat → Int32) (v1 : Int32) (h : Hp) (o : Hp) (e : Jsh_restart v1 h = some o) : Bg L xs 83 0 [(0, .ref 29), (1, .int v1)] [] LY70 h ([], LY70, o) := by
  obtain ⟨R, hR⟩ : ∃ R : List Value × Lay × Hp, R = ([], LY70, o) := ⟨_, rfl⟩
  rw [← hR]
  refine seg_Bg (pc' := 2) (lv' := [(0, .ref 29), (1, .int v1)]) (st' := [.int 0, .ref 29]) (lay' := LY70) (h' := h) 2 rfl ?_
  refine put_Bg (pc' := 5) (lv' := [(0, .ref 29), (1, .int v1)]) (st' := []) (lay' := LY70) (x := hset h 29 1 0) rfl e fun h1 e => ?_
  refine seg_Bg (pc' := 7) (lv' := [(0, .ref 29), (1, .int v1)]) (st' := [.int v1, .ref 29]) (lay' := LY70) (h' := h1) 2 rfl ?_
  refine put_Bg (pc' := 10) (lv' := [(0, .ref 29), (1, .int v1)]) (st' := []) (lay' := LY70) (x := hset h1 29 2 v1) rfl e fun h2 e => ?_
  rw [hR, ← Option.some.inj e]; exact ret_Bg rfl

set_option maxRecDepth 100000 in
theorem BJpa_load_L23_s (L : Nat) (xs : Nat → Int32) (v1 : Int32) (R : List Value × Lay × Hp) (v3 : Int32) (h : Hp) (o : ((Int32 × Hp) ⊕ (Int32 × Hp))) (hH : ∀ s : Int32 × Hp, o = .inl s → Bg L xs 54 23 [(0, .ref 31), (1, .int v1), (2, .ref 29), (3, .int s.1)] [] LY70 s.2 R) (hE : ∀ t : Int32 × Hp, o = .inr t → Bg L xs 54 61 [(0, .ref 31), (1, .int v1), (2, .ref 29), (3, .int t.1)] [] LY70 t.2 R) (e : Jpa_load_L23 v1 v3 h = some o) : Bg L xs 54 23 [(0, .ref 31), (1, .int v1), (2, .ref 29), (3, .int v3)] [] LY70 h R := by
  refine seg_Bg (pc' := 29) (lv' := [(0, .ref 31), (1, .int v1), (2, .ref 29), (3, .int v3)]) (st' := [.int v1, .ref 32, .int v3]) (lay' := LY70) (h' := h) 4 rfl ?_
  refine gd_Bg (pc' := 30) (lv' := [(0, .ref 31), (1, .int v1), (2, .ref 29), (3, .int v3)]) (st' := [.int (h 32 (Int32.toNatClampNeg v1)), .int v3]) (lay' := LY70) (h' := h) (g := ibB v1 18) rfl e fun e => ?_
  refine seg_Bg (pc' := (if v3 < (h 32 (Int32.toNatClampNeg v1)) then 33 else 61)) (lv' := [(0, .ref 31), (1, .int v1), (2, .ref 29), (3, .int v3)]) (st' := []) (lay' := LY70) (h' := h) 1 rfl ?_
  refine pc_ite e (fun e => ?_) (fun e => ?_)
  · refine seg_Bg (pc' := (if v3 < 6 then 39 else 61)) (lv' := [(0, .ref 31), (1, .int v1), (2, .ref 29), (3, .int v3)]) (st' := []) (lay' := LY70) (h' := h) 3 rfl ?_
    refine pc_ite e (fun e => ?_) (fun e => ?_)
    · refine seg_Bg (pc' := 50) (lv' := [(0, .ref 31), (1, .int v1), (2, .ref 29), (3, .int v3)]) (st' := [.int ((v1 * (6 : Int32)) + v3), .ref 34, .ref 29]) (lay' := LY70) (h' := h) 8 rfl ?_
      refine gd_Bg (pc' := 51) (lv' := [(0, .ref 31), (1, .int v1), (2, .ref 29), (3, .int v3)]) (st' := [.int (h 34 (Int32.toNatClampNeg ((v1 * (6 : Int32)) + v3))), .ref 29]) (lay' := LY70) (h' := h) (g := ibB ((v1 * (6 : Int32)) + v3) 108) rfl e fun e => ?_
      refine call_Bg (a := 80) (la := [(0, .ref 29), (1, .int (h 34 (Int32.toNatClampNeg ((v1 * (6 : Int32)) + v3))))]) (np := 54) (lv' := [(0, .ref 31), (1, .int v1), (2, .ref 29), (3, .int v3)]) (rest := []) (res := fun r => ([.int r.1], LY70, r.2)) rfl e (fun r e => BJsh_add L xs (h 34 (Int32.toNatClampNeg ((v1 * (6 : Int32)) + v3))) h r e) (fun c2 e => ?_)
      show Bg L xs 54 54 [(0, .ref 31), (1, .int v1), (2, .ref 29), (3, .int v3)] [.int c2.1] LY70 c2.2 R
      refine seg_Bg (pc' := 23) (lv' := [(0, .ref 31), (1, .int v1), (2, .ref 29), (3, .int (v3 + 1))]) (st' := []) (lay' := LY70) (h' := c2.2) 3 rfl ?_
      exact hH (v3 + 1, c2.2) (Option.some.inj e).symm
    · exact hE (v3, h) (Option.some.inj e).symm
  · exact hE (v3, h) (Option.some.inj e).symm
theorem BJpa_load_L23 (L : Nat) (xs : Nat → Int32) (v1 : Int32) (R : List Value × Lay × Hp) (C : (Int32 × Hp) → Prop) (hE : ∀ t : Int32 × Hp, C t → Bg L xs 54 61 [(0, .ref 31), (1, .int v1), (2, .ref 29), (3, .int t.1)] [] LY70 t.2 R) (n : Nat) (s : Int32 × Hp) (o : (Int32 × Hp)) (e : loopN n (fun s => Jpa_load_L23 v1 s.1 s.2) s = some o) (hC : C o) : Bg L xs 54 23 [(0, .ref 31), (1, .int v1), (2, .ref 29), (3, .int s.1)] [] LY70 s.2 R := by
  refine loop_B (fun s => Jpa_load_L23 v1 s.1 s.2) (fun s : Int32 × Hp => Bg L xs 54 23 [(0, .ref 31), (1, .int v1), (2, .ref 29), (3, .int s.1)] [] LY70 s.2 R) C (fun s o e => ?_) n s o e hC
  intro hK
  refine BJpa_load_L23_s L xs v1 R s.1 s.2 o (fun s q => by subst q; exact hK) (fun t q => by subst q; exact hE t hK) e
set_option maxRecDepth 100000 in
theorem BJpa_load (L : Nat) (xs : Nat → Int32) (v1 : Int32) (h : Hp) (o : Hp) (e : Jpa_load v1 h = some o) : Bg L xs 54 0 [(0, .ref 31), (1, .int v1), (2, .ref 29)] [] LY70 h ([], LY70, o) := by
  obtain ⟨R, hR⟩ : ∃ R : List Value × Lay × Hp, R = ([], LY70, o) := ⟨_, rfl⟩
  rw [← hR]
  refine seg_Bg (pc' := (if v1 < 0 then 10 else 4)) (lv' := [(0, .ref 31), (1, .int v1), (2, .ref 29)]) (st' := []) (lay' := LY70) (h' := h) 2 rfl ?_
  refine pc_ite e (fun e => ?_) (fun e => ?_)
  · rw [hR, ← Option.some.inj e]; exact ret_Bg rfl
  · refine seg_Bg (pc' := (if v1 < 18 then 11 else 10)) (lv' := [(0, .ref 31), (1, .int v1), (2, .ref 29)]) (st' := []) (lay' := LY70) (h' := h) 3 rfl ?_
    refine pc_ite e (fun e => ?_) (fun e => ?_)
    · refine seg_Bg (pc' := 17) (lv' := [(0, .ref 31), (1, .int v1), (2, .ref 29)]) (st' := [.int v1, .ref 33, .ref 29]) (lay' := LY70) (h' := h) 4 rfl ?_
      refine gd_Bg (pc' := 18) (lv' := [(0, .ref 31), (1, .int v1), (2, .ref 29)]) (st' := [.int (h 33 (Int32.toNatClampNeg v1)), .ref 29]) (lay' := LY70) (h' := h) (g := ibB v1 18) rfl e fun e => ?_
      refine call_Bg (a := 83) (la := [(0, .ref 29), (1, .int (h 33 (Int32.toNatClampNeg v1)))]) (np := 21) (lv' := [(0, .ref 31), (1, .int v1), (2, .ref 29)]) (rest := []) (res := fun r => ([], LY70, r)) rfl e (fun r e => BJsh_restart L xs (h 33 (Int32.toNatClampNeg v1)) h r e) (fun c1 e => ?_)
      show Bg L xs 54 21 [(0, .ref 31), (1, .int v1), (2, .ref 29)] [] LY70 c1 R
      refine seg_Bg (pc' := 23) (lv' := [(0, .ref 31), (1, .int v1), (2, .ref 29), (3, .int 0)]) (st' := []) (lay' := LY70) (h' := c1) 2 rfl ?_
      obtain ⟨t3o, et3o, e⟩ := bd_s e
      refine BJpa_load_L23 L xs v1 R (fun (t3 : Int32 × Hp) => (some t3.2) = some o) (fun t3 e => ?_) 1000000 (0, c1) _ et3o e
      rw [hR, ← Option.some.inj e]; exact ret_Bg rfl
    · rw [hR, ← Option.some.inj e]; exact ret_Bg rfl

set_option maxRecDepth 100000 in
theorem BJpa_goBackBy (L : Nat) (xs : Nat → Int32) (v1 : Int32) (h : Hp) (o : Int32 × Hp) (e : Jpa_goBackBy v1 h = some o) : Bg L xs 52 0 [(0, .ref 31), (1, .int v1), (2, .ref 29)] [] LY70 h ([.int o.1], LY70, o.2) := by
  obtain ⟨R, hR⟩ : ∃ R : List Value × Lay × Hp, R = ([.int o.1], LY70, o.2) := ⟨_, rfl⟩
  rw [← hR]
  refine seg_Bg (pc' := (if v1 < 1 then 13 else 5)) (lv' := [(0, .ref 31), (1, .int v1), (2, .ref 29)]) (st' := []) (lay' := LY70) (h' := h) 3 rfl ?_
  refine pc_ite e (fun e => ?_) (fun e => ?_)
  · refine seg_Bg (pc' := 14) (lv' := [(0, .ref 31), (1, .int v1), (2, .ref 29)]) (st' := [.int 0]) (lay' := LY70) (h' := h) 1 rfl ?_
    rw [hR, ← Option.some.inj e]; exact ret_Bg rfl
  · refine seg_Bg (pc' := (if (h 31 3) < v1 then 13 else 15)) (lv' := [(0, .ref 31), (1, .int v1), (2, .ref 29)]) (st' := []) (lay' := LY70) (h' := h) 4 rfl ?_
    refine pc_ite e (fun e => ?_) (fun e => ?_)
    · refine seg_Bg (pc' := 14) (lv' := [(0, .ref 31), (1, .int v1), (2, .ref 29)]) (st' := [.int 0]) (lay' := LY70) (h' := h) 1 rfl ?_
      rw [hR, ← Option.some.inj e]; exact ret_Bg rfl
    · refine seg_Bg (pc' := 22) (lv' := [(0, .ref 31), (1, .int v1), (2, .ref 29)]) (st' := [.int ((h 31 3) - v1), .ref 31]) (lay' := LY70) (h' := h) 5 rfl ?_
      refine put_Bg (pc' := 25) (lv' := [(0, .ref 31), (1, .int v1), (2, .ref 29)]) (st' := []) (lay' := LY70) (x := hset h 31 3 ((h 31 3) - v1)) rfl e fun h1 e => ?_
      refine seg_Bg (pc' := 38) (lv' := [(0, .ref 31), (1, .int v1), (2, .ref 29)]) (st' := [.int ((((h1 31 4) + (16 : Int32)) - v1) - (((h1 31 4) + (16 : Int32)) - v1) / 16 * 16), .ref 31]) (lay' := LY70) (h' := h1) 9 rfl ?_
      refine put_Bg (pc' := 41) (lv' := [(0, .ref 31), (1, .int v1), (2, .ref 29)]) (st' := []) (lay' := LY70) (x := hset h1 31 4 ((((h1 31 4) + (16 : Int32)) - v1) - (((h1 31 4) + (16 : Int32)) - v1) / 16 * 16)) rfl e fun h2 e => ?_
      refine seg_Bg (pc' := 47) (lv' := [(0, .ref 31), (1, .int v1), (2, .ref 29)]) (st' := [.ref 29, .int (h2 31 4), .ref 31]) (lay' := LY70) (h' := h2) 4 rfl ?_
      refine call_Bg (a := 54) (la := [(0, .ref 31), (1, .int (h2 31 4)), (2, .ref 29)]) (np := 50) (lv' := [(0, .ref 31), (1, .int v1), (2, .ref 29)]) (rest := []) (res := fun r => ([], LY70, r)) rfl e (fun r e => BJpa_load L xs (h2 31 4) h2 r e) (fun c3 e => ?_)
      show Bg L xs 52 50 [(0, .ref 31), (1, .int v1), (2, .ref 29)] [] LY70 c3 R
      refine seg_Bg (pc' := 51) (lv' := [(0, .ref 31), (1, .int v1), (2, .ref 29)]) (st' := [.int 1]) (lay' := LY70) (h' := c3) 1 rfl ?_
      rw [hR, ← Option.some.inj e]; exact ret_Bg rfl

set_option maxRecDepth 100000 in
theorem BJyn_undo (L : Nat) (xs : Nat → Int32) (v1 : Int32) (h : Hp) (o : Int32 × Hp) (e : Jyn_undo v1 h = some o) : Bg L xs 121 0 [(0, .ref 0), (1, .int v1)] [] LY70 h ([.int o.1], LY70, o.2) := by
  obtain ⟨R, hR⟩ : ∃ R : List Value × Lay × Hp, R = ([.int o.1], LY70, o.2) := ⟨_, rfl⟩
  rw [← hR]
  refine seg_Bg (pc' := (if v1 < 1 then 11 else 5)) (lv' := [(0, .ref 0), (1, .int v1)]) (st' := []) (lay' := LY70) (h' := h) 3 rfl ?_
  refine pc_ite e (fun e => ?_) (fun e => ?_)
  · refine seg_Bg (pc' := 13) (lv' := [(0, .ref 0), (1, .int v1)]) (st' := [.int (-1000000002)]) (lay' := LY70) (h' := h) 1 rfl ?_
    rw [hR, ← Option.some.inj e]; exact ret_Bg rfl
  · refine seg_Bg (pc' := (if 16 < v1 then 11 else 14)) (lv' := [(0, .ref 0), (1, .int v1)]) (st' := []) (lay' := LY70) (h' := h) 3 rfl ?_
    refine pc_ite e (fun e => ?_) (fun e => ?_)
    · refine seg_Bg (pc' := 13) (lv' := [(0, .ref 0), (1, .int v1)]) (st' := [.int (-1000000002)]) (lay' := LY70) (h' := h) 1 rfl ?_
      rw [hR, ← Option.some.inj e]; exact ret_Bg rfl
    · refine seg_Bg (pc' := 23) (lv' := [(0, .ref 0), (1, .int v1)]) (st' := [.ref 29, .int v1, .ref 31]) (lay' := LY70) (h' := h) 5 rfl ?_
      refine call_Bg (a := 52) (la := [(0, .ref 31), (1, .int v1), (2, .ref 29)]) (np := 26) (lv' := [(0, .ref 0), (1, .int v1)]) (rest := []) (res := fun r => ([.int r.1], LY70, r.2)) rfl e (fun r e => BJpa_goBackBy L xs v1 h r e) (fun c1 e => ?_)
      show Bg L xs 121 26 [(0, .ref 0), (1, .int v1)] [.int c1.1] LY70 c1.2 R
      refine seg_Bg (pc' := (if c1.1 = 0 then 39 else 29)) (lv' := [(0, .ref 0), (1, .int v1)]) (st' := []) (lay' := LY70) (h' := c1.2) 1 rfl ?_
      refine pc_ite e (fun e => ?_) (fun e => ?_)
      · refine seg_Bg (pc' := 41) (lv' := [(0, .ref 0), (1, .int v1)]) (st' := [.int (-1000000003)]) (lay' := LY70) (h' := c1.2) 1 rfl ?_
        rw [hR, ← Option.some.inj e]; exact ret_Bg rfl
      · refine seg_Bg (pc' := 33) (lv' := [(0, .ref 0), (1, .int v1)]) (st' := [.ref 29]) (lay' := LY70) (h' := c1.2) 2 rfl ?_
        refine call_Bg (a := 74) (la := [(0, .ref 29)]) (np := 36) (lv' := [(0, .ref 0), (1, .int v1)]) (rest := []) (res := fun r => ([.int r], LY70, c1.2)) rfl e (fun r e => BJsh_size L xs c1.2 r e) (fun c2 e => ?_)
        show Bg L xs 121 36 [(0, .ref 0), (1, .int v1)] [.int c2] LY70 c1.2 R
        refine seg_Bg (pc' := 41) (lv' := [(0, .ref 0), (1, .int v1)]) (st' := [.int c2]) (lay' := LY70) (h' := c1.2) 1 rfl ?_
        rw [hR, ← Option.some.inj e]; exact ret_Bg rfl

