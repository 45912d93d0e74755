/-! Runs of the small machine are the functions of the methods. (Written by wip/whole/gen3.py.) -/
set_option maxRecDepth 100000 in
theorem BJm_init (L : Nat) (xs : Nat → Int32) (h : Hp) (o : Hp) (e : Jm_init h = some o) : Bg L xs 165 0 [(0, .ref 37)] [] LY73 h ([], LY88, o) := by
  obtain ⟨R, hR⟩ : ∃ R : List Value × Lay × Hp, R = ([], LY88, o) := ⟨_, rfl⟩
  rw [← hR]
  refine seg_Bg (pc' := 8) (lv' := [(0, .ref 37)]) (st' := [.int 152, .ref 37]) (lay' := LY73) (h' := h) 4 rfl ?_
  refine put_Bg (pc' := 10) (lv' := [(0, .ref 37)]) (st' := [.ref 38, .ref 37]) (lay' := LY103) (x := hnew h 38) rfl e fun h1 e => ?_
  refine seg_Bg (pc' := 15) (lv' := [(0, .ref 37)]) (st' := [.int 2, .ref 37]) (lay' := LY74) (h' := h1) 3 rfl ?_
  refine put_Bg (pc' := 17) (lv' := [(0, .ref 37)]) (st' := [.ref 39, .ref 37]) (lay' := LY102) (x := hnew h1 39) rfl e fun h2 e => ?_
  refine seg_Bg (pc' := 23) (lv' := [(0, .ref 37)]) (st' := [.int 60, .ref 37]) (lay' := LY75) (h' := h2) 3 rfl ?_
  refine put_Bg (pc' := 25) (lv' := [(0, .ref 37)]) (st' := [.ref 40, .ref 37]) (lay' := LY101) (x := hnew h2 40) rfl e fun h3 e => ?_
  refine seg_Bg (pc' := 30) (lv' := [(0, .ref 37)]) (st' := [.int (-1), .ref 37]) (lay' := LY76) (h' := h3) 3 rfl ?_
  refine put_Bg (pc' := 33) (lv' := [(0, .ref 37)]) (st' := []) (lay' := LY76) (x := hset h3 37 7 (-1)) rfl e fun h4 e => ?_
  refine seg_Bg (pc' := 36) (lv' := [(0, .ref 37)]) (st' := [.int 20, .ref 37]) (lay' := LY76) (h' := h4) 2 rfl ?_
  refine put_Bg (pc' := 38) (lv' := [(0, .ref 37)]) (st' := [.ref 41, .ref 37]) (lay' := LY100) (x := hnew h4 41) rfl e fun h5 e => ?_
  refine seg_Bg (pc' := 44) (lv' := [(0, .ref 37)]) (st' := [.int 20, .ref 37]) (lay' := LY77) (h' := h5) 3 rfl ?_
  refine put_Bg (pc' := 46) (lv' := [(0, .ref 37)]) (st' := [.ref 42, .ref 37]) (lay' := LY99) (x := hnew h5 42) rfl e fun h6 e => ?_
  refine seg_Bg (pc' := 53) (lv' := [(0, .ref 37)]) (st' := [.int 256, .ref 37]) (lay' := LY78) (h' := h6) 3 rfl ?_
  refine put_Bg (pc' := 55) (lv' := [(0, .ref 37)]) (st' := [.ref 43, .ref 37]) (lay' := LY98) (x := hnew h6 43) rfl e fun h7 e => ?_
  refine seg_Bg (pc' := 62) (lv' := [(0, .ref 37)]) (st' := [.int 512, .ref 37]) (lay' := LY79) (h' := h7) 3 rfl ?_
  refine put_Bg (pc' := 64) (lv' := [(0, .ref 37)]) (st' := [.ref 44, .ref 37]) (lay' := LY97) (x := hnew h7 44) rfl e fun h8 e => ?_
  refine seg_Bg (pc' := 71) (lv' := [(0, .ref 37)]) (st' := [.int 512, .ref 37]) (lay' := LY80) (h' := h8) 3 rfl ?_
  refine put_Bg (pc' := 73) (lv' := [(0, .ref 37)]) (st' := [.ref 45, .ref 37]) (lay' := LY96) (x := hnew h8 45) rfl e fun h9 e => ?_
  refine seg_Bg (pc' := 80) (lv' := [(0, .ref 37)]) (st' := [.int 256, .ref 37]) (lay' := LY81) (h' := h9) 3 rfl ?_
  refine put_Bg (pc' := 82) (lv' := [(0, .ref 37)]) (st' := [.ref 46, .ref 37]) (lay' := LY95) (x := hnew h9 46) rfl e fun h10 e => ?_
  refine seg_Bg (pc' := 89) (lv' := [(0, .ref 37)]) (st' := [.int 256, .ref 37]) (lay' := LY82) (h' := h10) 3 rfl ?_
  refine put_Bg (pc' := 91) (lv' := [(0, .ref 37)]) (st' := [.ref 47, .ref 37]) (lay' := LY94) (x := hnew h10 47) rfl e fun h11 e => ?_
  refine seg_Bg (pc' := 98) (lv' := [(0, .ref 37)]) (st' := [.int 768, .ref 37]) (lay' := LY83) (h' := h11) 3 rfl ?_
  refine put_Bg (pc' := 100) (lv' := [(0, .ref 37)]) (st' := [.ref 48, .ref 37]) (lay' := LY93) (x := hnew h11 48) rfl e fun h12 e => ?_
  refine seg_Bg (pc' := 107) (lv' := [(0, .ref 37)]) (st' := [.int 256, .ref 37]) (lay' := LY84) (h' := h12) 3 rfl ?_
  refine put_Bg (pc' := 109) (lv' := [(0, .ref 37)]) (st' := [.ref 49, .ref 37]) (lay' := LY92) (x := hnew h12 49) rfl e fun h13 e => ?_
  refine seg_Bg (pc' := 116) (lv' := [(0, .ref 37)]) (st' := [.int 256, .ref 37]) (lay' := LY85) (h' := h13) 3 rfl ?_
  refine put_Bg (pc' := 118) (lv' := [(0, .ref 37)]) (st' := [.ref 50, .ref 37]) (lay' := LY91) (x := hnew h13 50) rfl e fun h14 e => ?_
  refine seg_Bg (pc' := 125) (lv' := [(0, .ref 37)]) (st' := [.int 10002, .ref 37]) (lay' := LY86) (h' := h14) 3 rfl ?_
  refine put_Bg (pc' := 127) (lv' := [(0, .ref 37)]) (st' := [.ref 51, .ref 37]) (lay' := LY90) (x := hnew h14 51) rfl e fun h15 e => ?_
  refine seg_Bg (pc' := 133) (lv' := [(0, .ref 37)]) (st' := [.int 64, .ref 37]) (lay' := LY87) (h' := h15) 3 rfl ?_
  refine put_Bg (pc' := 135) (lv' := [(0, .ref 37)]) (st' := [.ref 52, .ref 37]) (lay' := LY89) (x := hnew h15 52) rfl e fun h16 e => ?_
  refine seg_Bg (pc' := 140) (lv' := [(0, .ref 37)]) (st' := [.int 0, .ref 37]) (lay' := LY88) (h' := h16) 3 rfl ?_
  refine put_Bg (pc' := 143) (lv' := [(0, .ref 37)]) (st' := []) (lay' := LY88) (x := hset h16 37 3 0) rfl e fun h17 e => ?_
  rw [hR, ← Option.some.inj e]; exact ret_Bg rfl

set_option maxRecDepth 100000 in
theorem BJfm_type (L : Nat) (xs : Nat → Int32) (v1 : Int32) (h : Hp) (o : Int32 × Hp) (e : Jfm_type v1 h = some o) : Bg L xs 42 0 [(0, .ref 1), (1, .int v1)] [] LY88 h ([.int o.1], LY88, o.2) := by
  obtain ⟨R, hR⟩ : ∃ R : List Value × Lay × Hp, R = ([.int o.1], LY88, o.2) := ⟨_, rfl⟩
  rw [← hR]
  refine seg_Bg (pc' := (if (h 1 2) < 0 then 16 else 7)) (lv' := [(0, .ref 1), (1, .int v1)]) (st' := []) (lay' := LY88) (h' := h) 3 rfl ?_
  refine pc_ite e (fun e => ?_) (fun e => ?_)
  · refine seg_Bg (pc' := 17) (lv' := [(0, .ref 1), (1, .int v1)]) (st' := [.int 0]) (lay' := LY88) (h' := h) 1 rfl ?_
    rw [hR, ← Option.some.inj e]; exact ret_Bg rfl
  · refine seg_Bg (pc' := (if (h 1 2) < 60 then 18 else 16)) (lv' := [(0, .ref 1), (1, .int v1)]) (st' := []) (lay' := LY88) (h' := h) 4 rfl ?_
    refine pc_ite e (fun e => ?_) (fun e => ?_)
    · refine seg_Bg (pc' := 27) (lv' := [(0, .ref 1), (1, .int v1)]) (st' := [.int v1, .int (h 1 2), .ref 2]) (lay' := LY88) (h' := h) 5 rfl ?_
      refine gp_Bg (pc' := 28) (lv' := [(0, .ref 1), (1, .int v1)]) (st' := []) (lay' := LY88) (x := hset h 2 (Int32.toNatClampNeg (h 1 2)) v1) (g := ibB (h 1 2) 60) rfl e fun h1 e => ?_
      refine seg_Bg (pc' := 35) (lv' := [(0, .ref 1), (1, .int v1)]) (st' := [.int ((h1 1 2) + (1 : Int32)), .ref 1]) (lay' := LY88) (h' := h1) 5 rfl ?_
      refine put_Bg (pc' := 38) (lv' := [(0, .ref 1), (1, .int v1)]) (st' := []) (lay' := LY88) (x := hset h1 1 2 ((h1 1 2) + (1 : Int32))) rfl e fun h2 e => ?_
      refine seg_Bg (pc' := 39) (lv' := [(0, .ref 1), (1, .int v1)]) (st' := [.int 1]) (lay' := LY88) (h' := h2) 1 rfl ?_
      rw [hR, ← Option.some.inj e]; exact ret_Bg rfl
    · refine seg_Bg (pc' := 17) (lv' := [(0, .ref 1), (1, .int v1)]) (st' := [.int 0]) (lay' := LY88) (h' := h) 1 rfl ?_
      rw [hR, ← Option.some.inj e]; exact ret_Bg rfl

set_option maxRecDepth 100000 in
theorem BJfm_size (L : Nat) (xs : Nat → Int32) (h : Hp) (o : Int32) (e : Jfm_size h = some o) : Bg L xs 40 0 [(0, .ref 1)] [] LY88 h ([.int o], LY88, h) := by
  obtain ⟨R, hR⟩ : ∃ R : List Value × Lay × Hp, R = ([.int o], LY88, h) := ⟨_, rfl⟩
  rw [← hR]
  refine seg_Bg (pc' := 4) (lv' := [(0, .ref 1)]) (st' := [.int (h 1 2)]) (lay' := LY88) (h' := h) 2 rfl ?_
  rw [hR, ← Option.some.inj e]; exact ret_Bg rfl

set_option maxRecDepth 100000 in
theorem BJyn_feed (L : Nat) (xs : Nat → Int32) (v1 : Int32) (h : Hp) (o : Int32 × Hp) (e : Jyn_feed v1 h = some o) : Bg L xs 131 0 [(0, .ref 0), (1, .int v1)] [] LY88 h ([.int o.1], LY88, o.2) := by
  obtain ⟨R, hR⟩ : ∃ R : List Value × Lay × Hp, R = ([.int o.1], LY88, o.2) := ⟨_, rfl⟩
  rw [← hR]
  refine seg_Bg (pc' := (if v1 < 0 then 11 else 4)) (lv' := [(0, .ref 0), (1, .int v1)]) (st' := []) (lay' := LY88) (h' := h) 2 rfl ?_
  refine pc_ite e (fun e => ?_) (fun e => ?_)
  · refine seg_Bg (pc' := 13) (lv' := [(0, .ref 0), (1, .int v1)]) (st' := [.int (-1000000002)]) (lay' := LY88) (h' := h) 1 rfl ?_
    rw [hR, ← Option.some.inj e]; exact ret_Bg rfl
  · refine seg_Bg (pc' := (if 255 < v1 then 11 else 14)) (lv' := [(0, .ref 0), (1, .int v1)]) (st' := []) (lay' := LY88) (h' := h) 3 rfl ?_
    refine pc_ite e (fun e => ?_) (fun e => ?_)
    · refine seg_Bg (pc' := 13) (lv' := [(0, .ref 0), (1, .int v1)]) (st' := [.int (-1000000002)]) (lay' := LY88) (h' := h) 1 rfl ?_
      rw [hR, ← Option.some.inj e]; exact ret_Bg rfl
    · refine seg_Bg (pc' := 19) (lv' := [(0, .ref 0), (1, .int v1)]) (st' := [.int v1, .ref 1]) (lay' := LY88) (h' := h) 3 rfl ?_
      refine call_Bg (a := 42) (la := [(0, .ref 1), (1, .int v1)]) (np := 22) (lv' := [(0, .ref 0), (1, .int v1)]) (rest := []) (res := fun r => ([.int r.1], LY88, r.2)) rfl e (fun r e => BJfm_type L xs v1 h r e) (fun c1 e => ?_)
      show Bg L xs 131 22 [(0, .ref 0), (1, .int v1)] [.int c1.1] LY88 c1.2 R
      refine seg_Bg (pc' := (if c1.1 = 0 then 35 else 25)) (lv' := [(0, .ref 0), (1, .int v1)]) (st' := []) (lay' := LY88) (h' := c1.2) 1 rfl ?_
      refine pc_ite e (fun e => ?_) (fun e => ?_)
      · refine seg_Bg (pc' := 37) (lv' := [(0, .ref 0), (1, .int v1)]) (st' := [.int (-1000000004)]) (lay' := LY88) (h' := c1.2) 1 rfl ?_
        rw [hR, ← Option.some.inj e]; exact ret_Bg rfl
      · refine seg_Bg (pc' := 29) (lv' := [(0, .ref 0), (1, .int v1)]) (st' := [.ref 1]) (lay' := LY88) (h' := c1.2) 2 rfl ?_
        refine call_Bg (a := 40) (la := [(0, .ref 1)]) (np := 32) (lv' := [(0, .ref 0), (1, .int v1)]) (rest := []) (res := fun r => ([.int r], LY88, c1.2)) rfl e (fun r e => BJfm_size L xs c1.2 r e) (fun c2 e => ?_)
        show Bg L xs 131 32 [(0, .ref 0), (1, .int v1)] [.int c2] LY88 c1.2 R
        refine seg_Bg (pc' := 37) (lv' := [(0, .ref 0), (1, .int v1)]) (st' := [.int c2]) (lay' := LY88) (h' := c1.2) 1 rfl ?_
        rw [hR, ← Option.some.inj e]; exact ret_Bg rfl

set_option maxRecDepth 100000 in
theorem BJm_in (L : Nat) (xs : Nat → Int32) (v0 : Int64) (v2 : Int64) (v4 : Int64) (lay : Lay) (h : Hp) (o : Int32) (e : Jm_in v0 v2 v4 = some o) : Bg L xs 166 0 [(0, .long v0), (2, .long v2), (4, .long v4)] [] lay h ([.int o], lay, h) := by
  obtain ⟨R, hR⟩ : ∃ R : List Value × Lay × Hp, R = ([.int o], lay, h) := ⟨_, rfl⟩
  rw [← hR]
  refine seg_Bg (pc' := (if (lg_cmp v0 v2) < 0 then 17 else 6)) (lv' := [(0, .long v0), (2, .long v2), (4, .long v4)]) (st' := []) (lay' := lay) (h' := h) 4 rfl ?_
  refine pc_ite e (fun e => ?_) (fun e => ?_)
  · refine seg_Bg (pc' := 18) (lv' := [(0, .long v0), (2, .long v2), (4, .long v4)]) (st' := [.int 0]) (lay' := lay) (h' := h) 1 rfl ?_
    rw [hR, ← Option.some.inj e]; exact ret_Bg rfl
  · refine seg_Bg (pc' := (if 0 < (lg_cmp v0 v4) then 17 else 13)) (lv' := [(0, .long v0), (2, .long v2), (4, .long v4)]) (st' := []) (lay' := lay) (h' := h) 4 rfl ?_
    refine pc_ite e (fun e => ?_) (fun e => ?_)
    · refine seg_Bg (pc' := 18) (lv' := [(0, .long v0), (2, .long v2), (4, .long v4)]) (st' := [.int 0]) (lay' := lay) (h' := h) 1 rfl ?_
      rw [hR, ← Option.some.inj e]; exact ret_Bg rfl
    · refine seg_Bg (pc' := 18) (lv' := [(0, .long v0), (2, .long v2), (4, .long v4)]) (st' := [.int 1]) (lay' := lay) (h' := h) 2 rfl ?_
      rw [hR, ← Option.some.inj e]; exact ret_Bg rfl

set_option maxRecDepth 100000 in
theorem BJm_feed (L : Nat) (xs : Nat → Int32) (v1 : Int32) (h : Hp) (o : Int32 × Hp) (e : Jm_feed v1 h = some o) : Bg L xs 216 0 [(0, .ref 37), (1, .int v1)] [] LY88 h ([.int o.1], LY88, o.2) := by
  obtain ⟨R, hR⟩ : ∃ R : List Value × Lay × Hp, R = ([.int o.1], LY88, o.2) := ⟨_, rfl⟩
  rw [← hR]
  refine seg_Bg (pc' := 6) (lv' := [(0, .ref 37), (1, .int v1)]) (st' := [.long 255, .long 0, .long (Int32.toInt64 v1)]) (lay' := LY88) (h' := h) 4 rfl ?_
  refine call_Bg (a := 166) (la := [(0, .long (Int32.toInt64 v1)), (2, .long 0), (4, .long 255)]) (np := 9) (lv' := [(0, .ref 37), (1, .int v1)]) (rest := []) (res := fun r => ([.int r], LY88, h)) rfl e (fun r e => BJm_in L xs (Int32.toInt64 v1) 0 255 LY88 h r e) (fun c1 e => ?_)
  show Bg L xs 216 9 [(0, .ref 37), (1, .int v1)] [.int c1] LY88 h R
  refine seg_Bg (pc' := (if c1 = 0 then 12 else 15)) (lv' := [(0, .ref 37), (1, .int v1)]) (st' := []) (lay' := LY88) (h' := h) 1 rfl ?_
  refine pc_ite e (fun e => ?_) (fun e => ?_)
  · refine seg_Bg (pc' := 14) (lv' := [(0, .ref 37), (1, .int v1)]) (st' := [.int (-1000000002)]) (lay' := LY88) (h' := h) 1 rfl ?_
    rw [hR, ← Option.some.inj e]; exact ret_Bg rfl
  · refine seg_Bg (pc' := (if (h 37 6) = 60 then 24 else 27)) (lv' := [(0, .ref 37), (1, .int v1)]) (st' := []) (lay' := LY88) (h' := h) 4 rfl ?_
    refine pc_ite e (fun e => ?_) (fun e => ?_)
    · refine seg_Bg (pc' := 26) (lv' := [(0, .ref 37), (1, .int v1)]) (st' := [.int (-1000000004)]) (lay' := LY88) (h' := h) 1 rfl ?_
      rw [hR, ← Option.some.inj e]; exact ret_Bg rfl
    · refine seg_Bg (pc' := 36) (lv' := [(0, .ref 37), (1, .int v1)]) (st' := [.int v1, .int (h 37 6), .ref 40]) (lay' := LY88) (h' := h) 5 rfl ?_
      refine gp_Bg (pc' := 37) (lv' := [(0, .ref 37), (1, .int v1)]) (st' := []) (lay' := LY88) (x := hset h 40 (Int32.toNatClampNeg (h 37 6)) v1) (g := ibB (h 37 6) 60) rfl e fun h2 e => ?_
      refine seg_Bg (pc' := 44) (lv' := [(0, .ref 37), (1, .int v1)]) (st' := [.int ((h2 37 6) + (1 : Int32)), .ref 37]) (lay' := LY88) (h' := h2) 5 rfl ?_
      refine put_Bg (pc' := 47) (lv' := [(0, .ref 37), (1, .int v1)]) (st' := []) (lay' := LY88) (x := hset h2 37 6 ((h2 37 6) + (1 : Int32))) rfl e fun h3 e => ?_
      refine seg_Bg (pc' := 51) (lv' := [(0, .ref 37), (1, .int v1)]) (st' := [.int (h3 37 6)]) (lay' := LY88) (h' := h3) 2 rfl ?_
      rw [hR, ← Option.some.inj e]; exact ret_Bg rfl

set_option maxRecDepth 100000 in
theorem BJsh_isFull (L : Nat) (xs : Nat → Int32) (h : Hp) (o : Int32) (e : Jsh_isFull h = some o) : Bg L xs 93 0 [(0, .ref 29)] [] LY88 h ([.int o], LY88, h) := by
  obtain ⟨R, hR⟩ : ∃ R : List Value × Lay × Hp, R = ([.int o], LY88, h) := ⟨_, rfl⟩
  rw [← hR]
  refine seg_Bg (pc' := (if (h 29 1) < 6 then 13 else 9)) (lv' := [(0, .ref 29)]) (st' := []) (lay' := LY88) (h' := h) 4 rfl ?_
  refine pc_ite e (fun e => ?_) (fun e => ?_)
  · refine seg_Bg (pc' := 14) (lv' := [(0, .ref 29)]) (st' := [.int 0]) (lay' := LY88) (h' := h) 1 rfl ?_
    rw [hR, ← Option.some.inj e]; exact ret_Bg rfl
  · refine seg_Bg (pc' := 14) (lv' := [(0, .ref 29)]) (st' := [.int 1]) (lay' := LY88) (h' := h) 2 rfl ?_
    rw [hR, ← Option.some.inj e]; exact ret_Bg rfl

set_option maxRecDepth 100000 in
theorem BJsh_size (L : Nat) (xs : Nat → Int32) (h : Hp) (o : Int32) (e : Jsh_size h = some o) : Bg L xs 92 0 [(0, .ref 29)] [] LY88 h ([.int o], LY88, h) := by
  obtain ⟨R, hR⟩ : ∃ R : List Value × Lay × Hp, R = ([.int o], LY88, h) := ⟨_, rfl⟩
  rw [← hR]
  refine seg_Bg (pc' := 4) (lv' := [(0, .ref 29)]) (st' := [.int (h 29 1)]) (lay' := LY88) (h' := h) 2 rfl ?_
  rw [hR, ← Option.some.inj e]; exact ret_Bg rfl

set_option maxRecDepth 100000 in
theorem BJfm_isFunction (L : Nat) (xs : Nat → Int32) (v0 : Int32) (lay : Lay) (h : Hp) (o : Int32) (e : Jfm_isFunction v0 = some o) : Bg L xs 49 0 [(0, .int v0)] [] lay h ([.int o], lay, h) := by
  obtain ⟨R, hR⟩ : ∃ R : List Value × Lay × Hp, R = ([.int o], lay, h) := ⟨_, rfl⟩
  rw [← hR]
  refine seg_Bg (pc' := (if v0 < 65 then 16 else 6)) (lv' := [(0, .int v0)]) (st' := []) (lay' := lay) (h' := h) 3 rfl ?_
  refine pc_ite e (fun e => ?_) (fun e => ?_)
  · refine seg_Bg (pc' := 17) (lv' := [(0, .int v0)]) (st' := [.int 0]) (lay' := lay) (h' := h) 1 rfl ?_
    rw [hR, ← Option.some.inj e]; exact ret_Bg rfl
  · refine seg_Bg (pc' := (if 70 < v0 then 16 else 12)) (lv' := [(0, .int v0)]) (st' := []) (lay' := lay) (h' := h) 3 rfl ?_
    refine pc_ite e (fun e => ?_) (fun e => ?_)
    · refine seg_Bg (pc' := 17) (lv' := [(0, .int v0)]) (st' := [.int 0]) (lay' := lay) (h' := h) 1 rfl ?_
      rw [hR, ← Option.some.inj e]; exact ret_Bg rfl
    · refine seg_Bg (pc' := 17) (lv' := [(0, .int v0)]) (st' := [.int 1]) (lay' := lay) (h' := h) 2 rfl ?_
      rw [hR, ← Option.some.inj e]; exact ret_Bg rfl

set_option maxRecDepth 100000 in
theorem BJfm_bound (L : Nat) (xs : Nat → Int32) (v0 : Int32) (lay : Lay) (h : Hp) (o : Int32) (e : Jfm_bound v0 = some o) : Bg L xs 50 0 [(0, .int v0)] [] lay h ([.int o], lay, h) := by
  obtain ⟨R, hR⟩ : ∃ R : List Value × Lay × Hp, R = ([.int o], lay, h) := ⟨_, rfl⟩
  rw [← hR]
  refine seg_Bg (pc' := 1) (lv' := [(0, .int v0)]) (st' := [.int v0]) (lay' := lay) (h' := h) 1 rfl ?_
  refine call_Bg (a := 49) (la := [(0, .int v0)]) (np := 4) (lv' := [(0, .int v0)]) (rest := []) (res := fun r => ([.int r], lay, h)) rfl e (fun r e => BJfm_isFunction L xs v0 lay h r e) (fun c1 e => ?_)
  show Bg L xs 50 4 [(0, .int v0)] [.int c1] lay h R
  refine seg_Bg (pc' := (if c1 = 0 then 9 else 7)) (lv' := [(0, .int v0)]) (st' := []) (lay' := lay) (h' := h) 1 rfl ?_
  refine pc_ite e (fun e => ?_) (fun e => ?_)
  · refine seg_Bg (pc' := (if v0 = 33 then 126 else if v0 = 38 then 128 else if v0 = 48 then 124 else if v0 = 49 then 124 else if v0 = 61 then 128 else if v0 = 62 then 128 else if v0 = 63 then 130 else if v0 = 94 then 128 else if v0 = 97 then 124 else if v0 = 98 then 124 else if v0 = 99 then 124 else if v0 = 109 then 130 else if v0 = 124 then 128 else 132)) (lv' := [(0, .int v0)]) (st' := []) (lay' := lay) (h' := h) 2 rfl ?_
    refine pc_ite e (fun e => ?_) (fun e => ?_)
    · refine seg_Bg (pc' := 127) (lv' := [(0, .int v0)]) (st' := [.int 1]) (lay' := lay) (h' := h) 1 rfl ?_
      rw [hR, ← Option.some.inj e]; exact ret_Bg rfl
    · refine pc_ite e (fun e => ?_) (fun e => ?_)
      · refine seg_Bg (pc' := 129) (lv' := [(0, .int v0)]) (st' := [.int 2]) (lay' := lay) (h' := h) 1 rfl ?_
        rw [hR, ← Option.some.inj e]; exact ret_Bg rfl
      · refine pc_ite e (fun e => ?_) (fun e => ?_)
        · refine seg_Bg (pc' := 125) (lv' := [(0, .int v0)]) (st' := [.int 0]) (lay' := lay) (h' := h) 1 rfl ?_
          rw [hR, ← Option.some.inj e]; exact ret_Bg rfl
        · refine pc_ite e (fun e => ?_) (fun e => ?_)
          · refine seg_Bg (pc' := 125) (lv' := [(0, .int v0)]) (st' := [.int 0]) (lay' := lay) (h' := h) 1 rfl ?_
            rw [hR, ← Option.some.inj e]; exact ret_Bg rfl
          · refine pc_ite e (fun e => ?_) (fun e => ?_)
            · refine seg_Bg (pc' := 129) (lv' := [(0, .int v0)]) (st' := [.int 2]) (lay' := lay) (h' := h) 1 rfl ?_
              rw [hR, ← Option.some.inj e]; exact ret_Bg rfl
            · refine pc_ite e (fun e => ?_) (fun e => ?_)
              · refine seg_Bg (pc' := 129) (lv' := [(0, .int v0)]) (st' := [.int 2]) (lay' := lay) (h' := h) 1 rfl ?_
                rw [hR, ← Option.some.inj e]; exact ret_Bg rfl
              · refine pc_ite e (fun e => ?_) (fun e => ?_)
                · refine seg_Bg (pc' := 131) (lv' := [(0, .int v0)]) (st' := [.int 3]) (lay' := lay) (h' := h) 1 rfl ?_
                  rw [hR, ← Option.some.inj e]; exact ret_Bg rfl
                · refine pc_ite e (fun e => ?_) (fun e => ?_)
                  · refine seg_Bg (pc' := 129) (lv' := [(0, .int v0)]) (st' := [.int 2]) (lay' := lay) (h' := h) 1 rfl ?_
                    rw [hR, ← Option.some.inj e]; exact ret_Bg rfl
                  · refine pc_ite e (fun e => ?_) (fun e => ?_)
                    · refine seg_Bg (pc' := 125) (lv' := [(0, .int v0)]) (st' := [.int 0]) (lay' := lay) (h' := h) 1 rfl ?_
                      rw [hR, ← Option.some.inj e]; exact ret_Bg rfl
                    · refine pc_ite e (fun e => ?_) (fun e => ?_)
                      · refine seg_Bg (pc' := 125) (lv' := [(0, .int v0)]) (st' := [.int 0]) (lay' := lay) (h' := h) 1 rfl ?_
                        rw [hR, ← Option.some.inj e]; exact ret_Bg rfl
                      · refine pc_ite e (fun e => ?_) (fun e => ?_)
                        · refine seg_Bg (pc' := 125) (lv' := [(0, .int v0)]) (st' := [.int 0]) (lay' := lay) (h' := h) 1 rfl ?_
                          rw [hR, ← Option.some.inj e]; exact ret_Bg rfl
                        · refine pc_ite e (fun e => ?_) (fun e => ?_)
                          · refine seg_Bg (pc' := 131) (lv' := [(0, .int v0)]) (st' := [.int 3]) (lay' := lay) (h' := h) 1 rfl ?_
                            rw [hR, ← Option.some.inj e]; exact ret_Bg rfl
                          · refine pc_ite e (fun e => ?_) (fun e => ?_)
                            · refine seg_Bg (pc' := 129) (lv' := [(0, .int v0)]) (st' := [.int 2]) (lay' := lay) (h' := h) 1 rfl ?_
                              rw [hR, ← Option.some.inj e]; exact ret_Bg rfl
                            · refine seg_Bg (pc' := 133) (lv' := [(0, .int v0)]) (st' := [.int (-1)]) (lay' := lay) (h' := h) 1 rfl ?_
                              rw [hR, ← Option.some.inj e]; exact ret_Bg rfl
  · refine seg_Bg (pc' := 8) (lv' := [(0, .int v0)]) (st' := [.int 3]) (lay' := lay) (h' := h) 1 rfl ?_
    rw [hR, ← Option.some.inj e]; exact ret_Bg rfl

set_option maxRecDepth 100000 in
theorem BJfm_faultOf (L : Nat) (xs : Nat → Int32) (v0 : Int32) (v1 : Int32) (lay : Lay) (h : Hp) (o : Int32) (e : Jfm_faultOf v0 v1 = some o) : Bg L xs 45 0 [(0, .int v0), (1, .int v1)] [] lay h ([.int o], lay, h) := by
  obtain ⟨R, hR⟩ : ∃ R : List Value × Lay × Hp, R = ([.int o], lay, h) := ⟨_, rfl⟩
  rw [← hR]
  refine seg_Bg (pc' := 1) (lv' := [(0, .int v0), (1, .int v1)]) (st' := [.int v0]) (lay' := lay) (h' := h) 1 rfl ?_
  refine call_Bg (a := 50) (la := [(0, .int v0)]) (np := 4) (lv' := [(0, .int v0), (1, .int v1)]) (rest := []) (res := fun r => ([.int r], lay, h)) rfl e (fun r e => BJfm_bound L xs v0 lay h r e) (fun c1 e => ?_)
  show Bg L xs 45 4 [(0, .int v0), (1, .int v1)] [.int c1] lay h R
  refine seg_Bg (pc' := (if c1 = (-1) then 8 else 10)) (lv' := [(0, .int v0), (1, .int v1)]) (st' := []) (lay' := lay) (h' := h) 2 rfl ?_
  refine pc_ite e (fun e => ?_) (fun e => ?_)
  · refine seg_Bg (pc' := 9) (lv' := [(0, .int v0), (1, .int v1)]) (st' := [.int 1]) (lay' := lay) (h' := h) 1 rfl ?_
    rw [hR, ← Option.some.inj e]; exact ret_Bg rfl
  · refine seg_Bg (pc' := 11) (lv' := [(0, .int v0), (1, .int v1)]) (st' := [.int v0]) (lay' := lay) (h' := h) 1 rfl ?_
    refine call_Bg (a := 49) (la := [(0, .int v0)]) (np := 14) (lv' := [(0, .int v0), (1, .int v1)]) (rest := []) (res := fun r => ([.int r], lay, h)) rfl e (fun r e => BJfm_isFunction L xs v0 lay h r e) (fun c2 e => ?_)
    show Bg L xs 45 14 [(0, .int v0), (1, .int v1)] [.int c2] lay h R
    refine seg_Bg (pc' := (if c2 = 0 then 29 else 17)) (lv' := [(0, .int v0), (1, .int v1)]) (st' := []) (lay' := lay) (h' := h) 1 rfl ?_
    refine pc_ite e (fun e => ?_) (fun e => ?_)
    · refine seg_Bg (pc' := 30) (lv' := [(0, .int v0), (1, .int v1)]) (st' := [.int 0]) (lay' := lay) (h' := h) 1 rfl ?_
      rw [hR, ← Option.some.inj e]; exact ret_Bg rfl
    · refine seg_Bg (pc' := (if (v0 - (65 : Int32)) < v1 then 29 else 25)) (lv' := [(0, .int v0), (1, .int v1)]) (st' := []) (lay' := lay) (h' := h) 5 rfl ?_
      refine pc_ite e (fun e => ?_) (fun e => ?_)
      · refine seg_Bg (pc' := 30) (lv' := [(0, .int v0), (1, .int v1)]) (st' := [.int 0]) (lay' := lay) (h' := h) 1 rfl ?_
        rw [hR, ← Option.some.inj e]; exact ret_Bg rfl
      · refine seg_Bg (pc' := 30) (lv' := [(0, .int v0), (1, .int v1)]) (st' := [.int 2]) (lay' := lay) (h' := h) 2 rfl ?_
        rw [hR, ← Option.some.inj e]; exact ret_Bg rfl

set_option maxRecDepth 100000 in
theorem BJfm_firstFault_J36 (L : Nat) (xs : Nat → Int32) (v1 v2 v3 s0 : Int32) (h : Hp) (o : ((Int32 × Int32) ⊕ ((Int32 × Int32) ⊕ (Int32 × Hp)))) (e : Jfm_firstFault_J36 v1 v2 v3 s0 h = some o) (R : List Value × Lay × Hp) (hH : ∀ s : Int32 × Int32, o = .inl s → Bg L xs 44 4 [(0, .ref 1), (1, .int v1), (2, .int s.1), (3, .int s.2)] [] LY88 h R) (hE : ∀ t : Int32 × Int32, o = .inr (.inl t) → Bg L xs 44 71 [(0, .ref 1), (1, .int v1), (2, .int t.1), (3, .int t.2)] [] LY88 h R) (hR : ∀ r : Int32 × Hp, o = .inr (.inr r) → R = ([.int r.1], LY88, r.2)) : Bg L xs 44 36 [(0, .ref 1), (1, .int v1), (2, .int v2), (3, .int v3)] [.int s0] LY88 h R := by
  refine seg_Bg (pc' := (if s0 = 0 then 51 else 43)) (lv' := [(0, .ref 1), (1, .int v1), (2, .int v2), (3, .int v3), (4, .int s0)]) (st' := []) (lay' := LY88) (h' := h) 3 rfl ?_
  refine pc_ite e (fun e => ?_) (fun e => ?_)
  · refine seg_Bg (pc' := 57) (lv' := [(0, .ref 1), (1, .int v1), (2, .int v2), (3, .int v3), (4, .int s0)]) (st' := [.int v3, .ref 2, .int v2]) (lay' := LY88) (h' := h) 4 rfl ?_
    refine gd_Bg (pc' := 58) (lv' := [(0, .ref 1), (1, .int v1), (2, .int v2), (3, .int v3), (4, .int s0)]) (st' := [.int (h 2 (Int32.toNatClampNeg v3)), .int v2]) (lay' := LY88) (h' := h) (g := ibB v3 60) rfl e fun e => ?_
    refine call_Bg (a := 50) (la := [(0, .int (h 2 (Int32.toNatClampNeg v3)))]) (np := 61) (lv' := [(0, .ref 1), (1, .int v1), (2, .int v2), (3, .int v3), (4, .int s0)]) (rest := [.int v2]) (res := fun r => ([.int r], LY88, h)) rfl e (fun r e => BJfm_bound L xs (h 2 (Int32.toNatClampNeg v3)) LY88 h r e) (fun c1 e => ?_)
    show Bg L xs 44 61 [(0, .ref 1), (1, .int v1), (2, .int v2), (3, .int v3), (4, .int s0)] [.int c1, .int v2] LY88 h R
    refine seg_Bg (pc' := 4) (lv' := [(0, .ref 1), (1, .int v1), (2, .int (v2 + (c1 - (1 : Int32)))), (3, .int (v3 + 1)), (4, .int s0)]) (st' := []) (lay' := LY88) (h' := h) 6 rfl ?_
    refine kp_Bg (lv' := [(0, .ref 1), (1, .int v1), (2, .int (v2 + (c1 - (1 : Int32)))), (3, .int (v3 + 1))]) rfl rfl ?_
    exact hH (v2 + (c1 - (1 : Int32)), v3 + 1) (Option.some.inj e).symm
  · refine seg_Bg (pc' := 45) (lv' := [(0, .ref 1), (1, .int v1), (2, .int v2), (3, .int v3), (4, .int s0)]) (st' := [.int v3, .ref 1]) (lay' := LY88) (h' := h) 2 rfl ?_
    refine put_Bg (pc' := 48) (lv' := [(0, .ref 1), (1, .int v1), (2, .int v2), (3, .int v3), (4, .int s0)]) (st' := []) (lay' := LY88) (x := hset h 1 4 v3) rfl e fun h2 e => ?_
    refine seg_Bg (pc' := 50) (lv' := [(0, .ref 1), (1, .int v1), (2, .int v2), (3, .int v3), (4, .int s0)]) (st' := [.int s0]) (lay' := LY88) (h' := h2) 1 rfl ?_
    rw [hR (s0, h2) (Option.some.inj e).symm]; exact ret_Bg rfl
set_option maxRecDepth 100000 in
theorem BJfm_firstFault_L4_s (L : Nat) (xs : Nat → Int32) (v1 : Int32) (h : Hp) (R : List Value × Lay × Hp) (v2 v3 : Int32) (o : ((Int32 × Int32) ⊕ ((Int32 × Int32) ⊕ (Int32 × Hp)))) (hH : ∀ s : Int32 × Int32, o = .inl s → Bg L xs 44 4 [(0, .ref 1), (1, .int v1), (2, .int s.1), (3, .int s.2)] [] LY88 h R) (hE : ∀ t : Int32 × Int32, o = .inr (.inl t) → Bg L xs 44 71 [(0, .ref 1), (1, .int v1), (2, .int t.1), (3, .int t.2)] [] LY88 h R) (hR : ∀ r : Int32 × Hp, o = .inr (.inr r) → R = ([.int r.1], LY88, r.2)) (e : Jfm_firstFault_L4 v1 h v2 v3 = some o) : Bg L xs 44 4 [(0, .ref 1), (1, .int v1), (2, .int v2), (3, .int v3)] [] LY88 h R := by
  refine seg_Bg (pc' := (if v3 < (h 1 2) then 12 else 71)) (lv' := [(0, .ref 1), (1, .int v1), (2, .int v2), (3, .int v3)]) (st' := []) (lay' := LY88) (h' := h) 4 rfl ?_
  refine pc_ite e (fun e => ?_) (fun e => ?_)
  · refine seg_Bg (pc' := (if v3 < 60 then 18 else 71)) (lv' := [(0, .ref 1), (1, .int v1), (2, .int v2), (3, .int v3)]) (st' := []) (lay' := LY88) (h' := h) 3 rfl ?_
    refine pc_ite e (fun e => ?_) (fun e => ?_)
    · refine seg_Bg (pc' := (if v2 = 0 then 22 else 26)) (lv' := [(0, .ref 1), (1, .int v1), (2, .int v2), (3, .int v3)]) (st' := []) (lay' := LY88) (h' := h) 2 rfl ?_
      refine pc_ite e (fun e => ?_) (fun e => ?_)
      · refine seg_Bg (pc' := 36) (lv' := [(0, .ref 1), (1, .int v1), (2, .int v2), (3, .int v3)]) (st' := [.int 3]) (lay' := LY88) (h' := h) 2 rfl ?_
        exact BJfm_firstFault_J36 L xs v1 v2 v3 3 h o e R hH hE hR
      · refine seg_Bg (pc' := 31) (lv' := [(0, .ref 1), (1, .int v1), (2, .int v2), (3, .int v3)]) (st' := [.int v3, .ref 2]) (lay' := LY88) (h' := h) 3 rfl ?_
        refine gd_Bg (pc' := 32) (lv' := [(0, .ref 1), (1, .int v1), (2, .int v2), (3, .int v3)]) (st' := [.int (h 2 (Int32.toNatClampNeg v3))]) (lay' := LY88) (h' := h) (g := ibB v3 60) rfl e fun e => ?_
        refine seg_Bg (pc' := 33) (lv' := [(0, .ref 1), (1, .int v1), (2, .int v2), (3, .int v3)]) (st' := [.int v1, .int (h 2 (Int32.toNatClampNeg v3))]) (lay' := LY88) (h' := h) 1 rfl ?_
        refine call_Bg (a := 45) (la := [(0, .int (h 2 (Int32.toNatClampNeg v3))), (1, .int v1)]) (np := 36) (lv' := [(0, .ref 1), (1, .int v1), (2, .int v2), (3, .int v3)]) (rest := []) (res := fun r => ([.int r], LY88, h)) rfl e (fun r e => BJfm_faultOf L xs (h 2 (Int32.toNatClampNeg v3)) v1 LY88 h r e) (fun c3 e => ?_)
        show Bg L xs 44 36 [(0, .ref 1), (1, .int v1), (2, .int v2), (3, .int v3)] [.int c3] LY88 h R
        refine seg_Bg (pc' := (if c3 = 0 then 51 else 43)) (lv' := [(0, .ref 1), (1, .int v1), (2, .int v2), (3, .int v3), (4, .int c3)]) (st' := []) (lay' := LY88) (h' := h) 3 rfl ?_
        refine pc_ite e (fun e => ?_) (fun e => ?_)
        · refine seg_Bg (pc' := 57) (lv' := [(0, .ref 1), (1, .int v1), (2, .int v2), (3, .int v3), (4, .int c3)]) (st' := [.int v3, .ref 2, .int v2]) (lay' := LY88) (h' := h) 4 rfl ?_
          refine gd_Bg (pc' := 58) (lv' := [(0, .ref 1), (1, .int v1), (2, .int v2), (3, .int v3), (4, .int c3)]) (st' := [.int (h 2 (Int32.toNatClampNeg v3)), .int v2]) (lay' := LY88) (h' := h) (g := ibB v3 60) rfl e fun e => ?_
          refine call_Bg (a := 50) (la := [(0, .int (h 2 (Int32.toNatClampNeg v3)))]) (np := 61) (lv' := [(0, .ref 1), (1, .int v1), (2, .int v2), (3, .int v3), (4, .int c3)]) (rest := [.int v2]) (res := fun r => ([.int r], LY88, h)) rfl e (fun r e => BJfm_bound L xs (h 2 (Int32.toNatClampNeg v3)) LY88 h r e) (fun c4 e => ?_)
          show Bg L xs 44 61 [(0, .ref 1), (1, .int v1), (2, .int v2), (3, .int v3), (4, .int c3)] [.int c4, .int v2] LY88 h R
          refine seg_Bg (pc' := 4) (lv' := [(0, .ref 1), (1, .int v1), (2, .int (v2 + (c4 - (1 : Int32)))), (3, .int (v3 + 1)), (4, .int c3)]) (st' := []) (lay' := LY88) (h' := h) 6 rfl ?_
          refine kp_Bg (lv' := [(0, .ref 1), (1, .int v1), (2, .int (v2 + (c4 - (1 : Int32)))), (3, .int (v3 + 1))]) rfl rfl ?_
          exact hH (v2 + (c4 - (1 : Int32)), v3 + 1) (Option.some.inj e).symm
        · refine seg_Bg (pc' := 45) (lv' := [(0, .ref 1), (1, .int v1), (2, .int v2), (3, .int v3), (4, .int c3)]) (st' := [.int v3, .ref 1]) (lay' := LY88) (h' := h) 2 rfl ?_
          refine put_Bg (pc' := 48) (lv' := [(0, .ref 1), (1, .int v1), (2, .int v2), (3, .int v3), (4, .int c3)]) (st' := []) (lay' := LY88) (x := hset h 1 4 v3) rfl e fun h5 e => ?_
          refine seg_Bg (pc' := 50) (lv' := [(0, .ref 1), (1, .int v1), (2, .int v2), (3, .int v3), (4, .int c3)]) (st' := [.int c3]) (lay' := LY88) (h' := h5) 1 rfl ?_
          rw [hR (c3, h5) (Option.some.inj e).symm]; exact ret_Bg rfl
    · exact hE (v2, v3) (Option.some.inj e).symm
  · exact hE (v2, v3) (Option.some.inj e).symm
theorem BJfm_firstFault_L4 (L : Nat) (xs : Nat → Int32) (v1 : Int32) (h : Hp) (R : List Value × Lay × Hp) (C : ((Int32 × Int32) ⊕ (Int32 × Hp)) → Prop) (hE : ∀ t : Int32 × Int32, C (.inl t) → Bg L xs 44 71 [(0, .ref 1), (1, .int v1), (2, .int t.1), (3, .int t.2)] [] LY88 h R) (hR : ∀ r : Int32 × Hp, C (.inr r) → R = ([.int r.1], LY88, r.2)) (n : Nat) (s : Int32 × Int32) (o : ((Int32 × Int32) ⊕ (Int32 × Hp))) (e : loopN n (fun s => Jfm_firstFault_L4 v1 h s.1 s.2) s = some o) (hC : C o) : Bg L xs 44 4 [(0, .ref 1), (1, .int v1), (2, .int s.1), (3, .int s.2)] [] LY88 h R := by
  refine loop_B (fun s => Jfm_firstFault_L4 v1 h s.1 s.2) (fun s : Int32 × Int32 => Bg L xs 44 4 [(0, .ref 1), (1, .int v1), (2, .int s.1), (3, .int s.2)] [] LY88 h R) C (fun s o e => ?_) n s o e hC
  intro hK
  refine BJfm_firstFault_L4_s L xs v1 h R s.1 s.2 o (fun s q => by subst q; exact hK) (fun t q => by subst q; exact hE t hK) (fun r q => by subst q; exact hR r hK) e
set_option maxRecDepth 100000 in
theorem BJfm_firstFault (L : Nat) (xs : Nat → Int32) (v1 : Int32) (h : Hp) (o : Int32 × Hp) (e : Jfm_firstFault v1 h = some o) : Bg L xs 44 0 [(0, .ref 1), (1, .int v1)] [] LY88 h ([.int o.1], LY88, o.2) := by
  obtain ⟨R, hR⟩ : ∃ R : List Value × Lay × Hp, R = ([.int o.1], LY88, o.2) := ⟨_, rfl⟩
  rw [← hR]
  refine seg_Bg (pc' := 4) (lv' := [(0, .ref 1), (1, .int v1), (2, .int 1), (3, .int 0)]) (st' := []) (lay' := LY88) (h' := h) 4 rfl ?_
  obtain ⟨t6o, et6o, e⟩ := bd_s e
  refine BJfm_firstFault_L4 L xs v1 h R (fun (t6x : (Int32 × Int32) ⊕ (Int32 × Hp)) => (sm t6x (fun t6 => lt (hset h 1 4 (h 1 2)) fun h7 => if 0 < t6.1 then some (4, h7) else some (0, h7)) (fun r7 => some r7)) = some o) (fun t6 e => ?_) (fun r7 e => ?_) 1000000 (1, 0) _ et6o e
  · dsimp only [sm] at e
    refine seg_Bg (pc' := 76) (lv' := [(0, .ref 1), (1, .int v1), (2, .int t6.1), (3, .int t6.2)]) (st' := [.int (h 1 2), .ref 1]) (lay' := LY88) (h' := h) 3 rfl ?_
    refine put_Bg (pc' := 79) (lv' := [(0, .ref 1), (1, .int v1), (2, .int t6.1), (3, .int t6.2)]) (st' := []) (lay' := LY88) (x := hset h 1 4 (h 1 2)) rfl e fun h7 e => ?_
    refine seg_Bg (pc' := (if 0 < t6.1 then 83 else 87)) (lv' := [(0, .ref 1), (1, .int v1), (2, .int t6.1), (3, .int t6.2)]) (st' := []) (lay' := LY88) (h' := h7) 2 rfl ?_
    refine pc_ite e (fun e => ?_) (fun e => ?_)
    · refine seg_Bg (pc' := 88) (lv' := [(0, .ref 1), (1, .int v1), (2, .int t6.1), (3, .int t6.2)]) (st' := [.int 4]) (lay' := LY88) (h' := h7) 2 rfl ?_
      rw [hR, ← Option.some.inj e]; exact ret_Bg rfl
    · refine seg_Bg (pc' := 88) (lv' := [(0, .ref 1), (1, .int v1), (2, .int t6.1), (3, .int t6.2)]) (st' := [.int 0]) (lay' := LY88) (h' := h7) 1 rfl ?_
      rw [hR, ← Option.some.inj e]; exact ret_Bg rfl
  · rw [hR]; exact congrArg (fun r => (([.int r.1], LY88, r.2) : List Value × Lay × Hp)) (Option.some.inj e).symm

set_option maxRecDepth 100000 in
theorem BJfm_codeOf (L : Nat) (xs : Nat → Int32) (v0 : Int32) (lay : Lay) (h : Hp) (o : Int32) (e : Jfm_codeOf v0 = some o) : Bg L xs 51 0 [(0, .int v0)] [] lay h ([.int o], lay, h) := by
  obtain ⟨R, hR⟩ : ∃ R : List Value × Lay × Hp, R = ([.int o], lay, h) := ⟨_, rfl⟩
  rw [← hR]
  refine seg_Bg (pc' := (if v0 = 33 then 124 else if v0 = 38 then 127 else if v0 = 49 then 108 else if v0 = 61 then 138 else if v0 = 62 then 142 else if v0 = 63 then 146 else if v0 = 94 then 135 else if v0 = 97 then 112 else if v0 = 98 then 116 else if v0 = 99 then 120 else if v0 = 109 then 150 else if v0 = 124 then 131 else 154)) (lv' := [(0, .int v0)]) (st' := []) (lay' := lay) (h' := h) 2 rfl ?_
  refine pc_ite e (fun e => ?_) (fun e => ?_)
  · refine seg_Bg (pc' := 126) (lv' := [(0, .int v0)]) (st' := [.int 15]) (lay' := lay) (h' := h) 1 rfl ?_
    rw [hR, ← Option.some.inj e]; exact ret_Bg rfl
  · refine pc_ite e (fun e => ?_) (fun e => ?_)
    · refine seg_Bg (pc' := 130) (lv' := [(0, .int v0)]) (st' := [.int 192]) (lay' := lay) (h' := h) 1 rfl ?_
      rw [hR, ← Option.some.inj e]; exact ret_Bg rfl
    · refine pc_ite e (fun e => ?_) (fun e => ?_)
      · refine seg_Bg (pc' := 111) (lv' := [(0, .int v0)]) (st' := [.int 255]) (lay' := lay) (h' := h) 1 rfl ?_
        rw [hR, ← Option.some.inj e]; exact ret_Bg rfl
      · refine pc_ite e (fun e => ?_) (fun e => ?_)
        · refine seg_Bg (pc' := 141) (lv' := [(0, .int v0)]) (st' := [.int 195]) (lay' := lay) (h' := h) 1 rfl ?_
          rw [hR, ← Option.some.inj e]; exact ret_Bg rfl
        · refine pc_ite e (fun e => ?_) (fun e => ?_)
          · refine seg_Bg (pc' := 145) (lv' := [(0, .int v0)]) (st' := [.int 207]) (lay' := lay) (h' := h) 1 rfl ?_
            rw [hR, ← Option.some.inj e]; exact ret_Bg rfl
          · refine pc_ite e (fun e => ?_) (fun e => ?_)
            · refine seg_Bg (pc' := 149) (lv' := [(0, .int v0)]) (st' := [.int 202]) (lay' := lay) (h' := h) 1 rfl ?_
              rw [hR, ← Option.some.inj e]; exact ret_Bg rfl
            · refine pc_ite e (fun e => ?_) (fun e => ?_)
              · refine seg_Bg (pc' := 137) (lv' := [(0, .int v0)]) (st' := [.int 60]) (lay' := lay) (h' := h) 1 rfl ?_
                rw [hR, ← Option.some.inj e]; exact ret_Bg rfl
              · refine pc_ite e (fun e => ?_) (fun e => ?_)
                · refine seg_Bg (pc' := 115) (lv' := [(0, .int v0)]) (st' := [.int 240]) (lay' := lay) (h' := h) 1 rfl ?_
                  rw [hR, ← Option.some.inj e]; exact ret_Bg rfl
                · refine pc_ite e (fun e => ?_) (fun e => ?_)
                  · refine seg_Bg (pc' := 119) (lv' := [(0, .int v0)]) (st' := [.int 204]) (lay' := lay) (h' := h) 1 rfl ?_
                    rw [hR, ← Option.some.inj e]; exact ret_Bg rfl
                  · refine pc_ite e (fun e => ?_) (fun e => ?_)
                    · refine seg_Bg (pc' := 123) (lv' := [(0, .int v0)]) (st' := [.int 170]) (lay' := lay) (h' := h) 1 rfl ?_
                      rw [hR, ← Option.some.inj e]; exact ret_Bg rfl
                    · refine pc_ite e (fun e => ?_) (fun e => ?_)
                      · refine seg_Bg (pc' := 153) (lv' := [(0, .int v0)]) (st' := [.int 232]) (lay' := lay) (h' := h) 1 rfl ?_
                        rw [hR, ← Option.some.inj e]; exact ret_Bg rfl
                      · refine pc_ite e (fun e => ?_) (fun e => ?_)
                        · refine seg_Bg (pc' := 134) (lv' := [(0, .int v0)]) (st' := [.int 252]) (lay' := lay) (h' := h) 1 rfl ?_
                          rw [hR, ← Option.some.inj e]; exact ret_Bg rfl
                        · refine seg_Bg (pc' := 155) (lv' := [(0, .int v0)]) (st' := [.int 0]) (lay' := lay) (h' := h) 1 rfl ?_
                          rw [hR, ← Option.some.inj e]; exact ret_Bg rfl

set_option maxRecDepth 100000 in
theorem BJfm_pop (L : Nat) (xs : Nat → Int32) (h : Hp) (o : Int32 × Hp) (e : Jfm_pop h = some o) : Bg L xs 48 0 [(0, .ref 1)] [] LY88 h ([.int o.1], LY88, o.2) := by
  obtain ⟨R, hR⟩ : ∃ R : List Value × Lay × Hp, R = ([.int o.1], LY88, o.2) := ⟨_, rfl⟩
  rw [← hR]
  refine seg_Bg (pc' := (if (h 1 3) < 1 then 17 else 8)) (lv' := [(0, .ref 1)]) (st' := []) (lay' := LY88) (h' := h) 4 rfl ?_
  refine pc_ite e (fun e => ?_) (fun e => ?_)
  · refine seg_Bg (pc' := 18) (lv' := [(0, .ref 1)]) (st' := [.int 0]) (lay' := LY88) (h' := h) 1 rfl ?_
    rw [hR, ← Option.some.inj e]; exact ret_Bg rfl
  · refine seg_Bg (pc' := (if 60 < (h 1 3) then 17 else 19)) (lv' := [(0, .ref 1)]) (st' := []) (lay' := LY88) (h' := h) 4 rfl ?_
    refine pc_ite e (fun e => ?_) (fun e => ?_)
    · refine seg_Bg (pc' := 18) (lv' := [(0, .ref 1)]) (st' := [.int 0]) (lay' := LY88) (h' := h) 1 rfl ?_
      rw [hR, ← Option.some.inj e]; exact ret_Bg rfl
    · refine seg_Bg (pc' := 26) (lv' := [(0, .ref 1)]) (st' := [.int ((h 1 3) - (1 : Int32)), .ref 1]) (lay' := LY88) (h' := h) 5 rfl ?_
      refine put_Bg (pc' := 29) (lv' := [(0, .ref 1)]) (st' := []) (lay' := LY88) (x := hset h 1 3 ((h 1 3) - (1 : Int32))) rfl e fun h1 e => ?_
      refine seg_Bg (pc' := 37) (lv' := [(0, .ref 1)]) (st' := [.int (h1 1 3), .ref 3]) (lay' := LY88) (h' := h1) 4 rfl ?_
      refine gd_Bg (pc' := 38) (lv' := [(0, .ref 1)]) (st' := [.int (h1 3 (Int32.toNatClampNeg (h1 1 3)))]) (lay' := LY88) (h' := h1) (g := ibB (h1 1 3) 60) rfl e fun e => ?_
      rw [hR, ← Option.some.inj e]; exact ret_Bg rfl

set_option maxRecDepth 100000 in
theorem BJco_putOnBits_L6_s (L : Nat) (xs : Nat → Int32) (v0 v1 v2 v3 v4 : Int32) (lay : Lay) (h : Hp) (R : List Value × Lay × Hp) (v5 v6 : Int32) (o : ((Int32 × Int32) ⊕ (Int32 × Int32))) (hH : ∀ s : Int32 × Int32, o = .inl s → Bg L xs 9 6 [(0, .int v0), (1, .int v1), (2, .int v2), (3, .int v3), (4, .int v4), (5, .int s.1), (6, .int s.2)] [] lay h R) (hE : ∀ t : Int32 × Int32, o = .inr t → Bg L xs 9 59 [(0, .int v0), (1, .int v1), (2, .int v2), (3, .int v3), (4, .int v4), (5, .int t.1), (6, .int t.2)] [] lay h R) (e : Jco_putOnBits_L6 v0 v1 v2 v3 v4 v5 v6 = some o) : Bg L xs 9 6 [(0, .int v0), (1, .int v1), (2, .int v2), (3, .int v3), (4, .int v4), (5, .int v5), (6, .int v6)] [] lay h R := by
  refine seg_Bg (pc' := (if v6 < v4 then 13 else 59)) (lv' := [(0, .int v0), (1, .int v1), (2, .int v2), (3, .int v3), (4, .int v4), (5, .int v5), (6, .int v6)]) (st' := []) (lay' := lay) (h' := h) 3 rfl ?_
  refine pc_ite e (fun e => ?_) (fun e => ?_)
  · refine seg_Bg (pc' := 44) (lv' := [(0, .int v0), (1, .int v1), (2, .int v2), (3, .int v3), (4, .int v4), (5, .int v5), (6, .int v6), (7, .int (((((v1 >>> (v6 &&& 31) : Int32) &&& (1 : Int32)) <<< (2 &&& 31) : Int32) ||| (((v2 >>> (v6 &&& 31) : Int32) &&& (1 : Int32)) <<< (1 &&& 31) : Int32)) ||| ((v3 >>> (v6 &&& 31) : Int32) &&& (1 : Int32))))]) (st' := [.int (((((v1 >>> (v6 &&& 31) : Int32) &&& (1 : Int32)) <<< (2 &&& 31) : Int32) ||| (((v2 >>> (v6 &&& 31) : Int32) &&& (1 : Int32)) <<< (1 &&& 31) : Int32)) ||| ((v3 >>> (v6 &&& 31) : Int32) &&& (1 : Int32))), .int v0, .int v5]) (lay' := lay) (h' := h) 25 rfl ?_
    refine call_Bg (a := 5) (la := [(0, .int v0), (1, .int (((((v1 >>> (v6 &&& 31) : Int32) &&& (1 : Int32)) <<< (2 &&& 31) : Int32) ||| (((v2 >>> (v6 &&& 31) : Int32) &&& (1 : Int32)) <<< (1 &&& 31) : Int32)) ||| ((v3 >>> (v6 &&& 31) : Int32) &&& (1 : Int32))))]) (np := 47) (lv' := [(0, .int v0), (1, .int v1), (2, .int v2), (3, .int v3), (4, .int v4), (5, .int v5), (6, .int v6), (7, .int (((((v1 >>> (v6 &&& 31) : Int32) &&& (1 : Int32)) <<< (2 &&& 31) : Int32) ||| (((v2 >>> (v6 &&& 31) : Int32) &&& (1 : Int32)) <<< (1 &&& 31) : Int32)) ||| ((v3 >>> (v6 &&& 31) : Int32) &&& (1 : Int32))))]) (rest := [.int v5]) (res := fun r => ([.int r], lay, h)) rfl e (fun r e => BJco_tells L xs v0 (((((v1 >>> (v6 &&& 31) : Int32) &&& (1 : Int32)) <<< (2 &&& 31) : Int32) ||| (((v2 >>> (v6 &&& 31) : Int32) &&& (1 : Int32)) <<< (1 &&& 31) : Int32)) ||| ((v3 >>> (v6 &&& 31) : Int32) &&& (1 : Int32))) lay h r e) (fun c1 e => ?_)
    show Bg L xs 9 47 [(0, .int v0), (1, .int v1), (2, .int v2), (3, .int v3), (4, .int v4), (5, .int v5), (6, .int v6), (7, .int (((((v1 >>> (v6 &&& 31) : Int32) &&& (1 : Int32)) <<< (2 &&& 31) : Int32) ||| (((v2 >>> (v6 &&& 31) : Int32) &&& (1 : Int32)) <<< (1 &&& 31) : Int32)) ||| ((v3 >>> (v6 &&& 31) : Int32) &&& (1 : Int32))))] [.int c1, .int v5] lay h R
    refine seg_Bg (pc' := 6) (lv' := [(0, .int v0), (1, .int v1), (2, .int v2), (3, .int v3), (4, .int v4), (5, .int (v5 ||| (c1 <<< (v6 &&& 31) : Int32))), (6, .int (v6 + 1)), (7, .int (((((v1 >>> (v6 &&& 31) : Int32) &&& (1 : Int32)) <<< (2 &&& 31) : Int32) ||| (((v2 >>> (v6 &&& 31) : Int32) &&& (1 : Int32)) <<< (1 &&& 31) : Int32)) ||| ((v3 >>> (v6 &&& 31) : Int32) &&& (1 : Int32))))]) (st' := []) (lay' := lay) (h' := h) 6 rfl ?_
    refine kp_Bg (lv' := [(0, .int v0), (1, .int v1), (2, .int v2), (3, .int v3), (4, .int v4), (5, .int (v5 ||| (c1 <<< (v6 &&& 31) : Int32))), (6, .int (v6 + 1))]) rfl rfl ?_
    exact hH (v5 ||| (c1 <<< (v6 &&& 31) : Int32), v6 + 1) (Option.some.inj e).symm
  · exact hE (v5, v6) (Option.some.inj e).symm
theorem BJco_putOnBits_L6 (L : Nat) (xs : Nat → Int32) (v0 v1 v2 v3 v4 : Int32) (lay : Lay) (h : Hp) (R : List Value × Lay × Hp) (C : (Int32 × Int32) → Prop) (hE : ∀ t : Int32 × Int32, C t → Bg L xs 9 59 [(0, .int v0), (1, .int v1), (2, .int v2), (3, .int v3), (4, .int v4), (5, .int t.1), (6, .int t.2)] [] lay h R) (n : Nat) (s : Int32 × Int32) (o : (Int32 × Int32)) (e : loopN n (fun s => Jco_putOnBits_L6 v0 v1 v2 v3 v4 s.1 s.2) s = some o) (hC : C o) : Bg L xs 9 6 [(0, .int v0), (1, .int v1), (2, .int v2), (3, .int v3), (4, .int v4), (5, .int s.1), (6, .int s.2)] [] lay h R := by
  refine loop_B (fun s => Jco_putOnBits_L6 v0 v1 v2 v3 v4 s.1 s.2) (fun s : Int32 × Int32 => Bg L xs 9 6 [(0, .int v0), (1, .int v1), (2, .int v2), (3, .int v3), (4, .int v4), (5, .int s.1), (6, .int s.2)] [] lay h R) C (fun s o e => ?_) n s o e hC
  intro hK
  refine BJco_putOnBits_L6_s L xs v0 v1 v2 v3 v4 lay h R s.1 s.2 o (fun s q => by subst q; exact hK) (fun t q => by subst q; exact hE t hK) e
set_option maxRecDepth 100000 in
theorem BJco_putOnBits (L : Nat) (xs : Nat → Int32) (v0 : Int32) (v1 : Int32) (v2 : Int32) (v3 : Int32) (v4 : Int32) (lay : Lay) (h : Hp) (o : Int32) (e : Jco_putOnBits v0 v1 v2 v3 v4 = some o) : Bg L xs 9 0 [(0, .int v0), (1, .int v1), (2, .int v2), (3, .int v3), (4, .int v4)] [] lay h ([.int o], lay, h) := by
  obtain ⟨R, hR⟩ : ∃ R : List Value × Lay × Hp, R = ([.int o], lay, h) := ⟨_, rfl⟩
  rw [← hR]
  refine seg_Bg (pc' := 6) (lv' := [(0, .int v0), (1, .int v1), (2, .int v2), (3, .int v3), (4, .int v4), (5, .int 0), (6, .int 0)]) (st' := []) (lay' := lay) (h' := h) 4 rfl ?_
  obtain ⟨t2o, et2o, e⟩ := bd_s e
  refine BJco_putOnBits_L6 L xs v0 v1 v2 v3 v4 lay h R (fun (t2 : Int32 × Int32) => (some t2.1) = some o) (fun t2 e => ?_) 1000000 (0, 0) _ et2o e
  refine seg_Bg (pc' := 61) (lv' := [(0, .int v0), (1, .int v1), (2, .int v2), (3, .int v3), (4, .int v4), (5, .int t2.1), (6, .int t2.2)]) (st' := [.int t2.1]) (lay' := lay) (h' := h) 1 rfl ?_
  rw [hR, ← Option.some.inj e]; exact ret_Bg rfl

set_option maxRecDepth 100000 in
theorem BJco_putOn (L : Nat) (xs : Nat → Int32) (v0 : Int32) (v1 : Int32) (v2 : Int32) (v3 : Int32) (lay : Lay) (h : Hp) (o : Int32) (e : Jco_putOn v0 v1 v2 v3 = some o) : Bg L xs 8 0 [(0, .int v0), (1, .int v1), (2, .int v2), (3, .int v3)] [] lay h ([.int o], lay, h) := by
  obtain ⟨R, hR⟩ : ∃ R : List Value × Lay × Hp, R = ([.int o], lay, h) := ⟨_, rfl⟩
  rw [← hR]
  refine seg_Bg (pc' := 6) (lv' := [(0, .int v0), (1, .int v1), (2, .int v2), (3, .int v3)]) (st' := [.int 8, .int v3, .int v2, .int v1, .int v0]) (lay' := lay) (h' := h) 5 rfl ?_
  refine call_Bg (a := 9) (la := [(0, .int v0), (1, .int v1), (2, .int v2), (3, .int v3), (4, .int 8)]) (np := 9) (lv' := [(0, .int v0), (1, .int v1), (2, .int v2), (3, .int v3)]) (rest := []) (res := fun r => ([.int r], lay, h)) rfl e (fun r e => BJco_putOnBits L xs v0 v1 v2 v3 8 lay h r e) (fun c1 e => ?_)
  show Bg L xs 8 9 [(0, .int v0), (1, .int v1), (2, .int v2), (3, .int v3)] [.int c1] lay h R
  rw [hR, ← Option.some.inj e]; exact ret_Bg rfl

set_option maxRecDepth 100000 in
theorem BJfm_push (L : Nat) (xs : Nat → Int32) (v1 : Int32) (h : Hp) (o : Hp) (e : Jfm_push v1 h = some o) : Bg L xs 47 0 [(0, .ref 1), (1, .int v1)] [] LY88 h ([], LY88, o) := by
  obtain ⟨R, hR⟩ : ∃ R : List Value × Lay × Hp, R = ([], LY88, o) := ⟨_, rfl⟩
  rw [← hR]
  refine seg_Bg (pc' := (if (h 1 3) < 0 then 36 else 7)) (lv' := [(0, .ref 1), (1, .int v1)]) (st' := []) (lay' := LY88) (h' := h) 3 rfl ?_
  refine pc_ite e (fun e => ?_) (fun e => ?_)
  · rw [hR, ← Option.some.inj e]; exact ret_Bg rfl
  · refine seg_Bg (pc' := (if (h 1 3) < 60 then 16 else 36)) (lv' := [(0, .ref 1), (1, .int v1)]) (st' := []) (lay' := LY88) (h' := h) 4 rfl ?_
    refine pc_ite e (fun e => ?_) (fun e => ?_)
    · refine seg_Bg (pc' := 25) (lv' := [(0, .ref 1), (1, .int v1)]) (st' := [.int v1, .int (h 1 3), .ref 3]) (lay' := LY88) (h' := h) 5 rfl ?_
      refine gp_Bg (pc' := 26) (lv' := [(0, .ref 1), (1, .int v1)]) (st' := []) (lay' := LY88) (x := hset h 3 (Int32.toNatClampNeg (h 1 3)) v1) (g := ibB (h 1 3) 60) rfl e fun h1 e => ?_
      refine seg_Bg (pc' := 33) (lv' := [(0, .ref 1), (1, .int v1)]) (st' := [.int ((h1 1 3) + (1 : Int32)), .ref 1]) (lay' := LY88) (h' := h1) 5 rfl ?_
      refine put_Bg (pc' := 36) (lv' := [(0, .ref 1), (1, .int v1)]) (st' := []) (lay' := LY88) (x := hset h1 1 3 ((h1 1 3) + (1 : Int32))) rfl e fun h2 e => ?_
      rw [hR, ← Option.some.inj e]; exact ret_Bg rfl
    · rw [hR, ← Option.some.inj e]; exact ret_Bg rfl

set_option maxRecDepth 100000 in
theorem BJsh_holds (L : Nat) (xs : Nat → Int32) (v1 : Int32) (h : Hp) (o : Int32) (e : Jsh_holds v1 h = some o) : Bg L xs 94 0 [(0, .ref 29), (1, .int v1)] [] LY88 h ([.int o], LY88, h) := by
  obtain ⟨R, hR⟩ : ∃ R : List Value × Lay × Hp, R = ([.int o], LY88, h) := ⟨_, rfl⟩
  rw [← hR]
  refine seg_Bg (pc' := (if v1 < 0 then 22 else 4)) (lv' := [(0, .ref 29), (1, .int v1)]) (st' := []) (lay' := LY88) (h' := h) 2 rfl ?_
  refine pc_ite e (fun e => ?_) (fun e => ?_)
  · refine seg_Bg (pc' := 23) (lv' := [(0, .ref 29), (1, .int v1)]) (st' := [.int 0]) (lay' := LY88) (h' := h) 1 rfl ?_
    rw [hR, ← Option.some.inj e]; exact ret_Bg rfl
  · refine seg_Bg (pc' := (if v1 < (h 29 1) then 12 else 22)) (lv' := [(0, .ref 29), (1, .int v1)]) (st' := []) (lay' := LY88) (h' := h) 4 rfl ?_
    refine pc_ite e (fun e => ?_) (fun e => ?_)
    · refine seg_Bg (pc' := (if v1 < 6 then 18 else 22)) (lv' := [(0, .ref 29), (1, .int v1)]) (st' := []) (lay' := LY88) (h' := h) 3 rfl ?_
      refine pc_ite e (fun e => ?_) (fun e => ?_)
      · refine seg_Bg (pc' := 23) (lv' := [(0, .ref 29), (1, .int v1)]) (st' := [.int 1]) (lay' := LY88) (h' := h) 2 rfl ?_
        rw [hR, ← Option.some.inj e]; exact ret_Bg rfl
      · refine seg_Bg (pc' := 23) (lv' := [(0, .ref 29), (1, .int v1)]) (st' := [.int 0]) (lay' := LY88) (h' := h) 1 rfl ?_
        rw [hR, ← Option.some.inj e]; exact ret_Bg rfl
    · refine seg_Bg (pc' := 23) (lv' := [(0, .ref 29), (1, .int v1)]) (st' := [.int 0]) (lay' := LY88) (h' := h) 1 rfl ?_
      rw [hR, ← Option.some.inj e]; exact ret_Bg rfl

set_option maxRecDepth 100000 in
theorem BJsh_codeAt (L : Nat) (xs : Nat → Int32) (v1 : Int32) (h : Hp) (o : Int32) (e : Jsh_codeAt v1 h = some o) : Bg L xs 95 0 [(0, .ref 29), (1, .int v1)] [] LY88 h ([.int o], LY88, h) := by
  obtain ⟨R, hR⟩ : ∃ R : List Value × Lay × Hp, R = ([.int o], LY88, h) := ⟨_, rfl⟩
  rw [← hR]
  refine seg_Bg (pc' := 2) (lv' := [(0, .ref 29), (1, .int v1)]) (st' := [.int v1, .ref 29]) (lay' := LY88) (h' := h) 2 rfl ?_
  refine call_Bg (a := 94) (la := [(0, .ref 29), (1, .int v1)]) (np := 5) (lv' := [(0, .ref 29), (1, .int v1)]) (rest := []) (res := fun r => ([.int r], LY88, h)) rfl e (fun r e => BJsh_holds L xs v1 h r e) (fun c1 e => ?_)
  show Bg L xs 95 5 [(0, .ref 29), (1, .int v1)] [.int c1] LY88 h R
  refine seg_Bg (pc' := (if c1 = 0 then 17 else 8)) (lv' := [(0, .ref 29), (1, .int v1)]) (st' := []) (lay' := LY88) (h' := h) 1 rfl ?_
  refine pc_ite e (fun e => ?_) (fun e => ?_)
  · refine seg_Bg (pc' := 18) (lv' := [(0, .ref 29), (1, .int v1)]) (st' := [.int 0]) (lay' := LY88) (h' := h) 1 rfl ?_
    rw [hR, ← Option.some.inj e]; exact ret_Bg rfl
  · refine seg_Bg (pc' := 13) (lv' := [(0, .ref 29), (1, .int v1)]) (st' := [.int v1, .ref 30]) (lay' := LY88) (h' := h) 3 rfl ?_
    refine gd_Bg (pc' := 14) (lv' := [(0, .ref 29), (1, .int v1)]) (st' := [.int (h 30 (Int32.toNatClampNeg v1))]) (lay' := LY88) (h' := h) (g := ibB v1 6) rfl e fun e => ?_
    refine seg_Bg (pc' := 18) (lv' := [(0, .ref 29), (1, .int v1)]) (st' := [.int (h 30 (Int32.toNatClampNeg v1))]) (lay' := LY88) (h' := h) 1 rfl ?_
    rw [hR, ← Option.some.inj e]; exact ret_Bg rfl

set_option maxRecDepth 100000 in
theorem BJfm_value_J103 (L : Nat) (xs : Nat → Int32) (v2 v3 v4 v5 v6 v7 s0 : Int32) (h : Hp) (o : ((Int32 × Hp) ⊕ (Int32 × Hp))) (e : Jfm_value_J103 v2 v3 v4 v5 v6 v7 s0 h = some o) (R : List Value × Lay × Hp) (hH : ∀ s : Int32 × Hp, o = .inl s → Bg L xs 46 17 [(0, .ref 1), (1, .ref 29), (2, .int s.1)] [] LY88 s.2 R) (hE : ∀ t : Int32 × Hp, o = .inr t → Bg L xs 46 136 [(0, .ref 1), (1, .ref 29), (2, .int t.1)] [] LY88 t.2 R) : Bg L xs 46 103 [(0, .ref 1), (1, .ref 29), (2, .int v2), (3, .int v3), (4, .int v4), (5, .int v5), (6, .int v6), (7, .int v7)] [.int s0] LY88 h R := by
  refine seg_Bg (pc' := (if 0 < v4 then 111 else 125)) (lv' := [(0, .ref 1), (1, .ref 29), (2, .int v2), (3, .int v3), (4, .int v4), (5, .int v5), (6, .int v6), (7, .int v7), (8, .int s0)]) (st' := [.ref 1]) (lay' := LY88) (h' := h) 4 rfl ?_
  refine pc_ite e (fun e => ?_) (fun e => ?_)
  · refine seg_Bg (pc' := 119) (lv' := [(0, .ref 1), (1, .ref 29), (2, .int v2), (3, .int v3), (4, .int v4), (5, .int v5), (6, .int v6), (7, .int v7), (8, .int s0)]) (st' := [.int s0, .int v7, .int v6, .int v5, .ref 1]) (lay' := LY88) (h' := h) 4 rfl ?_
    refine call_Bg (a := 8) (la := [(0, .int v5), (1, .int v6), (2, .int v7), (3, .int s0)]) (np := 122) (lv' := [(0, .ref 1), (1, .ref 29), (2, .int v2), (3, .int v3), (4, .int v4), (5, .int v5), (6, .int v6), (7, .int v7), (8, .int s0)]) (rest := [.ref 1]) (res := fun r => ([.int r], LY88, h)) rfl e (fun r e => BJco_putOn L xs v5 v6 v7 s0 LY88 h r e) (fun c8 e => ?_)
    show Bg L xs 46 122 [(0, .ref 1), (1, .ref 29), (2, .int v2), (3, .int v3), (4, .int v4), (5, .int v5), (6, .int v6), (7, .int v7), (8, .int s0)] [.int c8, .ref 1] LY88 h R
    refine seg_Bg (pc' := 127) (lv' := [(0, .ref 1), (1, .ref 29), (2, .int v2), (3, .int v3), (4, .int v4), (5, .int v5), (6, .int v6), (7, .int v7), (8, .int s0)]) (st' := [.int c8, .ref 1]) (lay' := LY88) (h' := h) 1 rfl ?_
    refine call_Bg (a := 47) (la := [(0, .ref 1), (1, .int c8)]) (np := 130) (lv' := [(0, .ref 1), (1, .ref 29), (2, .int v2), (3, .int v3), (4, .int v4), (5, .int v5), (6, .int v6), (7, .int v7), (8, .int s0)]) (rest := []) (res := fun r => ([], LY88, r)) rfl e (fun r e => BJfm_push L xs c8 h r e) (fun c9 e => ?_)
    show Bg L xs 46 130 [(0, .ref 1), (1, .ref 29), (2, .int v2), (3, .int v3), (4, .int v4), (5, .int v5), (6, .int v6), (7, .int v7), (8, .int s0)] [] LY88 c9 R
    refine seg_Bg (pc' := 17) (lv' := [(0, .ref 1), (1, .ref 29), (2, .int (v2 + (-1))), (3, .int v3), (4, .int v4), (5, .int v5), (6, .int v6), (7, .int v7), (8, .int s0)]) (st' := []) (lay' := LY88) (h' := c9) 2 rfl ?_
    refine kp_Bg (lv' := [(0, .ref 1), (1, .ref 29), (2, .int (v2 + (-1)))]) rfl rfl ?_
    exact hH (v2 + (-1), c9) (Option.some.inj e).symm
  · refine seg_Bg (pc' := 127) (lv' := [(0, .ref 1), (1, .ref 29), (2, .int v2), (3, .int v3), (4, .int v4), (5, .int v5), (6, .int v6), (7, .int v7), (8, .int s0)]) (st' := [.int v5, .ref 1]) (lay' := LY88) (h' := h) 1 rfl ?_
    refine call_Bg (a := 47) (la := [(0, .ref 1), (1, .int v5)]) (np := 130) (lv' := [(0, .ref 1), (1, .ref 29), (2, .int v2), (3, .int v3), (4, .int v4), (5, .int v5), (6, .int v6), (7, .int v7), (8, .int s0)]) (rest := []) (res := fun r => ([], LY88, r)) rfl e (fun r e => BJfm_push L xs v5 h r e) (fun c10 e => ?_)
    show Bg L xs 46 130 [(0, .ref 1), (1, .ref 29), (2, .int v2), (3, .int v3), (4, .int v4), (5, .int v5), (6, .int v6), (7, .int v7), (8, .int s0)] [] LY88 c10 R
    refine seg_Bg (pc' := 17) (lv' := [(0, .ref 1), (1, .ref 29), (2, .int (v2 + (-1))), (3, .int v3), (4, .int v4), (5, .int v5), (6, .int v6), (7, .int v7), (8, .int s0)]) (st' := []) (lay' := LY88) (h' := c10) 2 rfl ?_
    refine kp_Bg (lv' := [(0, .ref 1), (1, .ref 29), (2, .int (v2 + (-1)))]) rfl rfl ?_
    exact hH (v2 + (-1), c10) (Option.some.inj e).symm
set_option maxRecDepth 100000 in
theorem BJfm_value_J87 (L : Nat) (xs : Nat → Int32) (v2 v3 v4 v5 v6 s0 : Int32) (h : Hp) (o : ((Int32 × Hp) ⊕ (Int32 × Hp))) (e : Jfm_value_J87 v2 v3 v4 v5 v6 s0 h = some o) (R : List Value × Lay × Hp) (hH : ∀ s : Int32 × Hp, o = .inl s → Bg L xs 46 17 [(0, .ref 1), (1, .ref 29), (2, .int s.1)] [] LY88 s.2 R) (hE : ∀ t : Int32 × Hp, o = .inr t → Bg L xs 46 136 [(0, .ref 1), (1, .ref 29), (2, .int t.1)] [] LY88 t.2 R) : Bg L xs 46 87 [(0, .ref 1), (1, .ref 29), (2, .int v2), (3, .int v3), (4, .int v4), (5, .int v5), (6, .int v6)] [.int s0] LY88 h R := by
  refine seg_Bg (pc' := (if 2 < v4 then 95 else 102)) (lv' := [(0, .ref 1), (1, .ref 29), (2, .int v2), (3, .int v3), (4, .int v4), (5, .int v5), (6, .int v6), (7, .int s0)]) (st' := []) (lay' := LY88) (h' := h) 4 rfl ?_
  refine pc_ite e (fun e => ?_) (fun e => ?_)
  · refine seg_Bg (pc' := 96) (lv' := [(0, .ref 1), (1, .ref 29), (2, .int v2), (3, .int v3), (4, .int v4), (5, .int v5), (6, .int v6), (7, .int s0)]) (st' := [.ref 1]) (lay' := LY88) (h' := h) 1 rfl ?_
    refine call_Bg (a := 48) (la := [(0, .ref 1)]) (np := 99) (lv' := [(0, .ref 1), (1, .ref 29), (2, .int v2), (3, .int v3), (4, .int v4), (5, .int v5), (6, .int v6), (7, .int s0)]) (rest := []) (res := fun r => ([.int r.1], LY88, r.2)) rfl e (fun r e => BJfm_pop L xs h r e) (fun c7 e => ?_)
    show Bg L xs 46 99 [(0, .ref 1), (1, .ref 29), (2, .int v2), (3, .int v3), (4, .int v4), (5, .int v5), (6, .int v6), (7, .int s0)] [.int c7.1] LY88 c7.2 R
    refine seg_Bg (pc' := 103) (lv' := [(0, .ref 1), (1, .ref 29), (2, .int v2), (3, .int v3), (4, .int v4), (5, .int v5), (6, .int v6), (7, .int s0)]) (st' := [.int c7.1]) (lay' := LY88) (h' := c7.2) 1 rfl ?_
    exact BJfm_value_J103 L xs v2 v3 v4 v5 v6 s0 c7.1 c7.2 o e R hH hE
  · refine seg_Bg (pc' := 103) (lv' := [(0, .ref 1), (1, .ref 29), (2, .int v2), (3, .int v3), (4, .int v4), (5, .int v5), (6, .int v6), (7, .int s0)]) (st' := [.int 0]) (lay' := LY88) (h' := h) 1 rfl ?_
    exact BJfm_value_J103 L xs v2 v3 v4 v5 v6 s0 0 h o e R hH hE
set_option maxRecDepth 100000 in
theorem BJfm_value_J71 (L : Nat) (xs : Nat → Int32) (v2 v3 v4 v5 s0 : Int32) (h : Hp) (o : ((Int32 × Hp) ⊕ (Int32 × Hp))) (e : Jfm_value_J71 v2 v3 v4 v5 s0 h = some o) (R : List Value × Lay × Hp) (hH : ∀ s : Int32 × Hp, o = .inl s → Bg L xs 46 17 [(0, .ref 1), (1, .ref 29), (2, .int s.1)] [] LY88 s.2 R) (hE : ∀ t : Int32 × Hp, o = .inr t → Bg L xs 46 136 [(0, .ref 1), (1, .ref 29), (2, .int t.1)] [] LY88 t.2 R) : Bg L xs 46 71 [(0, .ref 1), (1, .ref 29), (2, .int v2), (3, .int v3), (4, .int v4), (5, .int v5)] [.int s0] LY88 h R := by
  refine seg_Bg (pc' := (if 1 < v4 then 79 else 86)) (lv' := [(0, .ref 1), (1, .ref 29), (2, .int v2), (3, .int v3), (4, .int v4), (5, .int v5), (6, .int s0)]) (st' := []) (lay' := LY88) (h' := h) 4 rfl ?_
  refine pc_ite e (fun e => ?_) (fun e => ?_)
  · refine seg_Bg (pc' := 80) (lv' := [(0, .ref 1), (1, .ref 29), (2, .int v2), (3, .int v3), (4, .int v4), (5, .int v5), (6, .int s0)]) (st' := [.ref 1]) (lay' := LY88) (h' := h) 1 rfl ?_
    refine call_Bg (a := 48) (la := [(0, .ref 1)]) (np := 83) (lv' := [(0, .ref 1), (1, .ref 29), (2, .int v2), (3, .int v3), (4, .int v4), (5, .int v5), (6, .int s0)]) (rest := []) (res := fun r => ([.int r.1], LY88, r.2)) rfl e (fun r e => BJfm_pop L xs h r e) (fun c6 e => ?_)
    show Bg L xs 46 83 [(0, .ref 1), (1, .ref 29), (2, .int v2), (3, .int v3), (4, .int v4), (5, .int v5), (6, .int s0)] [.int c6.1] LY88 c6.2 R
    refine seg_Bg (pc' := 87) (lv' := [(0, .ref 1), (1, .ref 29), (2, .int v2), (3, .int v3), (4, .int v4), (5, .int v5), (6, .int s0)]) (st' := [.int c6.1]) (lay' := LY88) (h' := c6.2) 1 rfl ?_
    exact BJfm_value_J87 L xs v2 v3 v4 v5 s0 c6.1 c6.2 o e R hH hE
  · refine seg_Bg (pc' := 87) (lv' := [(0, .ref 1), (1, .ref 29), (2, .int v2), (3, .int v3), (4, .int v4), (5, .int v5), (6, .int s0)]) (st' := [.int 0]) (lay' := LY88) (h' := h) 1 rfl ?_
    exact BJfm_value_J87 L xs v2 v3 v4 v5 s0 0 h o e R hH hE
set_option maxRecDepth 100000 in
theorem BJfm_value_J56 (L : Nat) (xs : Nat → Int32) (v2 v3 v4 s0 : Int32) (h : Hp) (o : ((Int32 × Hp) ⊕ (Int32 × Hp))) (e : Jfm_value_J56 v2 v3 v4 s0 h = some o) (R : List Value × Lay × Hp) (hH : ∀ s : Int32 × Hp, o = .inl s → Bg L xs 46 17 [(0, .ref 1), (1, .ref 29), (2, .int s.1)] [] LY88 s.2 R) (hE : ∀ t : Int32 × Hp, o = .inr t → Bg L xs 46 136 [(0, .ref 1), (1, .ref 29), (2, .int t.1)] [] LY88 t.2 R) : Bg L xs 46 56 [(0, .ref 1), (1, .ref 29), (2, .int v2), (3, .int v3), (4, .int v4)] [.int s0] LY88 h R := by
  refine seg_Bg (pc' := (if 0 < v4 then 63 else 70)) (lv' := [(0, .ref 1), (1, .ref 29), (2, .int v2), (3, .int v3), (4, .int v4), (5, .int s0)]) (st' := []) (lay' := LY88) (h' := h) 3 rfl ?_
  refine pc_ite e (fun e => ?_) (fun e => ?_)
  · refine seg_Bg (pc' := 64) (lv' := [(0, .ref 1), (1, .ref 29), (2, .int v2), (3, .int v3), (4, .int v4), (5, .int s0)]) (st' := [.ref 1]) (lay' := LY88) (h' := h) 1 rfl ?_
    refine call_Bg (a := 48) (la := [(0, .ref 1)]) (np := 67) (lv' := [(0, .ref 1), (1, .ref 29), (2, .int v2), (3, .int v3), (4, .int v4), (5, .int s0)]) (rest := []) (res := fun r => ([.int r.1], LY88, r.2)) rfl e (fun r e => BJfm_pop L xs h r e) (fun c12 e => ?_)
    show Bg L xs 46 67 [(0, .ref 1), (1, .ref 29), (2, .int v2), (3, .int v3), (4, .int v4), (5, .int s0)] [.int c12.1] LY88 c12.2 R
    refine seg_Bg (pc' := 71) (lv' := [(0, .ref 1), (1, .ref 29), (2, .int v2), (3, .int v3), (4, .int v4), (5, .int s0)]) (st' := [.int c12.1]) (lay' := LY88) (h' := c12.2) 1 rfl ?_
    exact BJfm_value_J71 L xs v2 v3 v4 s0 c12.1 c12.2 o e R hH hE
  · refine seg_Bg (pc' := 71) (lv' := [(0, .ref 1), (1, .ref 29), (2, .int v2), (3, .int v3), (4, .int v4), (5, .int s0)]) (st' := [.int 0]) (lay' := LY88) (h' := h) 1 rfl ?_
    exact BJfm_value_J71 L xs v2 v3 v4 s0 0 h o e R hH hE
set_option maxRecDepth 100000 in
theorem BJfm_value_L17_s (L : Nat) (xs : Nat → Int32) (R : List Value × Lay × Hp) (v2 : Int32) (h : Hp) (o : ((Int32 × Hp) ⊕ (Int32 × Hp))) (hH : ∀ s : Int32 × Hp, o = .inl s → Bg L xs 46 17 [(0, .ref 1), (1, .ref 29), (2, .int s.1)] [] LY88 s.2 R) (hE : ∀ t : Int32 × Hp, o = .inr t → Bg L xs 46 136 [(0, .ref 1), (1, .ref 29), (2, .int t.1)] [] LY88 t.2 R) (e : Jfm_value_L17 v2 h = some o) : Bg L xs 46 17 [(0, .ref 1), (1, .ref 29), (2, .int v2)] [] LY88 h R := by
  refine seg_Bg (pc' := (if v2 < 0 then 136 else 21)) (lv' := [(0, .ref 1), (1, .ref 29), (2, .int v2)]) (st' := []) (lay' := LY88) (h' := h) 2 rfl ?_
  refine pc_ite e (fun e => ?_) (fun e => ?_)
  · exact hE (v2, h) (Option.some.inj e).symm
  · refine seg_Bg (pc' := 26) (lv' := [(0, .ref 1), (1, .ref 29), (2, .int v2)]) (st' := [.int v2, .ref 2]) (lay' := LY88) (h' := h) 3 rfl ?_
    refine gd_Bg (pc' := 27) (lv' := [(0, .ref 1), (1, .ref 29), (2, .int v2)]) (st' := [.int (h 2 (Int32.toNatClampNeg v2))]) (lay' := LY88) (h' := h) (g := ibB v2 60) rfl e fun e => ?_
    refine seg_Bg (pc' := 29) (lv' := [(0, .ref 1), (1, .ref 29), (2, .int v2), (3, .int (h 2 (Int32.toNatClampNeg v2)))]) (st' := [.int (h 2 (Int32.toNatClampNeg v2))]) (lay' := LY88) (h' := h) 2 rfl ?_
    refine call_Bg (a := 50) (la := [(0, .int (h 2 (Int32.toNatClampNeg v2)))]) (np := 32) (lv' := [(0, .ref 1), (1, .ref 29), (2, .int v2), (3, .int (h 2 (Int32.toNatClampNeg v2)))]) (rest := []) (res := fun r => ([.int r], LY88, h)) rfl e (fun r e => BJfm_bound L xs (h 2 (Int32.toNatClampNeg v2)) LY88 h r e) (fun c2 e => ?_)
    show Bg L xs 46 32 [(0, .ref 1), (1, .ref 29), (2, .int v2), (3, .int (h 2 (Int32.toNatClampNeg v2)))] [.int c2] LY88 h R
    refine seg_Bg (pc' := 35) (lv' := [(0, .ref 1), (1, .ref 29), (2, .int v2), (3, .int (h 2 (Int32.toNatClampNeg v2))), (4, .int c2)]) (st' := [.int (h 2 (Int32.toNatClampNeg v2))]) (lay' := LY88) (h' := h) 2 rfl ?_
    refine call_Bg (a := 49) (la := [(0, .int (h 2 (Int32.toNatClampNeg v2)))]) (np := 38) (lv' := [(0, .ref 1), (1, .ref 29), (2, .int v2), (3, .int (h 2 (Int32.toNatClampNeg v2))), (4, .int c2)]) (rest := []) (res := fun r => ([.int r], LY88, h)) rfl e (fun r e => BJfm_isFunction L xs (h 2 (Int32.toNatClampNeg v2)) LY88 h r e) (fun c3 e => ?_)
    show Bg L xs 46 38 [(0, .ref 1), (1, .ref 29), (2, .int v2), (3, .int (h 2 (Int32.toNatClampNeg v2))), (4, .int c2)] [.int c3] LY88 h R
    refine seg_Bg (pc' := (if c3 = 0 then 52 else 41)) (lv' := [(0, .ref 1), (1, .ref 29), (2, .int v2), (3, .int (h 2 (Int32.toNatClampNeg v2))), (4, .int c2)]) (st' := []) (lay' := LY88) (h' := h) 1 rfl ?_
    refine pc_ite e (fun e => ?_) (fun e => ?_)
    · refine seg_Bg (pc' := 53) (lv' := [(0, .ref 1), (1, .ref 29), (2, .int v2), (3, .int (h 2 (Int32.toNatClampNeg v2))), (4, .int c2)]) (st' := [.int (h 2 (Int32.toNatClampNeg v2))]) (lay' := LY88) (h' := h) 1 rfl ?_
      refine call_Bg (a := 51) (la := [(0, .int (h 2 (Int32.toNatClampNeg v2)))]) (np := 56) (lv' := [(0, .ref 1), (1, .ref 29), (2, .int v2), (3, .int (h 2 (Int32.toNatClampNeg v2))), (4, .int c2)]) (rest := []) (res := fun r => ([.int r], LY88, h)) rfl e (fun r e => BJfm_codeOf L xs (h 2 (Int32.toNatClampNeg v2)) LY88 h r e) (fun c4 e => ?_)
      show Bg L xs 46 56 [(0, .ref 1), (1, .ref 29), (2, .int v2), (3, .int (h 2 (Int32.toNatClampNeg v2))), (4, .int c2)] [.int c4] LY88 h R
      refine seg_Bg (pc' := (if 0 < c2 then 63 else 70)) (lv' := [(0, .ref 1), (1, .ref 29), (2, .int v2), (3, .int (h 2 (Int32.toNatClampNeg v2))), (4, .int c2), (5, .int c4)]) (st' := []) (lay' := LY88) (h' := h) 3 rfl ?_
      refine pc_ite e (fun e => ?_) (fun e => ?_)
      · refine seg_Bg (pc' := 64) (lv' := [(0, .ref 1), (1, .ref 29), (2, .int v2), (3, .int (h 2 (Int32.toNatClampNeg v2))), (4, .int c2), (5, .int c4)]) (st' := [.ref 1]) (lay' := LY88) (h' := h) 1 rfl ?_
        refine call_Bg (a := 48) (la := [(0, .ref 1)]) (np := 67) (lv' := [(0, .ref 1), (1, .ref 29), (2, .int v2), (3, .int (h 2 (Int32.toNatClampNeg v2))), (4, .int c2), (5, .int c4)]) (rest := []) (res := fun r => ([.int r.1], LY88, r.2)) rfl e (fun r e => BJfm_pop L xs h r e) (fun c5 e => ?_)
        show Bg L xs 46 67 [(0, .ref 1), (1, .ref 29), (2, .int v2), (3, .int (h 2 (Int32.toNatClampNeg v2))), (4, .int c2), (5, .int c4)] [.int c5.1] LY88 c5.2 R
        refine seg_Bg (pc' := 71) (lv' := [(0, .ref 1), (1, .ref 29), (2, .int v2), (3, .int (h 2 (Int32.toNatClampNeg v2))), (4, .int c2), (5, .int c4)]) (st' := [.int c5.1]) (lay' := LY88) (h' := c5.2) 1 rfl ?_
        exact BJfm_value_J71 L xs v2 (h 2 (Int32.toNatClampNeg v2)) c2 c4 c5.1 c5.2 o e R hH hE
      · refine seg_Bg (pc' := 71) (lv' := [(0, .ref 1), (1, .ref 29), (2, .int v2), (3, .int (h 2 (Int32.toNatClampNeg v2))), (4, .int c2), (5, .int c4)]) (st' := [.int 0]) (lay' := LY88) (h' := h) 1 rfl ?_
        exact BJfm_value_J71 L xs v2 (h 2 (Int32.toNatClampNeg v2)) c2 c4 0 h o e R hH hE
    · refine seg_Bg (pc' := 46) (lv' := [(0, .ref 1), (1, .ref 29), (2, .int v2), (3, .int (h 2 (Int32.toNatClampNeg v2))), (4, .int c2)]) (st' := [.int ((h 2 (Int32.toNatClampNeg v2)) - (65 : Int32)), .ref 29]) (lay' := LY88) (h' := h) 4 rfl ?_
      refine call_Bg (a := 95) (la := [(0, .ref 29), (1, .int ((h 2 (Int32.toNatClampNeg v2)) - (65 : Int32)))]) (np := 49) (lv' := [(0, .ref 1), (1, .ref 29), (2, .int v2), (3, .int (h 2 (Int32.toNatClampNeg v2))), (4, .int c2)]) (rest := []) (res := fun r => ([.int r], LY88, h)) rfl e (fun r e => BJsh_codeAt L xs ((h 2 (Int32.toNatClampNeg v2)) - (65 : Int32)) h r e) (fun c11 e => ?_)
      show Bg L xs 46 49 [(0, .ref 1), (1, .ref 29), (2, .int v2), (3, .int (h 2 (Int32.toNatClampNeg v2))), (4, .int c2)] [.int c11] LY88 h R
      refine seg_Bg (pc' := 56) (lv' := [(0, .ref 1), (1, .ref 29), (2, .int v2), (3, .int (h 2 (Int32.toNatClampNeg v2))), (4, .int c2)]) (st' := [.int c11]) (lay' := LY88) (h' := h) 1 rfl ?_
      exact BJfm_value_J56 L xs v2 (h 2 (Int32.toNatClampNeg v2)) c2 c11 h o e R hH hE
theorem BJfm_value_L17 (L : Nat) (xs : Nat → Int32) (R : List Value × Lay × Hp) (C : (Int32 × Hp) → Prop) (hE : ∀ t : Int32 × Hp, C t → Bg L xs 46 136 [(0, .ref 1), (1, .ref 29), (2, .int t.1)] [] LY88 t.2 R) (n : Nat) (s : Int32 × Hp) (o : (Int32 × Hp)) (e : loopN n (fun s => Jfm_value_L17 s.1 s.2) s = some o) (hC : C o) : Bg L xs 46 17 [(0, .ref 1), (1, .ref 29), (2, .int s.1)] [] LY88 s.2 R := by
  refine loop_B (fun s => Jfm_value_L17 s.1 s.2) (fun s : Int32 × Hp => Bg L xs 46 17 [(0, .ref 1), (1, .ref 29), (2, .int s.1)] [] LY88 s.2 R) C (fun s o e => ?_) n s o e hC
  intro hK
  refine BJfm_value_L17_s L xs R s.1 s.2 o (fun s q => by subst q; exact hK) (fun t q => by subst q; exact hE t hK) e
set_option maxRecDepth 100000 in
theorem BJfm_value (L : Nat) (xs : Nat → Int32) (h : Hp) (o : Int32 × Hp) (e : Jfm_value h = some o) : Bg L xs 46 0 [(0, .ref 1), (1, .ref 29)] [] LY88 h ([.int o.1], LY88, o.2) := by
  obtain ⟨R, hR⟩ : ∃ R : List Value × Lay × Hp, R = ([.int o.1], LY88, o.2) := ⟨_, rfl⟩
  rw [← hR]
  refine seg_Bg (pc' := 2) (lv' := [(0, .ref 1), (1, .ref 29)]) (st' := [.int 0, .ref 1]) (lay' := LY88) (h' := h) 2 rfl ?_
  refine put_Bg (pc' := 5) (lv' := [(0, .ref 1), (1, .ref 29)]) (st' := []) (lay' := LY88) (x := hset h 1 3 0) rfl e fun h1 e => ?_
  refine seg_Bg (pc' := 17) (lv' := [(0, .ref 1), (1, .ref 29), (2, .int ((if 60 < (h1 1 2) then 60 else (h1 1 2)) - (1 : Int32)))]) (st' := []) (lay' := LY88) (h' := h1) 7 rfl ?_
  obtain ⟨t13o, et13o, e⟩ := bd_s e
  refine BJfm_value_L17 L xs R (fun (t13 : Int32 × Hp) => (bd (Jfm_pop t13.2) fun c14 => some (c14.1, c14.2)) = some o) (fun t13 e => ?_) 1000000 ((if 60 < (h1 1 2) then 60 else (h1 1 2)) - (1 : Int32), h1) _ et13o e
  refine seg_Bg (pc' := 137) (lv' := [(0, .ref 1), (1, .ref 29), (2, .int t13.1)]) (st' := [.ref 1]) (lay' := LY88) (h' := t13.2) 1 rfl ?_
  refine call_Bg (a := 48) (la := [(0, .ref 1)]) (np := 140) (lv' := [(0, .ref 1), (1, .ref 29), (2, .int t13.1)]) (rest := []) (res := fun r => ([.int r.1], LY88, r.2)) rfl e (fun r e => BJfm_pop L xs t13.2 r e) (fun c14 e => ?_)
  show Bg L xs 46 140 [(0, .ref 1), (1, .ref 29), (2, .int t13.1)] [.int c14.1] LY88 c14.2 R
  rw [hR, ← Option.some.inj e]; exact ret_Bg rfl

set_option maxRecDepth 100000 in
theorem BJfm_clear (L : Nat) (xs : Nat → Int32) (h : Hp) (o : Hp) (e : Jfm_clear h = some o) : Bg L xs 41 0 [(0, .ref 1)] [] LY88 h ([], LY88, o) := by
  obtain ⟨R, hR⟩ : ∃ R : List Value × Lay × Hp, R = ([], LY88, o) := ⟨_, rfl⟩
  rw [← hR]
  refine seg_Bg (pc' := 2) (lv' := [(0, .ref 1)]) (st' := [.int 0, .ref 1]) (lay' := LY88) (h' := h) 2 rfl ?_
  refine put_Bg (pc' := 5) (lv' := [(0, .ref 1)]) (st' := []) (lay' := LY88) (x := hset h 1 2 0) rfl e fun h1 e => ?_
  rw [hR, ← Option.some.inj e]; exact ret_Bg rfl

set_option maxRecDepth 100000 in
theorem BJsh_chosenSet (L : Nat) (xs : Nat → Int32) (h : Hp) (o : Int32) (e : Jsh_chosenSet h = some o) : Bg L xs 96 0 [(0, .ref 29)] [] LY88 h ([.int o], LY88, h) := by
  obtain ⟨R, hR⟩ : ∃ R : List Value × Lay × Hp, R = ([.int o], LY88, h) := ⟨_, rfl⟩
  rw [← hR]
  refine seg_Bg (pc' := 4) (lv' := [(0, .ref 29)]) (st' := [.int (h 29 2)]) (lay' := LY88) (h' := h) 2 rfl ?_
  rw [hR, ← Option.some.inj e]; exact ret_Bg rfl

set_option maxRecDepth 100000 in
theorem BJpa_save_L33_s (L : Nat) (xs : Nat → Int32) (v1 : Int32) (R : List Value × Lay × Hp) (v3 : Int32) (h : Hp) (o : ((Int32 × Hp) ⊕ (Int32 × Hp))) (hH : ∀ s : Int32 × Hp, o = .inl s → Bg L xs 58 33 [(0, .ref 31), (1, .int v1), (2, .ref 29), (3, .int s.1)] [] LY88 s.2 R) (hE : ∀ t : Int32 × Hp, o = .inr t → Bg L xs 58 61 [(0, .ref 31), (1, .int v1), (2, .ref 29), (3, .int t.1)] [] LY88 t.2 R) (e : Jpa_save_L33 v1 v3 h = some o) : Bg L xs 58 33 [(0, .ref 31), (1, .int v1), (2, .ref 29), (3, .int v3)] [] LY88 h R := by
  refine seg_Bg (pc' := (if v3 < 6 then 39 else 61)) (lv' := [(0, .ref 31), (1, .int v1), (2, .ref 29), (3, .int v3)]) (st' := []) (lay' := LY88) (h' := h) 3 rfl ?_
  refine pc_ite e (fun e => ?_) (fun e => ?_)
  · refine seg_Bg (pc' := 51) (lv' := [(0, .ref 31), (1, .int v1), (2, .ref 29), (3, .int v3)]) (st' := [.int v3, .ref 29, .int ((v1 * (6 : Int32)) + v3), .ref 34]) (lay' := LY88) (h' := h) 9 rfl ?_
    refine call_Bg (a := 95) (la := [(0, .ref 29), (1, .int v3)]) (np := 54) (lv' := [(0, .ref 31), (1, .int v1), (2, .ref 29), (3, .int v3)]) (rest := [.int ((v1 * (6 : Int32)) + v3), .ref 34]) (res := fun r => ([.int r], LY88, h)) rfl e (fun r e => BJsh_codeAt L xs v3 h r e) (fun c5 e => ?_)
    show Bg L xs 58 54 [(0, .ref 31), (1, .int v1), (2, .ref 29), (3, .int v3)] [.int c5, .int ((v1 * (6 : Int32)) + v3), .ref 34] LY88 h R
    refine gp_Bg (pc' := 55) (lv' := [(0, .ref 31), (1, .int v1), (2, .ref 29), (3, .int v3)]) (st' := []) (lay' := LY88) (x := hset h 34 (Int32.toNatClampNeg ((v1 * (6 : Int32)) + v3)) c5) (g := ibB ((v1 * (6 : Int32)) + v3) 108) rfl e fun h6 e => ?_
    refine seg_Bg (pc' := 33) (lv' := [(0, .ref 31), (1, .int v1), (2, .ref 29), (3, .int (v3 + 1))]) (st' := []) (lay' := LY88) (h' := h6) 2 rfl ?_
    exact hH (v3 + 1, h6) (Option.some.inj e).symm
  · exact hE (v3, h) (Option.some.inj e).symm
theorem BJpa_save_L33 (L : Nat) (xs : Nat → Int32) (v1 : Int32) (R : List Value × Lay × Hp) (C : (Int32 × Hp) → Prop) (hE : ∀ t : Int32 × Hp, C t → Bg L xs 58 61 [(0, .ref 31), (1, .int v1), (2, .ref 29), (3, .int t.1)] [] LY88 t.2 R) (n : Nat) (s : Int32 × Hp) (o : (Int32 × Hp)) (e : loopN n (fun s => Jpa_save_L33 v1 s.1 s.2) s = some o) (hC : C o) : Bg L xs 58 33 [(0, .ref 31), (1, .int v1), (2, .ref 29), (3, .int s.1)] [] LY88 s.2 R := by
  refine loop_B (fun s => Jpa_save_L33 v1 s.1 s.2) (fun s : Int32 × Hp => Bg L xs 58 33 [(0, .ref 31), (1, .int v1), (2, .ref 29), (3, .int s.1)] [] LY88 s.2 R) C (fun s o e => ?_) n s o e hC
  intro hK
  refine BJpa_save_L33_s L xs v1 R s.1 s.2 o (fun s q => by subst q; exact hK) (fun t q => by subst q; exact hE t hK) e
set_option maxRecDepth 100000 in
theorem BJpa_save (L : Nat) (xs : Nat → Int32) (v1 : Int32) (h : Hp) (o : Hp) (e : Jpa_save v1 h = some o) : Bg L xs 58 0 [(0, .ref 31), (1, .int v1), (2, .ref 29)] [] LY88 h ([], LY88, o) := by
  obtain ⟨R, hR⟩ : ∃ R : List Value × Lay × Hp, R = ([], LY88, o) := ⟨_, rfl⟩
  rw [← hR]
  refine seg_Bg (pc' := (if v1 < 0 then 10 else 4)) (lv' := [(0, .ref 31), (1, .int v1), (2, .ref 29)]) (st' := []) (lay' := LY88) (h' := h) 2 rfl ?_
  refine pc_ite e (fun e => ?_) (fun e => ?_)
  · rw [hR, ← Option.some.inj e]; exact ret_Bg rfl
  · refine seg_Bg (pc' := (if v1 < 18 then 11 else 10)) (lv' := [(0, .ref 31), (1, .int v1), (2, .ref 29)]) (st' := []) (lay' := LY88) (h' := h) 3 rfl ?_
    refine pc_ite e (fun e => ?_) (fun e => ?_)
    · refine seg_Bg (pc' := 17) (lv' := [(0, .ref 31), (1, .int v1), (2, .ref 29)]) (st' := [.ref 29, .int v1, .ref 32]) (lay' := LY88) (h' := h) 4 rfl ?_
      refine call_Bg (a := 92) (la := [(0, .ref 29)]) (np := 20) (lv' := [(0, .ref 31), (1, .int v1), (2, .ref 29)]) (rest := [.int v1, .ref 32]) (res := fun r => ([.int r], LY88, h)) rfl e (fun r e => BJsh_size L xs h r e) (fun c1 e => ?_)
      show Bg L xs 58 20 [(0, .ref 31), (1, .int v1), (2, .ref 29)] [.int c1, .int v1, .ref 32] LY88 h R
      refine gp_Bg (pc' := 21) (lv' := [(0, .ref 31), (1, .int v1), (2, .ref 29)]) (st' := []) (lay' := LY88) (x := hset h 32 (Int32.toNatClampNeg v1) c1) (g := ibB v1 18) rfl e fun h2 e => ?_
      refine seg_Bg (pc' := 27) (lv' := [(0, .ref 31), (1, .int v1), (2, .ref 29)]) (st' := [.ref 29, .int v1, .ref 33]) (lay' := LY88) (h' := h2) 4 rfl ?_
      refine call_Bg (a := 96) (la := [(0, .ref 29)]) (np := 30) (lv' := [(0, .ref 31), (1, .int v1), (2, .ref 29)]) (rest := [.int v1, .ref 33]) (res := fun r => ([.int r], LY88, h2)) rfl e (fun r e => BJsh_chosenSet L xs h2 r e) (fun c3 e => ?_)
      show Bg L xs 58 30 [(0, .ref 31), (1, .int v1), (2, .ref 29)] [.int c3, .int v1, .ref 33] LY88 h2 R
      refine gp_Bg (pc' := 31) (lv' := [(0, .ref 31), (1, .int v1), (2, .ref 29)]) (st' := []) (lay' := LY88) (x := hset h2 33 (Int32.toNatClampNeg v1) c3) (g := ibB v1 18) rfl e fun h4 e => ?_
      refine seg_Bg (pc' := 33) (lv' := [(0, .ref 31), (1, .int v1), (2, .ref 29), (3, .int 0)]) (st' := []) (lay' := LY88) (h' := h4) 2 rfl ?_
      obtain ⟨t7o, et7o, e⟩ := bd_s e
      refine BJpa_save_L33 L xs v1 R (fun (t7 : Int32 × Hp) => (some t7.2) = some o) (fun t7 e => ?_) 1000000 (0, h4) _ et7o e
      rw [hR, ← Option.some.inj e]; exact ret_Bg rfl
    · rw [hR, ← Option.some.inj e]; exact ret_Bg rfl

set_option maxRecDepth 100000 in
theorem BJpa_push (L : Nat) (xs : Nat → Int32) (h : Hp) (o : Hp) (e : Jpa_push h = some o) : Bg L xs 54 0 [(0, .ref 31), (1, .ref 29)] [] LY88 h ([], LY88, o) := by
  obtain ⟨R, hR⟩ : ∃ R : List Value × Lay × Hp, R = ([], LY88, o) := ⟨_, rfl⟩
  rw [← hR]
  refine seg_Bg (pc' := 6) (lv' := [(0, .ref 31), (1, .ref 29)]) (st' := [.ref 29, .int (h 31 4), .ref 31]) (lay' := LY88) (h' := h) 4 rfl ?_
  refine call_Bg (a := 58) (la := [(0, .ref 31), (1, .int (h 31 4)), (2, .ref 29)]) (np := 9) (lv' := [(0, .ref 31), (1, .ref 29)]) (rest := []) (res := fun r => ([], LY88, r)) rfl e (fun r e => BJpa_save L xs (h 31 4) h r e) (fun c1 e => ?_)
  show Bg L xs 54 9 [(0, .ref 31), (1, .ref 29)] [] LY88 c1 R
  refine seg_Bg (pc' := 19) (lv' := [(0, .ref 31), (1, .ref 29)]) (st' := [.int (((c1 31 4) + (1 : Int32)) - ((c1 31 4) + (1 : Int32)) / 16 * 16), .ref 31]) (lay' := LY88) (h' := c1) 7 rfl ?_
  refine put_Bg (pc' := 22) (lv' := [(0, .ref 31), (1, .ref 29)]) (st' := []) (lay' := LY88) (x := hset c1 31 4 (((c1 31 4) + (1 : Int32)) - ((c1 31 4) + (1 : Int32)) / 16 * 16)) rfl e fun h2 e => ?_
  refine seg_Bg (pc' := 34) (lv' := [(0, .ref 31), (1, .ref 29)]) (st' := [.int (if 16 < ((h2 31 3) + (1 : Int32)) then 16 else ((h2 31 3) + (1 : Int32))), .ref 31]) (lay' := LY88) (h' := h2) 7 rfl ?_
  refine put_Bg (pc' := 37) (lv' := [(0, .ref 31), (1, .ref 29)]) (st' := []) (lay' := LY88) (x := hset h2 31 3 (if 16 < ((h2 31 3) + (1 : Int32)) then 16 else ((h2 31 3) + (1 : Int32)))) rfl e fun h3 e => ?_
  rw [hR, ← Option.some.inj e]; exact ret_Bg rfl

set_option maxRecDepth 100000 in
theorem BJsh_add (L : Nat) (xs : Nat → Int32) (v1 : Int32) (h : Hp) (o : Int32 × Hp) (e : Jsh_add v1 h = some o) : Bg L xs 98 0 [(0, .ref 29), (1, .int v1)] [] LY88 h ([.int o.1], LY88, o.2) := by
  obtain ⟨R, hR⟩ : ∃ R : List Value × Lay × Hp, R = ([.int o.1], LY88, o.2) := ⟨_, rfl⟩
  rw [← hR]
  refine seg_Bg (pc' := (if (h 29 1) < 0 then 16 else 7)) (lv' := [(0, .ref 29), (1, .int v1)]) (st' := []) (lay' := LY88) (h' := h) 3 rfl ?_
  refine pc_ite e (fun e => ?_) (fun e => ?_)
  · refine seg_Bg (pc' := 17) (lv' := [(0, .ref 29), (1, .int v1)]) (st' := [.int (-1)]) (lay' := LY88) (h' := h) 1 rfl ?_
    rw [hR, ← Option.some.inj e]; exact ret_Bg rfl
  · refine seg_Bg (pc' := (if (h 29 1) < 6 then 18 else 16)) (lv' := [(0, .ref 29), (1, .int v1)]) (st' := []) (lay' := LY88) (h' := h) 4 rfl ?_
    refine pc_ite e (fun e => ?_) (fun e => ?_)
    · refine seg_Bg (pc' := 27) (lv' := [(0, .ref 29), (1, .int v1)]) (st' := [.int v1, .int (h 29 1), .ref 30]) (lay' := LY88) (h' := h) 5 rfl ?_
      refine gp_Bg (pc' := 28) (lv' := [(0, .ref 29), (1, .int v1)]) (st' := []) (lay' := LY88) (x := hset h 30 (Int32.toNatClampNeg (h 29 1)) v1) (g := ibB (h 29 1) 6) rfl e fun h1 e => ?_
      refine seg_Bg (pc' := 35) (lv' := [(0, .ref 29), (1, .int v1)]) (st' := [.int ((h1 29 1) + (1 : Int32)), .ref 29]) (lay' := LY88) (h' := h1) 5 rfl ?_
      refine put_Bg (pc' := 38) (lv' := [(0, .ref 29), (1, .int v1)]) (st' := []) (lay' := LY88) (x := hset h1 29 1 ((h1 29 1) + (1 : Int32))) rfl e fun h2 e => ?_
      refine seg_Bg (pc' := 44) (lv' := [(0, .ref 29), (1, .int v1)]) (st' := [.int ((h2 29 1) - (1 : Int32))]) (lay' := LY88) (h' := h2) 4 rfl ?_
      rw [hR, ← Option.some.inj e]; exact ret_Bg rfl
    · refine seg_Bg (pc' := 17) (lv' := [(0, .ref 29), (1, .int v1)]) (st' := [.int (-1)]) (lay' := LY88) (h' := h) 1 rfl ?_
      rw [hR, ← Option.some.inj e]; exact ret_Bg rfl

set_option maxRecDepth 100000 in
theorem BJfm_reached (L : Nat) (xs : Nat → Int32) (h : Hp) (o : Int32) (e : Jfm_reached h = some o) : Bg L xs 43 0 [(0, .ref 1)] [] LY88 h ([.int o], LY88, h) := by
  obtain ⟨R, hR⟩ : ∃ R : List Value × Lay × Hp, R = ([.int o], LY88, h) := ⟨_, rfl⟩
  rw [← hR]
  refine seg_Bg (pc' := 4) (lv' := [(0, .ref 1)]) (st' := [.int (h 1 4)]) (lay' := LY88) (h' := h) 2 rfl ?_
  rw [hR, ← Option.some.inj e]; exact ret_Bg rfl

set_option maxRecDepth 100000 in
theorem BJyn_tell_J64 (L : Nat) (xs : Nat → Int32) (v1 v2 s1 : Int32) (h : Hp) (o : (Int32 × Hp)) (e : Jyn_tell_J64 v1 v2 s1 h = some o) (R : List Value × Lay × Hp) (hR : R = ([.int o.1], LY88, o.2)) : Bg L xs 132 64 [(0, .ref 0), (1, .int v1), (2, .int v2)] [.int s1, .ref 0] LY88 h R := by
  refine put_Bg (pc' := 67) (lv' := [(0, .ref 0), (1, .int v1), (2, .int v2)]) (st' := []) (lay' := LY88) (x := hset h 0 9 s1) rfl e fun h5 e => ?_
  refine seg_Bg (pc' := 71) (lv' := [(0, .ref 0), (1, .int v1), (2, .int v2)]) (st' := [.ref 1]) (lay' := LY88) (h' := h5) 2 rfl ?_
  refine call_Bg (a := 41) (la := [(0, .ref 1)]) (np := 74) (lv' := [(0, .ref 0), (1, .int v1), (2, .int v2)]) (rest := []) (res := fun r => ([], LY88, r)) rfl e (fun r e => BJfm_clear L xs h5 r e) (fun c6 e => ?_)
  show Bg L xs 132 74 [(0, .ref 0), (1, .int v1), (2, .int v2)] [] LY88 c6 R
  refine seg_Bg (pc' := (if v1 = 0 then 83 else 78)) (lv' := [(0, .ref 0), (1, .int v1), (2, .int v2)]) (st' := []) (lay' := LY88) (h' := c6) 2 rfl ?_
  refine pc_ite e (fun e => ?_) (fun e => ?_)
  · refine seg_Bg (pc' := 91) (lv' := [(0, .ref 0), (1, .int v1), (2, .int v2)]) (st' := [.ref 29, .ref 31]) (lay' := LY88) (h' := c6) 4 rfl ?_
    refine call_Bg (a := 54) (la := [(0, .ref 31), (1, .ref 29)]) (np := 94) (lv' := [(0, .ref 0), (1, .int v1), (2, .int v2)]) (rest := []) (res := fun r => ([], LY88, r)) rfl e (fun r e => BJpa_push L xs c6 r e) (fun c7 e => ?_)
    show Bg L xs 132 94 [(0, .ref 0), (1, .int v1), (2, .int v2)] [] LY88 c7 R
    refine seg_Bg (pc' := 99) (lv' := [(0, .ref 0), (1, .int v1), (2, .int v2)]) (st' := [.int v2, .ref 29]) (lay' := LY88) (h' := c7) 3 rfl ?_
    refine call_Bg (a := 98) (la := [(0, .ref 29), (1, .int v2)]) (np := 102) (lv' := [(0, .ref 0), (1, .int v1), (2, .int v2)]) (rest := []) (res := fun r => ([.int r.1], LY88, r.2)) rfl e (fun r e => BJsh_add L xs v2 c7 r e) (fun c8 e => ?_)
    show Bg L xs 132 102 [(0, .ref 0), (1, .int v1), (2, .int v2)] [.int c8.1] LY88 c8.2 R
    rw [hR, ← Option.some.inj e]; exact ret_Bg rfl
  · refine seg_Bg (pc' := 82) (lv' := [(0, .ref 0), (1, .int v1), (2, .int v2)]) (st' := [.int ((-10 : Int32) - v1)]) (lay' := LY88) (h' := c6) 3 rfl ?_
    rw [hR, ← Option.some.inj e]; exact ret_Bg rfl
set_option maxRecDepth 100000 in
theorem BJyn_tell_J47 (L : Nat) (xs : Nat → Int32) (v1 s0 : Int32) (h : Hp) (o : (Int32 × Hp)) (e : Jyn_tell_J47 v1 s0 h = some o) (R : List Value × Lay × Hp) (hR : R = ([.int o.1], LY88, o.2)) : Bg L xs 132 47 [(0, .ref 0), (1, .int v1)] [.int s0] LY88 h R := by
  refine seg_Bg (pc' := (if v1 = 0 then 53 else 57)) (lv' := [(0, .ref 0), (1, .int v1), (2, .int s0)]) (st' := [.ref 0]) (lay' := LY88) (h' := h) 4 rfl ?_
  refine pc_ite e (fun e => ?_) (fun e => ?_)
  · refine seg_Bg (pc' := 64) (lv' := [(0, .ref 0), (1, .int v1), (2, .int s0)]) (st' := [.int (-1), .ref 0]) (lay' := LY88) (h' := h) 2 rfl ?_
    exact BJyn_tell_J64 L xs v1 s0 (-1) h o e R hR
  · refine seg_Bg (pc' := 61) (lv' := [(0, .ref 0), (1, .int v1), (2, .int s0)]) (st' := [.ref 1, .ref 0]) (lay' := LY88) (h' := h) 2 rfl ?_
    refine call_Bg (a := 43) (la := [(0, .ref 1)]) (np := 64) (lv' := [(0, .ref 0), (1, .int v1), (2, .int s0)]) (rest := [.ref 0]) (res := fun r => ([.int r], LY88, h)) rfl e (fun r e => BJfm_reached L xs h r e) (fun c9 e => ?_)
    show Bg L xs 132 64 [(0, .ref 0), (1, .int v1), (2, .int s0)] [.int c9, .ref 0] LY88 h R
    refine put_Bg (pc' := 67) (lv' := [(0, .ref 0), (1, .int v1), (2, .int s0)]) (st' := []) (lay' := LY88) (x := hset h 0 9 c9) rfl e fun h10 e => ?_
    refine seg_Bg (pc' := 71) (lv' := [(0, .ref 0), (1, .int v1), (2, .int s0)]) (st' := [.ref 1]) (lay' := LY88) (h' := h10) 2 rfl ?_
    refine call_Bg (a := 41) (la := [(0, .ref 1)]) (np := 74) (lv' := [(0, .ref 0), (1, .int v1), (2, .int s0)]) (rest := []) (res := fun r => ([], LY88, r)) rfl e (fun r e => BJfm_clear L xs h10 r e) (fun c11 e => ?_)
    show Bg L xs 132 74 [(0, .ref 0), (1, .int v1), (2, .int s0)] [] LY88 c11 R
    refine seg_Bg (pc' := (if v1 = 0 then 83 else 78)) (lv' := [(0, .ref 0), (1, .int v1), (2, .int s0)]) (st' := []) (lay' := LY88) (h' := c11) 2 rfl ?_
    refine pc_ite e (fun e => ?_) (fun e => ?_)
    · refine seg_Bg (pc' := 91) (lv' := [(0, .ref 0), (1, .int v1), (2, .int s0)]) (st' := [.ref 29, .ref 31]) (lay' := LY88) (h' := c11) 4 rfl ?_
      refine call_Bg (a := 54) (la := [(0, .ref 31), (1, .ref 29)]) (np := 94) (lv' := [(0, .ref 0), (1, .int v1), (2, .int s0)]) (rest := []) (res := fun r => ([], LY88, r)) rfl e (fun r e => BJpa_push L xs c11 r e) (fun c12 e => ?_)
      show Bg L xs 132 94 [(0, .ref 0), (1, .int v1), (2, .int s0)] [] LY88 c12 R
      refine seg_Bg (pc' := 99) (lv' := [(0, .ref 0), (1, .int v1), (2, .int s0)]) (st' := [.int s0, .ref 29]) (lay' := LY88) (h' := c12) 3 rfl ?_
      refine call_Bg (a := 98) (la := [(0, .ref 29), (1, .int s0)]) (np := 102) (lv' := [(0, .ref 0), (1, .int v1), (2, .int s0)]) (rest := []) (res := fun r => ([.int r.1], LY88, r.2)) rfl e (fun r e => BJsh_add L xs s0 c12 r e) (fun c13 e => ?_)
      show Bg L xs 132 102 [(0, .ref 0), (1, .int v1), (2, .int s0)] [.int c13.1] LY88 c13.2 R
      rw [hR, ← Option.some.inj e]; exact ret_Bg rfl
    · refine seg_Bg (pc' := 82) (lv' := [(0, .ref 0), (1, .int v1), (2, .int s0)]) (st' := [.int ((-10 : Int32) - v1)]) (lay' := LY88) (h' := c11) 3 rfl ?_
      rw [hR, ← Option.some.inj e]; exact ret_Bg rfl
set_option maxRecDepth 100000 in
theorem BJyn_tell (L : Nat) (xs : Nat → Int32) (h : Hp) (o : Int32 × Hp) (e : Jyn_tell h = some o) : Bg L xs 132 0 [(0, .ref 0)] [] LY88 h ([.int o.1], LY88, o.2) := by
  obtain ⟨R, hR⟩ : ∃ R : List Value × Lay × Hp, R = ([.int o.1], LY88, o.2) := ⟨_, rfl⟩
  rw [← hR]
  refine seg_Bg (pc' := 4) (lv' := [(0, .ref 0)]) (st' := [.ref 29]) (lay' := LY88) (h' := h) 2 rfl ?_
  refine call_Bg (a := 93) (la := [(0, .ref 29)]) (np := 7) (lv' := [(0, .ref 0)]) (rest := []) (res := fun r => ([.int r], LY88, h)) rfl e (fun r e => BJsh_isFull L xs h r e) (fun c1 e => ?_)
  show Bg L xs 132 7 [(0, .ref 0)] [.int c1] LY88 h R
  refine seg_Bg (pc' := (if c1 = 0 then 13 else 10)) (lv' := [(0, .ref 0)]) (st' := []) (lay' := LY88) (h' := h) 1 rfl ?_
  refine pc_ite e (fun e => ?_) (fun e => ?_)
  · refine seg_Bg (pc' := 21) (lv' := [(0, .ref 0)]) (st' := [.ref 29, .ref 1]) (lay' := LY88) (h' := h) 4 rfl ?_
    refine call_Bg (a := 92) (la := [(0, .ref 29)]) (np := 24) (lv' := [(0, .ref 0)]) (rest := [.ref 1]) (res := fun r => ([.int r], LY88, h)) rfl e (fun r e => BJsh_size L xs h r e) (fun c2 e => ?_)
    show Bg L xs 132 24 [(0, .ref 0)] [.int c2, .ref 1] LY88 h R
    refine call_Bg (a := 44) (la := [(0, .ref 1), (1, .int c2)]) (np := 27) (lv' := [(0, .ref 0)]) (rest := []) (res := fun r => ([.int r.1], LY88, r.2)) rfl e (fun r e => BJfm_firstFault L xs c2 h r e) (fun c3 e => ?_)
    show Bg L xs 132 27 [(0, .ref 0)] [.int c3.1] LY88 c3.2 R
    refine seg_Bg (pc' := (if c3.1 = 0 then 32 else 46)) (lv' := [(0, .ref 0), (1, .int c3.1)]) (st' := []) (lay' := LY88) (h' := c3.2) 3 rfl ?_
    refine pc_ite e (fun e => ?_) (fun e => ?_)
    · refine seg_Bg (pc' := 40) (lv' := [(0, .ref 0), (1, .int c3.1)]) (st' := [.ref 29, .ref 1]) (lay' := LY88) (h' := c3.2) 4 rfl ?_
      refine call_Bg (a := 46) (la := [(0, .ref 1), (1, .ref 29)]) (np := 43) (lv' := [(0, .ref 0), (1, .int c3.1)]) (rest := []) (res := fun r => ([.int r.1], LY88, r.2)) rfl e (fun r e => BJfm_value L xs c3.2 r e) (fun c4 e => ?_)
      show Bg L xs 132 43 [(0, .ref 0), (1, .int c3.1)] [.int c4.1] LY88 c4.2 R
      refine seg_Bg (pc' := 47) (lv' := [(0, .ref 0), (1, .int c3.1)]) (st' := [.int c4.1]) (lay' := LY88) (h' := c4.2) 1 rfl ?_
      exact BJyn_tell_J47 L xs c3.1 c4.1 c4.2 o e R hR
    · refine seg_Bg (pc' := 47) (lv' := [(0, .ref 0), (1, .int c3.1)]) (st' := [.int 0]) (lay' := LY88) (h' := c3.2) 1 rfl ?_
      exact BJyn_tell_J47 L xs c3.1 0 c3.2 o e R hR
  · refine seg_Bg (pc' := 12) (lv' := [(0, .ref 0)]) (st' := [.int (-1000000004)]) (lay' := LY88) (h' := h) 1 rfl ?_
    rw [hR, ← Option.some.inj e]; exact ret_Bg rfl

set_option maxRecDepth 100000 in
theorem BJm_wants (L : Nat) (xs : Nat → Int32) (v0 : Int32) (lay : Lay) (h : Hp) (o : Int32) (e : Jm_wants v0 = some o) : Bg L xs 210 0 [(0, .int v0)] [] lay h ([.int o], lay, h) := by
  obtain ⟨R, hR⟩ : ∃ R : List Value × Lay × Hp, R = ([.int o], lay, h) := ⟨_, rfl⟩
  rw [← hR]
  refine seg_Bg (pc' := (if v0 = 48 then 26 else 6)) (lv' := [(0, .int v0)]) (st' := []) (lay' := lay) (h' := h) 3 rfl ?_
  refine pc_ite e (fun e => ?_) (fun e => ?_)
  · refine seg_Bg (pc' := 27) (lv' := [(0, .int v0)]) (st' := [.int 0]) (lay' := lay) (h' := h) 1 rfl ?_
    rw [hR, ← Option.some.inj e]; exact ret_Bg rfl
  · refine seg_Bg (pc' := (if v0 = 49 then 26 else 12)) (lv' := [(0, .int v0)]) (st' := []) (lay' := lay) (h' := h) 3 rfl ?_
    refine pc_ite e (fun e => ?_) (fun e => ?_)
    · refine seg_Bg (pc' := 27) (lv' := [(0, .int v0)]) (st' := [.int 0]) (lay' := lay) (h' := h) 1 rfl ?_
      rw [hR, ← Option.some.inj e]; exact ret_Bg rfl
    · refine seg_Bg (pc' := 20) (lv' := [(0, .int v0)]) (st' := [.long 99, .long 97, .long (Int32.toInt64 v0)]) (lay' := lay) (h' := h) 4 rfl ?_
      refine call_Bg (a := 166) (la := [(0, .long (Int32.toInt64 v0)), (2, .long 97), (4, .long 99)]) (np := 23) (lv' := [(0, .int v0)]) (rest := []) (res := fun r => ([.int r], lay, h)) rfl e (fun r e => BJm_in L xs (Int32.toInt64 v0) 97 99 lay h r e) (fun c1 e => ?_)
      show Bg L xs 210 23 [(0, .int v0)] [.int c1] lay h R
      refine seg_Bg (pc' := (if c1 = 0 then 28 else 26)) (lv' := [(0, .int v0)]) (st' := []) (lay' := lay) (h' := h) 1 rfl ?_
      refine pc_ite e (fun e => ?_) (fun e => ?_)
      · refine seg_Bg (pc' := (if v0 = 33 then 34 else 36)) (lv' := [(0, .int v0)]) (st' := []) (lay' := lay) (h' := h) 3 rfl ?_
        refine pc_ite e (fun e => ?_) (fun e => ?_)
        · refine seg_Bg (pc' := 35) (lv' := [(0, .int v0)]) (st' := [.int 1]) (lay' := lay) (h' := h) 1 rfl ?_
          rw [hR, ← Option.some.inj e]; exact ret_Bg rfl
        · refine seg_Bg (pc' := (if v0 = 38 then 66 else 42)) (lv' := [(0, .int v0)]) (st' := []) (lay' := lay) (h' := h) 3 rfl ?_
          refine pc_ite e (fun e => ?_) (fun e => ?_)
          · refine seg_Bg (pc' := 67) (lv' := [(0, .int v0)]) (st' := [.int 2]) (lay' := lay) (h' := h) 1 rfl ?_
            rw [hR, ← Option.some.inj e]; exact ret_Bg rfl
          · refine seg_Bg (pc' := (if v0 = 124 then 66 else 48)) (lv' := [(0, .int v0)]) (st' := []) (lay' := lay) (h' := h) 3 rfl ?_
            refine pc_ite e (fun e => ?_) (fun e => ?_)
            · refine seg_Bg (pc' := 67) (lv' := [(0, .int v0)]) (st' := [.int 2]) (lay' := lay) (h' := h) 1 rfl ?_
              rw [hR, ← Option.some.inj e]; exact ret_Bg rfl
            · refine seg_Bg (pc' := (if v0 = 94 then 66 else 54)) (lv' := [(0, .int v0)]) (st' := []) (lay' := lay) (h' := h) 3 rfl ?_
              refine pc_ite e (fun e => ?_) (fun e => ?_)
              · refine seg_Bg (pc' := 67) (lv' := [(0, .int v0)]) (st' := [.int 2]) (lay' := lay) (h' := h) 1 rfl ?_
                rw [hR, ← Option.some.inj e]; exact ret_Bg rfl
              · refine seg_Bg (pc' := (if v0 = 61 then 66 else 60)) (lv' := [(0, .int v0)]) (st' := []) (lay' := lay) (h' := h) 3 rfl ?_
                refine pc_ite e (fun e => ?_) (fun e => ?_)
                · refine seg_Bg (pc' := 67) (lv' := [(0, .int v0)]) (st' := [.int 2]) (lay' := lay) (h' := h) 1 rfl ?_
                  rw [hR, ← Option.some.inj e]; exact ret_Bg rfl
                · refine seg_Bg (pc' := (if v0 = 62 then 66 else 68)) (lv' := [(0, .int v0)]) (st' := []) (lay' := lay) (h' := h) 3 rfl ?_
                  refine pc_ite e (fun e => ?_) (fun e => ?_)
                  · refine seg_Bg (pc' := 67) (lv' := [(0, .int v0)]) (st' := [.int 2]) (lay' := lay) (h' := h) 1 rfl ?_
                    rw [hR, ← Option.some.inj e]; exact ret_Bg rfl
                  · refine seg_Bg (pc' := (if v0 = 63 then 94 else 74)) (lv' := [(0, .int v0)]) (st' := []) (lay' := lay) (h' := h) 3 rfl ?_
                    refine pc_ite e (fun e => ?_) (fun e => ?_)
                    · refine seg_Bg (pc' := 99) (lv' := [(0, .int v0)]) (st' := [.int 3]) (lay' := lay) (h' := h) 2 rfl ?_
                      rw [hR, ← Option.some.inj e]; exact ret_Bg rfl
                    · refine seg_Bg (pc' := (if v0 = 109 then 94 else 80)) (lv' := [(0, .int v0)]) (st' := []) (lay' := lay) (h' := h) 3 rfl ?_
                      refine pc_ite e (fun e => ?_) (fun e => ?_)
                      · refine seg_Bg (pc' := 99) (lv' := [(0, .int v0)]) (st' := [.int 3]) (lay' := lay) (h' := h) 2 rfl ?_
                        rw [hR, ← Option.some.inj e]; exact ret_Bg rfl
                      · refine seg_Bg (pc' := 88) (lv' := [(0, .int v0)]) (st' := [.long 70, .long 65, .long (Int32.toInt64 v0)]) (lay' := lay) (h' := h) 4 rfl ?_
                        refine call_Bg (a := 166) (la := [(0, .long (Int32.toInt64 v0)), (2, .long 65), (4, .long 70)]) (np := 91) (lv' := [(0, .int v0)]) (rest := []) (res := fun r => ([.int r], lay, h)) rfl e (fun r e => BJm_in L xs (Int32.toInt64 v0) 65 70 lay h r e) (fun c2 e => ?_)
                        show Bg L xs 210 91 [(0, .int v0)] [.int c2] lay h R
                        refine seg_Bg (pc' := (if c2 = 0 then 98 else 94)) (lv' := [(0, .int v0)]) (st' := []) (lay' := lay) (h' := h) 1 rfl ?_
                        refine pc_ite e (fun e => ?_) (fun e => ?_)
                        · refine seg_Bg (pc' := 99) (lv' := [(0, .int v0)]) (st' := [.int (-1)]) (lay' := lay) (h' := h) 1 rfl ?_
                          rw [hR, ← Option.some.inj e]; exact ret_Bg rfl
                        · refine seg_Bg (pc' := 99) (lv' := [(0, .int v0)]) (st' := [.int 3]) (lay' := lay) (h' := h) 2 rfl ?_
                          rw [hR, ← Option.some.inj e]; exact ret_Bg rfl
      · refine seg_Bg (pc' := 27) (lv' := [(0, .int v0)]) (st' := [.int 0]) (lay' := lay) (h' := h) 1 rfl ?_
        rw [hR, ← Option.some.inj e]; exact ret_Bg rfl

set_option maxRecDepth 100000 in
theorem BJm_faultOf_J80 (L : Nat) (xs : Nat → Int32) (v1 v2 v3 s0 : Int32) (h : Hp) (o : ((Int32 × Int32) ⊕ ((Int32 × Int32) ⊕ (Int32 × Hp)))) (e : Jm_faultOf_J80 v1 v2 v3 s0 h = some o) (R : List Value × Lay × Hp) (hH : ∀ s : Int32 × Int32, o = .inl s → Bg L xs 211 4 [(0, .ref 37), (1, .int s.1), (2, .int s.2)] [] LY88 h R) (hE : ∀ t : Int32 × Int32, o = .inr (.inl t) → Bg L xs 211 107 [(0, .ref 37), (1, .int t.1), (2, .int t.2)] [] LY88 h R) (hR : ∀ r : Int32 × Hp, o = .inr (.inr r) → R = ([.int r.1], LY88, r.2)) : Bg L xs 211 80 [(0, .ref 37), (1, .int v1), (2, .int v2), (3, .int v3)] [.int s0] LY88 h R := by
  refine seg_Bg (pc' := (if 0 < s0 then 87 else 95)) (lv' := [(0, .ref 37), (1, .int v1), (2, .int v2), (3, .int v3), (4, .int s0)]) (st' := []) (lay' := LY88) (h' := h) 3 rfl ?_
  refine pc_ite e (fun e => ?_) (fun e => ?_)
  · refine seg_Bg (pc' := 89) (lv' := [(0, .ref 37), (1, .int v1), (2, .int v2), (3, .int v3), (4, .int s0)]) (st' := [.int v2, .ref 37]) (lay' := LY88) (h' := h) 2 rfl ?_
    refine put_Bg (pc' := 92) (lv' := [(0, .ref 37), (1, .int v1), (2, .int v2), (3, .int v3), (4, .int s0)]) (st' := []) (lay' := LY88) (x := hset h 37 7 v2) rfl e fun h2 e => ?_
    refine seg_Bg (pc' := 94) (lv' := [(0, .ref 37), (1, .int v1), (2, .int v2), (3, .int v3), (4, .int s0)]) (st' := [.int s0]) (lay' := LY88) (h' := h2) 1 rfl ?_
    rw [hR (s0, h2) (Option.some.inj e).symm]; exact ret_Bg rfl
  · refine seg_Bg (pc' := 4) (lv' := [(0, .ref 37), (1, .int (v1 + (v3 - (1 : Int32)))), (2, .int (v2 + 1)), (3, .int v3), (4, .int s0)]) (st' := []) (lay' := LY88) (h' := h) 8 rfl ?_
    refine kp_Bg (lv' := [(0, .ref 37), (1, .int (v1 + (v3 - (1 : Int32)))), (2, .int (v2 + 1))]) rfl rfl ?_
    exact hH (v1 + (v3 - (1 : Int32)), v2 + 1) (Option.some.inj e).symm
set_option maxRecDepth 100000 in
theorem BJm_faultOf_L4_s (L : Nat) (xs : Nat → Int32) (h : Hp) (R : List Value × Lay × Hp) (v1 v2 : Int32) (o : ((Int32 × Int32) ⊕ ((Int32 × Int32) ⊕ (Int32 × Hp)))) (hH : ∀ s : Int32 × Int32, o = .inl s → Bg L xs 211 4 [(0, .ref 37), (1, .int s.1), (2, .int s.2)] [] LY88 h R) (hE : ∀ t : Int32 × Int32, o = .inr (.inl t) → Bg L xs 211 107 [(0, .ref 37), (1, .int t.1), (2, .int t.2)] [] LY88 h R) (hR : ∀ r : Int32 × Hp, o = .inr (.inr r) → R = ([.int r.1], LY88, r.2)) (e : Jm_faultOf_L4 h v1 v2 = some o) : Bg L xs 211 4 [(0, .ref 37), (1, .int v1), (2, .int v2)] [] LY88 h R := by
  refine seg_Bg (pc' := (if v2 < (h 37 6) then 12 else 107)) (lv' := [(0, .ref 37), (1, .int v1), (2, .int v2)]) (st' := []) (lay' := LY88) (h' := h) 4 rfl ?_
  refine pc_ite e (fun e => ?_) (fun e => ?_)
  · refine seg_Bg (pc' := 17) (lv' := [(0, .ref 37), (1, .int v1), (2, .int v2)]) (st' := [.int v2, .ref 40]) (lay' := LY88) (h' := h) 3 rfl ?_
    refine gd_Bg (pc' := 18) (lv' := [(0, .ref 37), (1, .int v1), (2, .int v2)]) (st' := [.int (h 40 (Int32.toNatClampNeg v2))]) (lay' := LY88) (h' := h) (g := ibB v2 60) rfl e fun e => ?_
    refine call_Bg (a := 210) (la := [(0, .int (h 40 (Int32.toNatClampNeg v2)))]) (np := 21) (lv' := [(0, .ref 37), (1, .int v1), (2, .int v2)]) (rest := []) (res := fun r => ([.int r], LY88, h)) rfl e (fun r e => BJm_wants L xs (h 40 (Int32.toNatClampNeg v2)) LY88 h r e) (fun c1 e => ?_)
    show Bg L xs 211 21 [(0, .ref 37), (1, .int v1), (2, .int v2)] [.int c1] LY88 h R
    refine seg_Bg (pc' := (if v1 = 0 then 26 else 30)) (lv' := [(0, .ref 37), (1, .int v1), (2, .int v2), (3, .int c1)]) (st' := []) (lay' := LY88) (h' := h) 3 rfl ?_
    refine pc_ite e (fun e => ?_) (fun e => ?_)
    · refine seg_Bg (pc' := 80) (lv' := [(0, .ref 37), (1, .int v1), (2, .int v2), (3, .int c1)]) (st' := [.int 3]) (lay' := LY88) (h' := h) 2 rfl ?_
      exact BJm_faultOf_J80 L xs v1 v2 c1 3 h o e R hH hE hR
    · refine seg_Bg (pc' := (if c1 < 0 then 34 else 38)) (lv' := [(0, .ref 37), (1, .int v1), (2, .int v2), (3, .int c1)]) (st' := []) (lay' := LY88) (h' := h) 2 rfl ?_
      refine pc_ite e (fun e => ?_) (fun e => ?_)
      · refine seg_Bg (pc' := 80) (lv' := [(0, .ref 37), (1, .int v1), (2, .int v2), (3, .int c1)]) (st' := [.int 1]) (lay' := LY88) (h' := h) 2 rfl ?_
        exact BJm_faultOf_J80 L xs v1 v2 c1 1 h o e R hH hE hR
      · refine seg_Bg (pc' := 43) (lv' := [(0, .ref 37), (1, .int v1), (2, .int v2), (3, .int c1)]) (st' := [.int v2, .ref 40]) (lay' := LY88) (h' := h) 3 rfl ?_
        refine gd_Bg (pc' := 44) (lv' := [(0, .ref 37), (1, .int v1), (2, .int v2), (3, .int c1)]) (st' := [.int (h 40 (Int32.toNatClampNeg v2))]) (lay' := LY88) (h' := h) (g := ibB v2 60) rfl e fun e => ?_
        refine seg_Bg (pc' := 51) (lv' := [(0, .ref 37), (1, .int v1), (2, .int v2), (3, .int c1)]) (st' := [.long 70, .long 65, .long (Int32.toInt64 (h 40 (Int32.toNatClampNeg v2)))]) (lay' := LY88) (h' := h) 3 rfl ?_
        refine call_Bg (a := 166) (la := [(0, .long (Int32.toInt64 (h 40 (Int32.toNatClampNeg v2)))), (2, .long 65), (4, .long 70)]) (np := 54) (lv' := [(0, .ref 37), (1, .int v1), (2, .int v2), (3, .int c1)]) (rest := []) (res := fun r => ([.int r], LY88, h)) rfl e (fun r e => BJm_in L xs (Int32.toInt64 (h 40 (Int32.toNatClampNeg v2))) 65 70 LY88 h r e) (fun c3 e => ?_)
        show Bg L xs 211 54 [(0, .ref 37), (1, .int v1), (2, .int v2), (3, .int c1)] [.int c3] LY88 h R
        refine seg_Bg (pc' := (if c3 = 0 then 79 else 57)) (lv' := [(0, .ref 37), (1, .int v1), (2, .int v2), (3, .int c1)]) (st' := []) (lay' := LY88) (h' := h) 1 rfl ?_
        refine pc_ite e (fun e => ?_) (fun e => ?_)
        · refine seg_Bg (pc' := 80) (lv' := [(0, .ref 37), (1, .int v1), (2, .int v2), (3, .int c1)]) (st' := [.int 0]) (lay' := LY88) (h' := h) 1 rfl ?_
          exact BJm_faultOf_J80 L xs v1 v2 c1 0 h o e R hH hE hR
        · refine seg_Bg (pc' := 62) (lv' := [(0, .ref 37), (1, .int v1), (2, .int v2), (3, .int c1)]) (st' := [.int v2, .ref 40]) (lay' := LY88) (h' := h) 3 rfl ?_
          refine gd_Bg (pc' := 63) (lv' := [(0, .ref 37), (1, .int v1), (2, .int v2), (3, .int c1)]) (st' := [.int (h 40 (Int32.toNatClampNeg v2))]) (lay' := LY88) (h' := h) (g := ibB v2 60) rfl e fun e => ?_
          refine seg_Bg (pc' := (if ((h 40 (Int32.toNatClampNeg v2)) - (65 : Int32)) < (h 38 0) then 79 else 75)) (lv' := [(0, .ref 37), (1, .int v1), (2, .int v2), (3, .int c1)]) (st' := []) (lay' := LY88) (h' := h) 7 rfl ?_
          refine pc_ite e (fun e => ?_) (fun e => ?_)
          · refine seg_Bg (pc' := 80) (lv' := [(0, .ref 37), (1, .int v1), (2, .int v2), (3, .int c1)]) (st' := [.int 0]) (lay' := LY88) (h' := h) 1 rfl ?_
            exact BJm_faultOf_J80 L xs v1 v2 c1 0 h o e R hH hE hR
          · refine seg_Bg (pc' := 80) (lv' := [(0, .ref 37), (1, .int v1), (2, .int v2), (3, .int c1)]) (st' := [.int 2]) (lay' := LY88) (h' := h) 2 rfl ?_
            exact BJm_faultOf_J80 L xs v1 v2 c1 2 h o e R hH hE hR
  · exact hE (v1, v2) (Option.some.inj e).symm
theorem BJm_faultOf_L4 (L : Nat) (xs : Nat → Int32) (h : Hp) (R : List Value × Lay × Hp) (C : ((Int32 × Int32) ⊕ (Int32 × Hp)) → Prop) (hE : ∀ t : Int32 × Int32, C (.inl t) → Bg L xs 211 107 [(0, .ref 37), (1, .int t.1), (2, .int t.2)] [] LY88 h R) (hR : ∀ r : Int32 × Hp, C (.inr r) → R = ([.int r.1], LY88, r.2)) (n : Nat) (s : Int32 × Int32) (o : ((Int32 × Int32) ⊕ (Int32 × Hp))) (e : loopN n (fun s => Jm_faultOf_L4 h s.1 s.2) s = some o) (hC : C o) : Bg L xs 211 4 [(0, .ref 37), (1, .int s.1), (2, .int s.2)] [] LY88 h R := by
  refine loop_B (fun s => Jm_faultOf_L4 h s.1 s.2) (fun s : Int32 × Int32 => Bg L xs 211 4 [(0, .ref 37), (1, .int s.1), (2, .int s.2)] [] LY88 h R) C (fun s o e => ?_) n s o e hC
  intro hK
  refine BJm_faultOf_L4_s L xs h R s.1 s.2 o (fun s q => by subst q; exact hK) (fun t q => by subst q; exact hE t hK) (fun r q => by subst q; exact hR r hK) e
set_option maxRecDepth 100000 in
theorem BJm_faultOf (L : Nat) (xs : Nat → Int32) (h : Hp) (o : Int32 × Hp) (e : Jm_faultOf h = some o) : Bg L xs 211 0 [(0, .ref 37)] [] LY88 h ([.int o.1], LY88, o.2) := by
  obtain ⟨R, hR⟩ : ∃ R : List Value × Lay × Hp, R = ([.int o.1], LY88, o.2) := ⟨_, rfl⟩
  rw [← hR]
  refine seg_Bg (pc' := 4) (lv' := [(0, .ref 37), (1, .int 1), (2, .int 0)]) (st' := []) (lay' := LY88) (h' := h) 4 rfl ?_
  obtain ⟨t4o, et4o, e⟩ := bd_s e
  refine BJm_faultOf_L4 L xs h R (fun (t4x : (Int32 × Int32) ⊕ (Int32 × Hp)) => (sm t4x (fun t4 => if 0 < t4.1 then lt (hset h 37 7 (h 37 6)) fun h5 => if 0 < t4.1 then some (4, h5) else some (0, h5) else lt (hset h 37 7 (-1)) fun h6 => if 0 < t4.1 then some (4, h6) else some (0, h6)) (fun r6 => some r6)) = some o) (fun t4 e => ?_) (fun r6 e => ?_) 1000000 (1, 0) _ et4o e
  · refine seg_Bg (pc' := (if 0 < t4.1 then 112 else 119)) (lv' := [(0, .ref 37), (1, .int t4.1), (2, .int t4.2)]) (st' := [.ref 37]) (lay' := LY88) (h' := h) 3 rfl ?_
    refine pc_ite e (fun e => ?_) (fun e => ?_)
    · refine seg_Bg (pc' := 120) (lv' := [(0, .ref 37), (1, .int t4.1), (2, .int t4.2)]) (st' := [.int (h 37 6), .ref 37]) (lay' := LY88) (h' := h) 3 rfl ?_
      refine put_Bg (pc' := 123) (lv' := [(0, .ref 37), (1, .int t4.1), (2, .int t4.2)]) (st' := []) (lay' := LY88) (x := hset h 37 7 (h 37 6)) rfl e fun h5 e => ?_
      refine seg_Bg (pc' := (if 0 < t4.1 then 127 else 131)) (lv' := [(0, .ref 37), (1, .int t4.1), (2, .int t4.2)]) (st' := []) (lay' := LY88) (h' := h5) 2 rfl ?_
      refine pc_ite e (fun e => ?_) (fun e => ?_)
      · refine seg_Bg (pc' := 132) (lv' := [(0, .ref 37), (1, .int t4.1), (2, .int t4.2)]) (st' := [.int 4]) (lay' := LY88) (h' := h5) 2 rfl ?_
        rw [hR, ← Option.some.inj e]; exact ret_Bg rfl
      · refine seg_Bg (pc' := 132) (lv' := [(0, .ref 37), (1, .int t4.1), (2, .int t4.2)]) (st' := [.int 0]) (lay' := LY88) (h' := h5) 1 rfl ?_
        rw [hR, ← Option.some.inj e]; exact ret_Bg rfl
    · refine seg_Bg (pc' := 120) (lv' := [(0, .ref 37), (1, .int t4.1), (2, .int t4.2)]) (st' := [.int (-1), .ref 37]) (lay' := LY88) (h' := h) 1 rfl ?_
      refine put_Bg (pc' := 123) (lv' := [(0, .ref 37), (1, .int t4.1), (2, .int t4.2)]) (st' := []) (lay' := LY88) (x := hset h 37 7 (-1)) rfl e fun h6 e => ?_
      refine seg_Bg (pc' := (if 0 < t4.1 then 127 else 131)) (lv' := [(0, .ref 37), (1, .int t4.1), (2, .int t4.2)]) (st' := []) (lay' := LY88) (h' := h6) 2 rfl ?_
      refine pc_ite e (fun e => ?_) (fun e => ?_)
      · refine seg_Bg (pc' := 132) (lv' := [(0, .ref 37), (1, .int t4.1), (2, .int t4.2)]) (st' := [.int 4]) (lay' := LY88) (h' := h6) 2 rfl ?_
        rw [hR, ← Option.some.inj e]; exact ret_Bg rfl
      · refine seg_Bg (pc' := 132) (lv' := [(0, .ref 37), (1, .int t4.1), (2, .int t4.2)]) (st' := [.int 0]) (lay' := LY88) (h' := h6) 1 rfl ?_
        rw [hR, ← Option.some.inj e]; exact ret_Bg rfl
  · rw [hR]; exact congrArg (fun r => (([.int r.1], LY88, r.2) : List Value × Lay × Hp)) (Option.some.inj e).symm

set_option maxRecDepth 100000 in
theorem BJm_byItself (L : Nat) (xs : Nat → Int32) (v1 : Int32) (lay : Lay) (h : Hp) (o : Int32) (e : Jm_byItself v1 = some o) : Bg L xs 214 0 [(0, .ref 37), (1, .int v1)] [] lay h ([.int o], lay, h) := by
  obtain ⟨R, hR⟩ : ∃ R : List Value × Lay × Hp, R = ([.int o], lay, h) := ⟨_, rfl⟩
  rw [← hR]
  refine seg_Bg (pc' := (if v1 = 48 then 6 else 10)) (lv' := [(0, .ref 37), (1, .int v1)]) (st' := []) (lay' := lay) (h' := h) 3 rfl ?_
  refine pc_ite e (fun e => ?_) (fun e => ?_)
  · refine seg_Bg (pc' := 49) (lv' := [(0, .ref 37), (1, .int v1)]) (st' := [.int 0]) (lay' := lay) (h' := h) 2 rfl ?_
    rw [hR, ← Option.some.inj e]; exact ret_Bg rfl
  · refine seg_Bg (pc' := (if v1 = 49 then 16 else 22)) (lv' := [(0, .ref 37), (1, .int v1)]) (st' := []) (lay' := lay) (h' := h) 3 rfl ?_
    refine pc_ite e (fun e => ?_) (fun e => ?_)
    · refine seg_Bg (pc' := 49) (lv' := [(0, .ref 37), (1, .int v1)]) (st' := [.int 255]) (lay' := lay) (h' := h) 2 rfl ?_
      rw [hR, ← Option.some.inj e]; exact ret_Bg rfl
    · refine seg_Bg (pc' := (if v1 = 97 then 28 else 34)) (lv' := [(0, .ref 37), (1, .int v1)]) (st' := []) (lay' := lay) (h' := h) 3 rfl ?_
      refine pc_ite e (fun e => ?_) (fun e => ?_)
      · refine seg_Bg (pc' := 49) (lv' := [(0, .ref 37), (1, .int v1)]) (st' := [.int 240]) (lay' := lay) (h' := h) 2 rfl ?_
        rw [hR, ← Option.some.inj e]; exact ret_Bg rfl
      · refine seg_Bg (pc' := (if v1 = 98 then 40 else 46)) (lv' := [(0, .ref 37), (1, .int v1)]) (st' := []) (lay' := lay) (h' := h) 3 rfl ?_
        refine pc_ite e (fun e => ?_) (fun e => ?_)
        · refine seg_Bg (pc' := 49) (lv' := [(0, .ref 37), (1, .int v1)]) (st' := [.int 204]) (lay' := lay) (h' := h) 2 rfl ?_
          rw [hR, ← Option.some.inj e]; exact ret_Bg rfl
        · refine seg_Bg (pc' := 49) (lv' := [(0, .ref 37), (1, .int v1)]) (st' := [.int 170]) (lay' := lay) (h' := h) 1 rfl ?_
          rw [hR, ← Option.some.inj e]; exact ret_Bg rfl

set_option maxRecDepth 100000 in
theorem BJm_byTwo (L : Nat) (xs : Nat → Int32) (v1 : Int32) (v2 : Int32) (v3 : Int32) (lay : Lay) (h : Hp) (o : Int32) (e : Jm_byTwo v1 v2 v3 = some o) : Bg L xs 212 0 [(0, .ref 37), (1, .int v1), (2, .int v2), (3, .int v3)] [] lay h ([.int o], lay, h) := by
  obtain ⟨R, hR⟩ : ∃ R : List Value × Lay × Hp, R = ([.int o], lay, h) := ⟨_, rfl⟩
  rw [← hR]
  refine seg_Bg (pc' := (if v1 = 38 then 44 else if v1 = 61 then 56 else if v1 = 94 then 52 else if v1 = 124 then 48 else 66)) (lv' := [(0, .ref 37), (1, .int v1), (2, .int v2), (3, .int v3)]) (st' := []) (lay' := lay) (h' := h) 2 rfl ?_
  refine pc_ite e (fun e => ?_) (fun e => ?_)
  · refine seg_Bg (pc' := 47) (lv' := [(0, .ref 37), (1, .int v1), (2, .int v2), (3, .int v3)]) (st' := [.int (v2 &&& v3)]) (lay' := lay) (h' := h) 3 rfl ?_
    rw [hR, ← Option.some.inj e]; exact ret_Bg rfl
  · refine pc_ite e (fun e => ?_) (fun e => ?_)
    · refine seg_Bg (pc' := 65) (lv' := [(0, .ref 37), (1, .int v1), (2, .int v2), (3, .int v3)]) (st' := [.int ((255 : Int32) &&& ((v2 ^^^ v3) ^^^ (-1 : Int32)))]) (lay' := lay) (h' := h) 7 rfl ?_
      rw [hR, ← Option.some.inj e]; exact ret_Bg rfl
    · refine pc_ite e (fun e => ?_) (fun e => ?_)
      · refine seg_Bg (pc' := 55) (lv' := [(0, .ref 37), (1, .int v1), (2, .int v2), (3, .int v3)]) (st' := [.int (v2 ^^^ v3)]) (lay' := lay) (h' := h) 3 rfl ?_
        rw [hR, ← Option.some.inj e]; exact ret_Bg rfl
      · refine pc_ite e (fun e => ?_) (fun e => ?_)
        · refine seg_Bg (pc' := 51) (lv' := [(0, .ref 37), (1, .int v1), (2, .int v2), (3, .int v3)]) (st' := [.int (v2 ||| v3)]) (lay' := lay) (h' := h) 3 rfl ?_
          rw [hR, ← Option.some.inj e]; exact ret_Bg rfl
        · refine seg_Bg (pc' := 75) (lv' := [(0, .ref 37), (1, .int v1), (2, .int v2), (3, .int v3)]) (st' := [.int ((255 : Int32) &&& ((v2 ^^^ (-1 : Int32)) ||| v3))]) (lay' := lay) (h' := h) 7 rfl ?_
          rw [hR, ← Option.some.inj e]; exact ret_Bg rfl

set_option maxRecDepth 100000 in
theorem BJm_tells (L : Nat) (xs : Nat → Int32) (v0 : Int32) (v1 : Int32) (lay : Lay) (h : Hp) (o : Int32) (e : Jm_tells v0 v1 = some o) : Bg L xs 170 0 [(0, .int v0), (1, .int v1)] [] lay h ([.int o], lay, h) := by
  obtain ⟨R, hR⟩ : ∃ R : List Value × Lay × Hp, R = ([.int o], lay, h) := ⟨_, rfl⟩
  rw [← hR]
  refine seg_Bg (pc' := 5) (lv' := [(0, .int v0), (1, .int v1)]) (st' := [.int ((v0 >>> (v1 &&& 31) : Int32) &&& (1 : Int32))]) (lay' := lay) (h' := h) 5 rfl ?_
  rw [hR, ← Option.some.inj e]; exact ret_Bg rfl

set_option maxRecDepth 100000 in
theorem BJm_putOn_L6_s (L : Nat) (xs : Nat → Int32) (v0 v1 v2 v3 : Int32) (lay : Lay) (h : Hp) (R : List Value × Lay × Hp) (v4 v5 : Int32) (o : ((Int32 × Int32) ⊕ (Int32 × Int32))) (hH : ∀ s : Int32 × Int32, o = .inl s → Bg L xs 177 6 [(0, .int v0), (1, .int v1), (2, .int v2), (3, .int v3), (4, .int s.1), (5, .int s.2)] [] lay h R) (hE : ∀ t : Int32 × Int32, o = .inr t → Bg L xs 177 55 [(0, .int v0), (1, .int v1), (2, .int v2), (3, .int v3), (4, .int t.1), (5, .int t.2)] [] lay h R) (e : Jm_putOn_L6 v0 v1 v2 v3 v4 v5 = some o) : Bg L xs 177 6 [(0, .int v0), (1, .int v1), (2, .int v2), (3, .int v3), (4, .int v4), (5, .int v5)] [] lay h R := by
  refine seg_Bg (pc' := (if v5 < 8 then 13 else 55)) (lv' := [(0, .int v0), (1, .int v1), (2, .int v2), (3, .int v3), (4, .int v4), (5, .int v5)]) (st' := []) (lay' := lay) (h' := h) 3 rfl ?_
  refine pc_ite e (fun e => ?_) (fun e => ?_)
  · refine seg_Bg (pc' := 20) (lv' := [(0, .int v0), (1, .int v1), (2, .int v2), (3, .int v3), (4, .int v4), (5, .int v5)]) (st' := [.int v5, .int v1, .int 4, .int v0, .int v4]) (lay' := lay) (h' := h) 5 rfl ?_
    refine call_Bg (a := 170) (la := [(0, .int v1), (1, .int v5)]) (np := 23) (lv' := [(0, .int v0), (1, .int v1), (2, .int v2), (3, .int v3), (4, .int v4), (5, .int v5)]) (rest := [.int 4, .int v0, .int v4]) (res := fun r => ([.int r], lay, h)) rfl e (fun r e => BJm_tells L xs v1 v5 lay h r e) (fun c1 e => ?_)
    show Bg L xs 177 23 [(0, .int v0), (1, .int v1), (2, .int v2), (3, .int v3), (4, .int v4), (5, .int v5)] [.int c1, .int 4, .int v0, .int v4] lay h R
    refine seg_Bg (pc' := 28) (lv' := [(0, .int v0), (1, .int v1), (2, .int v2), (3, .int v3), (4, .int v4), (5, .int v5)]) (st' := [.int v5, .int v2, .int 2, .int ((4 : Int32) * c1), .int v0, .int v4]) (lay' := lay) (h' := h) 4 rfl ?_
    refine call_Bg (a := 170) (la := [(0, .int v2), (1, .int v5)]) (np := 31) (lv' := [(0, .int v0), (1, .int v1), (2, .int v2), (3, .int v3), (4, .int v4), (5, .int v5)]) (rest := [.int 2, .int ((4 : Int32) * c1), .int v0, .int v4]) (res := fun r => ([.int r], lay, h)) rfl e (fun r e => BJm_tells L xs v2 v5 lay h r e) (fun c2 e => ?_)
    show Bg L xs 177 31 [(0, .int v0), (1, .int v1), (2, .int v2), (3, .int v3), (4, .int v4), (5, .int v5)] [.int c2, .int 2, .int ((4 : Int32) * c1), .int v0, .int v4] lay h R
    refine seg_Bg (pc' := 36) (lv' := [(0, .int v0), (1, .int v1), (2, .int v2), (3, .int v3), (4, .int v4), (5, .int v5)]) (st' := [.int v5, .int v3, .int (((4 : Int32) * c1) + ((2 : Int32) * c2)), .int v0, .int v4]) (lay' := lay) (h' := h) 4 rfl ?_
    refine call_Bg (a := 170) (la := [(0, .int v3), (1, .int v5)]) (np := 39) (lv' := [(0, .int v0), (1, .int v1), (2, .int v2), (3, .int v3), (4, .int v4), (5, .int v5)]) (rest := [.int (((4 : Int32) * c1) + ((2 : Int32) * c2)), .int v0, .int v4]) (res := fun r => ([.int r], lay, h)) rfl e (fun r e => BJm_tells L xs v3 v5 lay h r e) (fun c3 e => ?_)
    show Bg L xs 177 39 [(0, .int v0), (1, .int v1), (2, .int v2), (3, .int v3), (4, .int v4), (5, .int v5)] [.int c3, .int (((4 : Int32) * c1) + ((2 : Int32) * c2)), .int v0, .int v4] lay h R
    refine seg_Bg (pc' := 40) (lv' := [(0, .int v0), (1, .int v1), (2, .int v2), (3, .int v3), (4, .int v4), (5, .int v5)]) (st' := [.int ((((4 : Int32) * c1) + ((2 : Int32) * c2)) + c3), .int v0, .int v4]) (lay' := lay) (h' := h) 1 rfl ?_
    refine call_Bg (a := 170) (la := [(0, .int v0), (1, .int ((((4 : Int32) * c1) + ((2 : Int32) * c2)) + c3))]) (np := 43) (lv' := [(0, .int v0), (1, .int v1), (2, .int v2), (3, .int v3), (4, .int v4), (5, .int v5)]) (rest := [.int v4]) (res := fun r => ([.int r], lay, h)) rfl e (fun r e => BJm_tells L xs v0 ((((4 : Int32) * c1) + ((2 : Int32) * c2)) + c3) lay h r e) (fun c4 e => ?_)
    show Bg L xs 177 43 [(0, .int v0), (1, .int v1), (2, .int v2), (3, .int v3), (4, .int v4), (5, .int v5)] [.int c4, .int v4] lay h R
    refine seg_Bg (pc' := 6) (lv' := [(0, .int v0), (1, .int v1), (2, .int v2), (3, .int v3), (4, .int (v4 ||| (c4 <<< (v5 &&& 31) : Int32))), (5, .int (v5 + 1))]) (st' := []) (lay' := lay) (h' := h) 6 rfl ?_
    exact hH (v4 ||| (c4 <<< (v5 &&& 31) : Int32), v5 + 1) (Option.some.inj e).symm
  · exact hE (v4, v5) (Option.some.inj e).symm
theorem BJm_putOn_L6 (L : Nat) (xs : Nat → Int32) (v0 v1 v2 v3 : Int32) (lay : Lay) (h : Hp) (R : List Value × Lay × Hp) (C : (Int32 × Int32) → Prop) (hE : ∀ t : Int32 × Int32, C t → Bg L xs 177 55 [(0, .int v0), (1, .int v1), (2, .int v2), (3, .int v3), (4, .int t.1), (5, .int t.2)] [] lay h R) (n : Nat) (s : Int32 × Int32) (o : (Int32 × Int32)) (e : loopN n (fun s => Jm_putOn_L6 v0 v1 v2 v3 s.1 s.2) s = some o) (hC : C o) : Bg L xs 177 6 [(0, .int v0), (1, .int v1), (2, .int v2), (3, .int v3), (4, .int s.1), (5, .int s.2)] [] lay h R := by
  refine loop_B (fun s => Jm_putOn_L6 v0 v1 v2 v3 s.1 s.2) (fun s : Int32 × Int32 => Bg L xs 177 6 [(0, .int v0), (1, .int v1), (2, .int v2), (3, .int v3), (4, .int s.1), (5, .int s.2)] [] lay h R) C (fun s o e => ?_) n s o e hC
  intro hK
  refine BJm_putOn_L6_s L xs v0 v1 v2 v3 lay h R s.1 s.2 o (fun s q => by subst q; exact hK) (fun t q => by subst q; exact hE t hK) e
set_option maxRecDepth 100000 in
theorem BJm_putOn (L : Nat) (xs : Nat → Int32) (v0 : Int32) (v1 : Int32) (v2 : Int32) (v3 : Int32) (lay : Lay) (h : Hp) (o : Int32) (e : Jm_putOn v0 v1 v2 v3 = some o) : Bg L xs 177 0 [(0, .int v0), (1, .int v1), (2, .int v2), (3, .int v3)] [] lay h ([.int o], lay, h) := by
  obtain ⟨R, hR⟩ : ∃ R : List Value × Lay × Hp, R = ([.int o], lay, h) := ⟨_, rfl⟩
  rw [← hR]
  refine seg_Bg (pc' := 6) (lv' := [(0, .int v0), (1, .int v1), (2, .int v2), (3, .int v3), (4, .int 0), (5, .int 0)]) (st' := []) (lay' := lay) (h' := h) 4 rfl ?_
  obtain ⟨t5o, et5o, e⟩ := bd_s e
  refine BJm_putOn_L6 L xs v0 v1 v2 v3 lay h R (fun (t5 : Int32 × Int32) => (some t5.1) = some o) (fun t5 e => ?_) 1000000 (0, 0) _ et5o e
  refine seg_Bg (pc' := 57) (lv' := [(0, .int v0), (1, .int v1), (2, .int v2), (3, .int v3), (4, .int t5.1), (5, .int t5.2)]) (st' := [.int t5.1]) (lay' := lay) (h' := h) 1 rfl ?_
  rw [hR, ← Option.some.inj e]; exact ret_Bg rfl

set_option maxRecDepth 100000 in
theorem BJm_byThree (L : Nat) (xs : Nat → Int32) (v1 : Int32) (v2 : Int32) (v3 : Int32) (v4 : Int32) (h : Hp) (o : Int32) (e : Jm_byThree v1 v2 v3 v4 h = some o) : Bg L xs 213 0 [(0, .ref 37), (1, .int v1), (2, .int v2), (3, .int v3), (4, .int v4)] [] LY88 h ([.int o], LY88, h) := by
  obtain ⟨R, hR⟩ : ∃ R : List Value × Lay × Hp, R = ([.int o], LY88, h) := ⟨_, rfl⟩
  rw [← hR]
  refine seg_Bg (pc' := (if v1 = 63 then 6 else 21)) (lv' := [(0, .ref 37), (1, .int v1), (2, .int v2), (3, .int v3), (4, .int v4)]) (st' := []) (lay' := LY88) (h' := h) 3 rfl ?_
  refine pc_ite e (fun e => ?_) (fun e => ?_)
  · refine seg_Bg (pc' := 20) (lv' := [(0, .ref 37), (1, .int v1), (2, .int v2), (3, .int v3), (4, .int v4)]) (st' := [.int ((v2 &&& v3) ||| (((255 : Int32) &&& (v2 ^^^ (-1 : Int32))) &&& v4))]) (lay' := LY88) (h' := h) 11 rfl ?_
    rw [hR, ← Option.some.inj e]; exact ret_Bg rfl
  · refine seg_Bg (pc' := (if v1 = 109 then 27 else 43)) (lv' := [(0, .ref 37), (1, .int v1), (2, .int v2), (3, .int v3), (4, .int v4)]) (st' := []) (lay' := LY88) (h' := h) 3 rfl ?_
    refine pc_ite e (fun e => ?_) (fun e => ?_)
    · refine seg_Bg (pc' := 61) (lv' := [(0, .ref 37), (1, .int v1), (2, .int v2), (3, .int v3), (4, .int v4)]) (st' := [.int (((v2 &&& v3) ||| (v2 &&& v4)) ||| (v3 &&& v4))]) (lay' := LY88) (h' := h) 12 rfl ?_
      rw [hR, ← Option.some.inj e]; exact ret_Bg rfl
    · refine seg_Bg (pc' := 53) (lv' := [(0, .ref 37), (1, .int v1), (2, .int v2), (3, .int v3), (4, .int v4)]) (st' := [.int (((1 : Int32) + v1) - (65 : Int32)), .ref 38]) (lay' := LY88) (h' := h) 7 rfl ?_
      refine gd_Bg (pc' := 54) (lv' := [(0, .ref 37), (1, .int v1), (2, .int v2), (3, .int v3), (4, .int v4)]) (st' := [.int (h 38 (Int32.toNatClampNeg (((1 : Int32) + v1) - (65 : Int32))))]) (lay' := LY88) (h' := h) (g := ibB (((1 : Int32) + v1) - (65 : Int32)) 152) rfl e fun e => ?_
      refine seg_Bg (pc' := 58) (lv' := [(0, .ref 37), (1, .int v1), (2, .int v2), (3, .int v3), (4, .int v4)]) (st' := [.int v4, .int v3, .int v2, .int (h 38 (Int32.toNatClampNeg (((1 : Int32) + v1) - (65 : Int32))))]) (lay' := LY88) (h' := h) 3 rfl ?_
      refine call_Bg (a := 177) (la := [(0, .int (h 38 (Int32.toNatClampNeg (((1 : Int32) + v1) - (65 : Int32))))), (1, .int v2), (2, .int v3), (3, .int v4)]) (np := 61) (lv' := [(0, .ref 37), (1, .int v1), (2, .int v2), (3, .int v3), (4, .int v4)]) (rest := []) (res := fun r => ([.int r], LY88, h)) rfl e (fun r e => BJm_putOn L xs (h 38 (Int32.toNatClampNeg (((1 : Int32) + v1) - (65 : Int32)))) v2 v3 v4 LY88 h r e) (fun c1 e => ?_)
      show Bg L xs 213 61 [(0, .ref 37), (1, .int v1), (2, .int v2), (3, .int v3), (4, .int v4)] [.int c1] LY88 h R
      rw [hR, ← Option.some.inj e]; exact ret_Bg rfl

set_option maxRecDepth 100000 in
theorem BJm_worth_J77 (L : Nat) (xs : Nat → Int32) (v1 v2 v3 v4 v5 s0 : Int32) (h : Hp) (o : ((Int32 × Int32 × Hp) ⊕ (Int32 × Int32 × Hp))) (e : Jm_worth_J77 v1 v2 v3 v4 v5 s0 h = some o) (R : List Value × Lay × Hp) (hH : ∀ s : Int32 × Int32 × Hp, o = .inl s → Bg L xs 215 9 [(0, .ref 37), (1, .int s.1), (2, .int s.2.1)] [] LY88 s.2.2 R) (hE : ∀ t : Int32 × Int32 × Hp, o = .inr t → Bg L xs 215 169 [(0, .ref 37), (1, .int t.1), (2, .int t.2.1)] [] LY88 t.2.2 R) : Bg L xs 215 77 [(0, .ref 37), (1, .int v1), (2, .int v2), (3, .int v3), (4, .int v4), (5, .int v5)] [.int s0] LY88 h R := by
  refine seg_Bg (pc' := (if v3 = 0 then 92 else 105)) (lv' := [(0, .ref 37), (1, .int (v1 - v3)), (2, .int v2), (3, .int v3), (4, .int v4), (5, .int v5), (6, .int s0)]) (st' := [.int (v1 - v3), .ref 52]) (lay' := LY88) (h' := h) 10 rfl ?_
  refine pc_ite e (fun e => ?_) (fun e => ?_)
  · refine seg_Bg (pc' := 98) (lv' := [(0, .ref 37), (1, .int (v1 - v3)), (2, .int v2), (3, .int v3), (4, .int v4), (5, .int v5), (6, .int s0)]) (st' := [.int v2, .ref 40, .ref 37, .int (v1 - v3), .ref 52]) (lay' := LY88) (h' := h) 4 rfl ?_
    refine gd_Bg (pc' := 99) (lv' := [(0, .ref 37), (1, .int (v1 - v3)), (2, .int v2), (3, .int v3), (4, .int v4), (5, .int v5), (6, .int s0)]) (st' := [.int (h 40 (Int32.toNatClampNeg v2)), .ref 37, .int (v1 - v3), .ref 52]) (lay' := LY88) (h' := h) (g := ibB v2 60) rfl e fun e => ?_
    refine call_Bg (a := 214) (la := [(0, .ref 37), (1, .int (h 40 (Int32.toNatClampNeg v2)))]) (np := 102) (lv' := [(0, .ref 37), (1, .int (v1 - v3)), (2, .int v2), (3, .int v3), (4, .int v4), (5, .int v5), (6, .int s0)]) (rest := [.int (v1 - v3), .ref 52]) (res := fun r => ([.int r], LY88, h)) rfl e (fun r e => BJm_byItself L xs (h 40 (Int32.toNatClampNeg v2)) LY88 h r e) (fun c2 e => ?_)
    show Bg L xs 215 102 [(0, .ref 37), (1, .int (v1 - v3)), (2, .int v2), (3, .int v3), (4, .int v4), (5, .int v5), (6, .int s0)] [.int c2, .int (v1 - v3), .ref 52] LY88 h R
    refine seg_Bg (pc' := 159) (lv' := [(0, .ref 37), (1, .int (v1 - v3)), (2, .int v2), (3, .int v3), (4, .int v4), (5, .int v5), (6, .int s0)]) (st' := [.int c2, .int (v1 - v3), .ref 52]) (lay' := LY88) (h' := h) 1 rfl ?_
    refine gp_Bg (pc' := 160) (lv' := [(0, .ref 37), (1, .int (v1 - v3)), (2, .int v2), (3, .int v3), (4, .int v4), (5, .int v5), (6, .int s0)]) (st' := []) (lay' := LY88) (x := hset h 52 (Int32.toNatClampNeg (v1 - v3)) c2) (g := ibB (v1 - v3) 64) rfl e fun h3 e => ?_
    refine seg_Bg (pc' := 9) (lv' := [(0, .ref 37), (1, .int ((v1 - v3) + 1)), (2, .int (v2 + (-1))), (3, .int v3), (4, .int v4), (5, .int v5), (6, .int s0)]) (st' := []) (lay' := LY88) (h' := h3) 3 rfl ?_
    refine kp_Bg (lv' := [(0, .ref 37), (1, .int ((v1 - v3) + 1)), (2, .int (v2 + (-1)))]) rfl rfl ?_
    exact hH ((v1 - v3) + 1, v2 + (-1), h3) (Option.some.inj e).symm
  · refine seg_Bg (pc' := (if v3 = 1 then 110 else 121)) (lv' := [(0, .ref 37), (1, .int (v1 - v3)), (2, .int v2), (3, .int v3), (4, .int v4), (5, .int v5), (6, .int s0)]) (st' := [.int (v1 - v3), .ref 52]) (lay' := LY88) (h' := h) 3 rfl ?_
    refine pc_ite e (fun e => ?_) (fun e => ?_)
    · refine seg_Bg (pc' := 159) (lv' := [(0, .ref 37), (1, .int (v1 - v3)), (2, .int v2), (3, .int v3), (4, .int v4), (5, .int v5), (6, .int s0)]) (st' := [.int ((255 : Int32) &&& (v4 ^^^ (-1 : Int32))), .int (v1 - v3), .ref 52]) (lay' := LY88) (h' := h) 6 rfl ?_
      refine gp_Bg (pc' := 160) (lv' := [(0, .ref 37), (1, .int (v1 - v3)), (2, .int v2), (3, .int v3), (4, .int v4), (5, .int v5), (6, .int s0)]) (st' := []) (lay' := LY88) (x := hset h 52 (Int32.toNatClampNeg (v1 - v3)) ((255 : Int32) &&& (v4 ^^^ (-1 : Int32)))) (g := ibB (v1 - v3) 64) rfl e fun h4 e => ?_
      refine seg_Bg (pc' := 9) (lv' := [(0, .ref 37), (1, .int ((v1 - v3) + 1)), (2, .int (v2 + (-1))), (3, .int v3), (4, .int v4), (5, .int v5), (6, .int s0)]) (st' := []) (lay' := LY88) (h' := h4) 3 rfl ?_
      refine kp_Bg (lv' := [(0, .ref 37), (1, .int ((v1 - v3) + 1)), (2, .int (v2 + (-1)))]) rfl rfl ?_
      exact hH ((v1 - v3) + 1, v2 + (-1), h4) (Option.some.inj e).symm
    · refine seg_Bg (pc' := (if v3 = 2 then 126 else 143)) (lv' := [(0, .ref 37), (1, .int (v1 - v3)), (2, .int v2), (3, .int v3), (4, .int v4), (5, .int v5), (6, .int s0)]) (st' := [.int (v1 - v3), .ref 52]) (lay' := LY88) (h' := h) 3 rfl ?_
      refine pc_ite e (fun e => ?_) (fun e => ?_)
      · refine seg_Bg (pc' := 132) (lv' := [(0, .ref 37), (1, .int (v1 - v3)), (2, .int v2), (3, .int v3), (4, .int v4), (5, .int v5), (6, .int s0)]) (st' := [.int v2, .ref 40, .ref 37, .int (v1 - v3), .ref 52]) (lay' := LY88) (h' := h) 4 rfl ?_
        refine gd_Bg (pc' := 133) (lv' := [(0, .ref 37), (1, .int (v1 - v3)), (2, .int v2), (3, .int v3), (4, .int v4), (5, .int v5), (6, .int s0)]) (st' := [.int (h 40 (Int32.toNatClampNeg v2)), .ref 37, .int (v1 - v3), .ref 52]) (lay' := LY88) (h' := h) (g := ibB v2 60) rfl e fun e => ?_
        refine seg_Bg (pc' := 137) (lv' := [(0, .ref 37), (1, .int (v1 - v3)), (2, .int v2), (3, .int v3), (4, .int v4), (5, .int v5), (6, .int s0)]) (st' := [.int v5, .int v4, .int (h 40 (Int32.toNatClampNeg v2)), .ref 37, .int (v1 - v3), .ref 52]) (lay' := LY88) (h' := h) 2 rfl ?_
        refine call_Bg (a := 212) (la := [(0, .ref 37), (1, .int (h 40 (Int32.toNatClampNeg v2))), (2, .int v4), (3, .int v5)]) (np := 140) (lv' := [(0, .ref 37), (1, .int (v1 - v3)), (2, .int v2), (3, .int v3), (4, .int v4), (5, .int v5), (6, .int s0)]) (rest := [.int (v1 - v3), .ref 52]) (res := fun r => ([.int r], LY88, h)) rfl e (fun r e => BJm_byTwo L xs (h 40 (Int32.toNatClampNeg v2)) v4 v5 LY88 h r e) (fun c5 e => ?_)
        show Bg L xs 215 140 [(0, .ref 37), (1, .int (v1 - v3)), (2, .int v2), (3, .int v3), (4, .int v4), (5, .int v5), (6, .int s0)] [.int c5, .int (v1 - v3), .ref 52] LY88 h R
        refine seg_Bg (pc' := 159) (lv' := [(0, .ref 37), (1, .int (v1 - v3)), (2, .int v2), (3, .int v3), (4, .int v4), (5, .int v5), (6, .int s0)]) (st' := [.int c5, .int (v1 - v3), .ref 52]) (lay' := LY88) (h' := h) 1 rfl ?_
        refine gp_Bg (pc' := 160) (lv' := [(0, .ref 37), (1, .int (v1 - v3)), (2, .int v2), (3, .int v3), (4, .int v4), (5, .int v5), (6, .int s0)]) (st' := []) (lay' := LY88) (x := hset h 52 (Int32.toNatClampNeg (v1 - v3)) c5) (g := ibB (v1 - v3) 64) rfl e fun h6 e => ?_
        refine seg_Bg (pc' := 9) (lv' := [(0, .ref 37), (1, .int ((v1 - v3) + 1)), (2, .int (v2 + (-1))), (3, .int v3), (4, .int v4), (5, .int v5), (6, .int s0)]) (st' := []) (lay' := LY88) (h' := h6) 3 rfl ?_
        refine kp_Bg (lv' := [(0, .ref 37), (1, .int ((v1 - v3) + 1)), (2, .int (v2 + (-1)))]) rfl rfl ?_
        exact hH ((v1 - v3) + 1, v2 + (-1), h6) (Option.some.inj e).symm
      · refine seg_Bg (pc' := 149) (lv' := [(0, .ref 37), (1, .int (v1 - v3)), (2, .int v2), (3, .int v3), (4, .int v4), (5, .int v5), (6, .int s0)]) (st' := [.int v2, .ref 40, .ref 37, .int (v1 - v3), .ref 52]) (lay' := LY88) (h' := h) 4 rfl ?_
        refine gd_Bg (pc' := 150) (lv' := [(0, .ref 37), (1, .int (v1 - v3)), (2, .int v2), (3, .int v3), (4, .int v4), (5, .int v5), (6, .int s0)]) (st' := [.int (h 40 (Int32.toNatClampNeg v2)), .ref 37, .int (v1 - v3), .ref 52]) (lay' := LY88) (h' := h) (g := ibB v2 60) rfl e fun e => ?_
        refine seg_Bg (pc' := 156) (lv' := [(0, .ref 37), (1, .int (v1 - v3)), (2, .int v2), (3, .int v3), (4, .int v4), (5, .int v5), (6, .int s0)]) (st' := [.int s0, .int v5, .int v4, .int (h 40 (Int32.toNatClampNeg v2)), .ref 37, .int (v1 - v3), .ref 52]) (lay' := LY88) (h' := h) 3 rfl ?_
        refine call_Bg (a := 213) (la := [(0, .ref 37), (1, .int (h 40 (Int32.toNatClampNeg v2))), (2, .int v4), (3, .int v5), (4, .int s0)]) (np := 159) (lv' := [(0, .ref 37), (1, .int (v1 - v3)), (2, .int v2), (3, .int v3), (4, .int v4), (5, .int v5), (6, .int s0)]) (rest := [.int (v1 - v3), .ref 52]) (res := fun r => ([.int r], LY88, h)) rfl e (fun r e => BJm_byThree L xs (h 40 (Int32.toNatClampNeg v2)) v4 v5 s0 h r e) (fun c7 e => ?_)
        show Bg L xs 215 159 [(0, .ref 37), (1, .int (v1 - v3)), (2, .int v2), (3, .int v3), (4, .int v4), (5, .int v5), (6, .int s0)] [.int c7, .int (v1 - v3), .ref 52] LY88 h R
        refine gp_Bg (pc' := 160) (lv' := [(0, .ref 37), (1, .int (v1 - v3)), (2, .int v2), (3, .int v3), (4, .int v4), (5, .int v5), (6, .int s0)]) (st' := []) (lay' := LY88) (x := hset h 52 (Int32.toNatClampNeg (v1 - v3)) c7) (g := ibB (v1 - v3) 64) rfl e fun h8 e => ?_
        refine seg_Bg (pc' := 9) (lv' := [(0, .ref 37), (1, .int ((v1 - v3) + 1)), (2, .int (v2 + (-1))), (3, .int v3), (4, .int v4), (5, .int v5), (6, .int s0)]) (st' := []) (lay' := LY88) (h' := h8) 3 rfl ?_
        refine kp_Bg (lv' := [(0, .ref 37), (1, .int ((v1 - v3) + 1)), (2, .int (v2 + (-1)))]) rfl rfl ?_
        exact hH ((v1 - v3) + 1, v2 + (-1), h8) (Option.some.inj e).symm
set_option maxRecDepth 100000 in
theorem BJm_worth_J58 (L : Nat) (xs : Nat → Int32) (v1 v2 v3 v4 s0 : Int32) (h : Hp) (o : ((Int32 × Int32 × Hp) ⊕ (Int32 × Int32 × Hp))) (e : Jm_worth_J58 v1 v2 v3 v4 s0 h = some o) (R : List Value × Lay × Hp) (hH : ∀ s : Int32 × Int32 × Hp, o = .inl s → Bg L xs 215 9 [(0, .ref 37), (1, .int s.1), (2, .int s.2.1)] [] LY88 s.2.2 R) (hE : ∀ t : Int32 × Int32 × Hp, o = .inr t → Bg L xs 215 169 [(0, .ref 37), (1, .int t.1), (2, .int t.2.1)] [] LY88 t.2.2 R) : Bg L xs 215 58 [(0, .ref 37), (1, .int v1), (2, .int v2), (3, .int v3), (4, .int v4)] [.int s0] LY88 h R := by
  refine seg_Bg (pc' := (if 2 < v3 then 65 else 76)) (lv' := [(0, .ref 37), (1, .int v1), (2, .int v2), (3, .int v3), (4, .int v4), (5, .int s0)]) (st' := []) (lay' := LY88) (h' := h) 4 rfl ?_
  refine pc_ite e (fun e => ?_) (fun e => ?_)
  · refine seg_Bg (pc' := 72) (lv' := [(0, .ref 37), (1, .int v1), (2, .int v2), (3, .int v3), (4, .int v4), (5, .int s0)]) (st' := [.int (v1 - (3 : Int32)), .ref 52]) (lay' := LY88) (h' := h) 5 rfl ?_
    refine gd_Bg (pc' := 73) (lv' := [(0, .ref 37), (1, .int v1), (2, .int v2), (3, .int v3), (4, .int v4), (5, .int s0)]) (st' := [.int (h 52 (Int32.toNatClampNeg (v1 - (3 : Int32))))]) (lay' := LY88) (h' := h) (g := ibB (v1 - (3 : Int32)) 64) rfl e fun e => ?_
    refine seg_Bg (pc' := 77) (lv' := [(0, .ref 37), (1, .int v1), (2, .int v2), (3, .int v3), (4, .int v4), (5, .int s0)]) (st' := [.int (h 52 (Int32.toNatClampNeg (v1 - (3 : Int32))))]) (lay' := LY88) (h' := h) 1 rfl ?_
    exact BJm_worth_J77 L xs v1 v2 v3 v4 s0 (h 52 (Int32.toNatClampNeg (v1 - (3 : Int32)))) h o e R hH hE
  · refine seg_Bg (pc' := 77) (lv' := [(0, .ref 37), (1, .int v1), (2, .int v2), (3, .int v3), (4, .int v4), (5, .int s0)]) (st' := [.int 0]) (lay' := LY88) (h' := h) 1 rfl ?_
    exact BJm_worth_J77 L xs v1 v2 v3 v4 s0 0 h o e R hH hE
set_option maxRecDepth 100000 in
theorem BJm_worth_J39 (L : Nat) (xs : Nat → Int32) (v1 v2 v3 s0 : Int32) (h : Hp) (o : ((Int32 × Int32 × Hp) ⊕ (Int32 × Int32 × Hp))) (e : Jm_worth_J39 v1 v2 v3 s0 h = some o) (R : List Value × Lay × Hp) (hH : ∀ s : Int32 × Int32 × Hp, o = .inl s → Bg L xs 215 9 [(0, .ref 37), (1, .int s.1), (2, .int s.2.1)] [] LY88 s.2.2 R) (hE : ∀ t : Int32 × Int32 × Hp, o = .inr t → Bg L xs 215 169 [(0, .ref 37), (1, .int t.1), (2, .int t.2.1)] [] LY88 t.2.2 R) : Bg L xs 215 39 [(0, .ref 37), (1, .int v1), (2, .int v2), (3, .int v3)] [.int s0] LY88 h R := by
  refine seg_Bg (pc' := (if 1 < v3 then 46 else 57)) (lv' := [(0, .ref 37), (1, .int v1), (2, .int v2), (3, .int v3), (4, .int s0)]) (st' := []) (lay' := LY88) (h' := h) 4 rfl ?_
  refine pc_ite e (fun e => ?_) (fun e => ?_)
  · refine seg_Bg (pc' := 53) (lv' := [(0, .ref 37), (1, .int v1), (2, .int v2), (3, .int v3), (4, .int s0)]) (st' := [.int (v1 - (2 : Int32)), .ref 52]) (lay' := LY88) (h' := h) 5 rfl ?_
    refine gd_Bg (pc' := 54) (lv' := [(0, .ref 37), (1, .int v1), (2, .int v2), (3, .int v3), (4, .int s0)]) (st' := [.int (h 52 (Int32.toNatClampNeg (v1 - (2 : Int32))))]) (lay' := LY88) (h' := h) (g := ibB (v1 - (2 : Int32)) 64) rfl e fun e => ?_
    refine seg_Bg (pc' := 58) (lv' := [(0, .ref 37), (1, .int v1), (2, .int v2), (3, .int v3), (4, .int s0)]) (st' := [.int (h 52 (Int32.toNatClampNeg (v1 - (2 : Int32))))]) (lay' := LY88) (h' := h) 1 rfl ?_
    exact BJm_worth_J58 L xs v1 v2 v3 s0 (h 52 (Int32.toNatClampNeg (v1 - (2 : Int32)))) h o e R hH hE
  · refine seg_Bg (pc' := 58) (lv' := [(0, .ref 37), (1, .int v1), (2, .int v2), (3, .int v3), (4, .int s0)]) (st' := [.int 0]) (lay' := LY88) (h' := h) 1 rfl ?_
    exact BJm_worth_J58 L xs v1 v2 v3 s0 0 h o e R hH hE
set_option maxRecDepth 100000 in
theorem BJm_worth_L9_s (L : Nat) (xs : Nat → Int32) (R : List Value × Lay × Hp) (v1 v2 : Int32) (h : Hp) (o : ((Int32 × Int32 × Hp) ⊕ (Int32 × Int32 × Hp))) (hH : ∀ s : Int32 × Int32 × Hp, o = .inl s → Bg L xs 215 9 [(0, .ref 37), (1, .int s.1), (2, .int s.2.1)] [] LY88 s.2.2 R) (hE : ∀ t : Int32 × Int32 × Hp, o = .inr t → Bg L xs 215 169 [(0, .ref 37), (1, .int t.1), (2, .int t.2.1)] [] LY88 t.2.2 R) (e : Jm_worth_L9 v1 v2 h = some o) : Bg L xs 215 9 [(0, .ref 37), (1, .int v1), (2, .int v2)] [] LY88 h R := by
  refine seg_Bg (pc' := (if v2 < 0 then 169 else 13)) (lv' := [(0, .ref 37), (1, .int v1), (2, .int v2)]) (st' := []) (lay' := LY88) (h' := h) 2 rfl ?_
  refine pc_ite e (fun e => ?_) (fun e => ?_)
  · exact hE (v1, v2, h) (Option.some.inj e).symm
  · refine seg_Bg (pc' := 18) (lv' := [(0, .ref 37), (1, .int v1), (2, .int v2)]) (st' := [.int v2, .ref 40]) (lay' := LY88) (h' := h) 3 rfl ?_
    refine gd_Bg (pc' := 19) (lv' := [(0, .ref 37), (1, .int v1), (2, .int v2)]) (st' := [.int (h 40 (Int32.toNatClampNeg v2))]) (lay' := LY88) (h' := h) (g := ibB v2 60) rfl e fun e => ?_
    refine call_Bg (a := 210) (la := [(0, .int (h 40 (Int32.toNatClampNeg v2)))]) (np := 22) (lv' := [(0, .ref 37), (1, .int v1), (2, .int v2)]) (rest := []) (res := fun r => ([.int r], LY88, h)) rfl e (fun r e => BJm_wants L xs (h 40 (Int32.toNatClampNeg v2)) LY88 h r e) (fun c1 e => ?_)
    show Bg L xs 215 22 [(0, .ref 37), (1, .int v1), (2, .int v2)] [.int c1] LY88 h R
    refine seg_Bg (pc' := (if 0 < c1 then 27 else 38)) (lv' := [(0, .ref 37), (1, .int v1), (2, .int v2), (3, .int c1)]) (st' := []) (lay' := LY88) (h' := h) 3 rfl ?_
    refine pc_ite e (fun e => ?_) (fun e => ?_)
    · refine seg_Bg (pc' := 34) (lv' := [(0, .ref 37), (1, .int v1), (2, .int v2), (3, .int c1)]) (st' := [.int (v1 - (1 : Int32)), .ref 52]) (lay' := LY88) (h' := h) 5 rfl ?_
      refine gd_Bg (pc' := 35) (lv' := [(0, .ref 37), (1, .int v1), (2, .int v2), (3, .int c1)]) (st' := [.int (h 52 (Int32.toNatClampNeg (v1 - (1 : Int32))))]) (lay' := LY88) (h' := h) (g := ibB (v1 - (1 : Int32)) 64) rfl e fun e => ?_
      refine seg_Bg (pc' := 39) (lv' := [(0, .ref 37), (1, .int v1), (2, .int v2), (3, .int c1)]) (st' := [.int (h 52 (Int32.toNatClampNeg (v1 - (1 : Int32))))]) (lay' := LY88) (h' := h) 1 rfl ?_
      exact BJm_worth_J39 L xs v1 v2 c1 (h 52 (Int32.toNatClampNeg (v1 - (1 : Int32)))) h o e R hH hE
    · refine seg_Bg (pc' := 39) (lv' := [(0, .ref 37), (1, .int v1), (2, .int v2), (3, .int c1)]) (st' := [.int 0]) (lay' := LY88) (h' := h) 1 rfl ?_
      exact BJm_worth_J39 L xs v1 v2 c1 0 h o e R hH hE
theorem BJm_worth_L9 (L : Nat) (xs : Nat → Int32) (R : List Value × Lay × Hp) (C : (Int32 × Int32 × Hp) → Prop) (hE : ∀ t : Int32 × Int32 × Hp, C t → Bg L xs 215 169 [(0, .ref 37), (1, .int t.1), (2, .int t.2.1)] [] LY88 t.2.2 R) (n : Nat) (s : Int32 × Int32 × Hp) (o : (Int32 × Int32 × Hp)) (e : loopN n (fun s => Jm_worth_L9 s.1 s.2.1 s.2.2) s = some o) (hC : C o) : Bg L xs 215 9 [(0, .ref 37), (1, .int s.1), (2, .int s.2.1)] [] LY88 s.2.2 R := by
  refine loop_B (fun s => Jm_worth_L9 s.1 s.2.1 s.2.2) (fun s : Int32 × Int32 × Hp => Bg L xs 215 9 [(0, .ref 37), (1, .int s.1), (2, .int s.2.1)] [] LY88 s.2.2 R) C (fun s o e => ?_) n s o e hC
  intro hK
  refine BJm_worth_L9_s L xs R s.1 s.2.1 s.2.2 o (fun s q => by subst q; exact hK) (fun t q => by subst q; exact hE t hK) e
set_option maxRecDepth 100000 in
theorem BJm_worth (L : Nat) (xs : Nat → Int32) (h : Hp) (o : Int32 × Hp) (e : Jm_worth h = some o) : Bg L xs 215 0 [(0, .ref 37)] [] LY88 h ([.int o.1], LY88, o.2) := by
  obtain ⟨R, hR⟩ : ∃ R : List Value × Lay × Hp, R = ([.int o.1], LY88, o.2) := ⟨_, rfl⟩
  rw [← hR]
  refine seg_Bg (pc' := 9) (lv' := [(0, .ref 37), (1, .int 0), (2, .int ((h 37 6) - (1 : Int32)))]) (st' := []) (lay' := LY88) (h' := h) 7 rfl ?_
  obtain ⟨t9o, et9o, e⟩ := bd_s e
  refine BJm_worth_L9 L xs R (fun (t9 : Int32 × Int32 × Hp) => (some (t9.2.2 52 0, t9.2.2)) = some o) (fun t9 e => ?_) 1000000 (0, (h 37 6) - (1 : Int32), h) _ et9o e
  refine seg_Bg (pc' := 175) (lv' := [(0, .ref 37), (1, .int t9.1), (2, .int t9.2.1)]) (st' := [.int (t9.2.2 52 0)]) (lay' := LY88) (h' := t9.2.2) 4 rfl ?_
  rw [hR, ← Option.some.inj e]; exact ret_Bg rfl

