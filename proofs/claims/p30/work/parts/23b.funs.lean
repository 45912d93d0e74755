/-! Runs of the small machine are the functions of the methods. (Written by wip/p30/gen3.py.) -/
set_option maxRecDepth 100000 in
theorem BJfm_type (L : Nat) (xs : Nat → Int32) (v1 : Int32) (h : Hp) (o : Int32 × Hp) (e : Jfm_type v1 h = some o) : Bg L xs 39 0 [(0, .ref 1), (1, .int v1)] [] LY70 h ([.int o.1], LY70, o.2) := by
  obtain ⟨R, hR⟩ : ∃ R : List Value × Lay × Hp, R = ([.int o.1], LY70, o.2) := ⟨_, rfl⟩
  rw [← hR]
  refine seg_Bg (pc' := (if (h 1 2) < 0 then 16 else 7)) (lv' := [(0, .ref 1), (1, .int v1)]) (st' := []) (lay' := LY70) (h' := h) 3 rfl ?_
  refine pc_ite e (fun e => ?_) (fun e => ?_)
  · refine seg_Bg (pc' := 17) (lv' := [(0, .ref 1), (1, .int v1)]) (st' := [.int 0]) (lay' := LY70) (h' := h) 1 rfl ?_
    rw [hR, ← Option.some.inj e]; exact ret_Bg rfl
  · refine seg_Bg (pc' := (if (h 1 2) < 60 then 18 else 16)) (lv' := [(0, .ref 1), (1, .int v1)]) (st' := []) (lay' := LY70) (h' := h) 4 rfl ?_
    refine pc_ite e (fun e => ?_) (fun e => ?_)
    · refine seg_Bg (pc' := 27) (lv' := [(0, .ref 1), (1, .int v1)]) (st' := [.int v1, .int (h 1 2), .ref 2]) (lay' := LY70) (h' := h) 5 rfl ?_
      refine gp_Bg (pc' := 28) (lv' := [(0, .ref 1), (1, .int v1)]) (st' := []) (lay' := LY70) (x := hset h 2 (Int32.toNatClampNeg (h 1 2)) v1) (g := ibB (h 1 2) 60) rfl e fun h1 e => ?_
      refine seg_Bg (pc' := 35) (lv' := [(0, .ref 1), (1, .int v1)]) (st' := [.int ((h1 1 2) + (1 : Int32)), .ref 1]) (lay' := LY70) (h' := h1) 5 rfl ?_
      refine put_Bg (pc' := 38) (lv' := [(0, .ref 1), (1, .int v1)]) (st' := []) (lay' := LY70) (x := hset h1 1 2 ((h1 1 2) + (1 : Int32))) rfl e fun h2 e => ?_
      refine seg_Bg (pc' := 39) (lv' := [(0, .ref 1), (1, .int v1)]) (st' := [.int 1]) (lay' := LY70) (h' := h2) 1 rfl ?_
      rw [hR, ← Option.some.inj e]; exact ret_Bg rfl
    · refine seg_Bg (pc' := 17) (lv' := [(0, .ref 1), (1, .int v1)]) (st' := [.int 0]) (lay' := LY70) (h' := h) 1 rfl ?_
      rw [hR, ← Option.some.inj e]; exact ret_Bg rfl

set_option maxRecDepth 100000 in
theorem BJfm_size (L : Nat) (xs : Nat → Int32) (h : Hp) (o : Int32) (e : Jfm_size h = some o) : Bg L xs 37 0 [(0, .ref 1)] [] LY70 h ([.int o], LY70, h) := by
  obtain ⟨R, hR⟩ : ∃ R : List Value × Lay × Hp, R = ([.int o], LY70, h) := ⟨_, rfl⟩
  rw [← hR]
  refine seg_Bg (pc' := 4) (lv' := [(0, .ref 1)]) (st' := [.int (h 1 2)]) (lay' := LY70) (h' := h) 2 rfl ?_
  rw [hR, ← Option.some.inj e]; exact ret_Bg rfl

set_option maxRecDepth 100000 in
theorem BJyn_feed (L : Nat) (xs : Nat → Int32) (v1 : Int32) (h : Hp) (o : Int32 × Hp) (e : Jyn_feed v1 h = some o) : Bg L xs 112 0 [(0, .ref 0), (1, .int v1)] [] LY70 h ([.int o.1], LY70, o.2) := by
  obtain ⟨R, hR⟩ : ∃ R : List Value × Lay × Hp, R = ([.int o.1], LY70, o.2) := ⟨_, rfl⟩
  rw [← hR]
  refine seg_Bg (pc' := (if v1 < 0 then 11 else 4)) (lv' := [(0, .ref 0), (1, .int v1)]) (st' := []) (lay' := LY70) (h' := h) 2 rfl ?_
  refine pc_ite e (fun e => ?_) (fun e => ?_)
  · refine seg_Bg (pc' := 13) (lv' := [(0, .ref 0), (1, .int v1)]) (st' := [.int (-1000000002)]) (lay' := LY70) (h' := h) 1 rfl ?_
    rw [hR, ← Option.some.inj e]; exact ret_Bg rfl
  · refine seg_Bg (pc' := (if 255 < v1 then 11 else 14)) (lv' := [(0, .ref 0), (1, .int v1)]) (st' := []) (lay' := LY70) (h' := h) 3 rfl ?_
    refine pc_ite e (fun e => ?_) (fun e => ?_)
    · refine seg_Bg (pc' := 13) (lv' := [(0, .ref 0), (1, .int v1)]) (st' := [.int (-1000000002)]) (lay' := LY70) (h' := h) 1 rfl ?_
      rw [hR, ← Option.some.inj e]; exact ret_Bg rfl
    · refine seg_Bg (pc' := 19) (lv' := [(0, .ref 0), (1, .int v1)]) (st' := [.int v1, .ref 1]) (lay' := LY70) (h' := h) 3 rfl ?_
      refine call_Bg (a := 39) (la := [(0, .ref 1), (1, .int v1)]) (np := 22) (lv' := [(0, .ref 0), (1, .int v1)]) (rest := []) (res := fun r => ([.int r.1], LY70, r.2)) rfl e (fun r e => BJfm_type L xs v1 h r e) (fun c1 e => ?_)
      show Bg L xs 112 22 [(0, .ref 0), (1, .int v1)] [.int c1.1] LY70 c1.2 R
      refine seg_Bg (pc' := (if c1.1 = 0 then 35 else 25)) (lv' := [(0, .ref 0), (1, .int v1)]) (st' := []) (lay' := LY70) (h' := c1.2) 1 rfl ?_
      refine pc_ite e (fun e => ?_) (fun e => ?_)
      · refine seg_Bg (pc' := 37) (lv' := [(0, .ref 0), (1, .int v1)]) (st' := [.int (-1000000004)]) (lay' := LY70) (h' := c1.2) 1 rfl ?_
        rw [hR, ← Option.some.inj e]; exact ret_Bg rfl
      · refine seg_Bg (pc' := 29) (lv' := [(0, .ref 0), (1, .int v1)]) (st' := [.ref 1]) (lay' := LY70) (h' := c1.2) 2 rfl ?_
        refine call_Bg (a := 37) (la := [(0, .ref 1)]) (np := 32) (lv' := [(0, .ref 0), (1, .int v1)]) (rest := []) (res := fun r => ([.int r], LY70, c1.2)) rfl e (fun r e => BJfm_size L xs c1.2 r e) (fun c2 e => ?_)
        show Bg L xs 112 32 [(0, .ref 0), (1, .int v1)] [.int c2] LY70 c1.2 R
        refine seg_Bg (pc' := 37) (lv' := [(0, .ref 0), (1, .int v1)]) (st' := [.int c2]) (lay' := LY70) (h' := c1.2) 1 rfl ?_
        rw [hR, ← Option.some.inj e]; exact ret_Bg rfl

set_option maxRecDepth 100000 in
theorem BJsh_isFull (L : Nat) (xs : Nat → Int32) (h : Hp) (o : Int32) (e : Jsh_isFull h = some o) : Bg L xs 75 0 [(0, .ref 29)] [] LY70 h ([.int o], LY70, h) := by
  obtain ⟨R, hR⟩ : ∃ R : List Value × Lay × Hp, R = ([.int o], LY70, h) := ⟨_, rfl⟩
  rw [← hR]
  refine seg_Bg (pc' := (if (h 29 1) < 6 then 13 else 9)) (lv' := [(0, .ref 29)]) (st' := []) (lay' := LY70) (h' := h) 4 rfl ?_
  refine pc_ite e (fun e => ?_) (fun e => ?_)
  · refine seg_Bg (pc' := 14) (lv' := [(0, .ref 29)]) (st' := [.int 0]) (lay' := LY70) (h' := h) 1 rfl ?_
    rw [hR, ← Option.some.inj e]; exact ret_Bg rfl
  · refine seg_Bg (pc' := 14) (lv' := [(0, .ref 29)]) (st' := [.int 1]) (lay' := LY70) (h' := h) 2 rfl ?_
    rw [hR, ← Option.some.inj e]; exact ret_Bg rfl

set_option maxRecDepth 100000 in
theorem BJsh_size (L : Nat) (xs : Nat → Int32) (h : Hp) (o : Int32) (e : Jsh_size h = some o) : Bg L xs 74 0 [(0, .ref 29)] [] LY70 h ([.int o], LY70, h) := by
  obtain ⟨R, hR⟩ : ∃ R : List Value × Lay × Hp, R = ([.int o], LY70, h) := ⟨_, rfl⟩
  rw [← hR]
  refine seg_Bg (pc' := 4) (lv' := [(0, .ref 29)]) (st' := [.int (h 29 1)]) (lay' := LY70) (h' := h) 2 rfl ?_
  rw [hR, ← Option.some.inj e]; exact ret_Bg rfl

set_option maxRecDepth 100000 in
theorem BJfm_isFunction (L : Nat) (xs : Nat → Int32) (v0 : Int32) (lay : Lay) (h : Hp) (o : Int32) (e : Jfm_isFunction v0 = some o) : Bg L xs 46 0 [(0, .int v0)] [] lay h ([.int o], lay, h) := by
  obtain ⟨R, hR⟩ : ∃ R : List Value × Lay × Hp, R = ([.int o], lay, h) := ⟨_, rfl⟩
  rw [← hR]
  refine seg_Bg (pc' := (if v0 < 65 then 16 else 6)) (lv' := [(0, .int v0)]) (st' := []) (lay' := lay) (h' := h) 3 rfl ?_
  refine pc_ite e (fun e => ?_) (fun e => ?_)
  · refine seg_Bg (pc' := 17) (lv' := [(0, .int v0)]) (st' := [.int 0]) (lay' := lay) (h' := h) 1 rfl ?_
    rw [hR, ← Option.some.inj e]; exact ret_Bg rfl
  · refine seg_Bg (pc' := (if 70 < v0 then 16 else 12)) (lv' := [(0, .int v0)]) (st' := []) (lay' := lay) (h' := h) 3 rfl ?_
    refine pc_ite e (fun e => ?_) (fun e => ?_)
    · refine seg_Bg (pc' := 17) (lv' := [(0, .int v0)]) (st' := [.int 0]) (lay' := lay) (h' := h) 1 rfl ?_
      rw [hR, ← Option.some.inj e]; exact ret_Bg rfl
    · refine seg_Bg (pc' := 17) (lv' := [(0, .int v0)]) (st' := [.int 1]) (lay' := lay) (h' := h) 2 rfl ?_
      rw [hR, ← Option.some.inj e]; exact ret_Bg rfl

set_option maxRecDepth 100000 in
theorem BJfm_bound (L : Nat) (xs : Nat → Int32) (v0 : Int32) (lay : Lay) (h : Hp) (o : Int32) (e : Jfm_bound v0 = some o) : Bg L xs 47 0 [(0, .int v0)] [] lay h ([.int o], lay, h) := by
  obtain ⟨R, hR⟩ : ∃ R : List Value × Lay × Hp, R = ([.int o], lay, h) := ⟨_, rfl⟩
  rw [← hR]
  refine seg_Bg (pc' := 1) (lv' := [(0, .int v0)]) (st' := [.int v0]) (lay' := lay) (h' := h) 1 rfl ?_
  refine call_Bg (a := 46) (la := [(0, .int v0)]) (np := 4) (lv' := [(0, .int v0)]) (rest := []) (res := fun r => ([.int r], lay, h)) rfl e (fun r e => BJfm_isFunction L xs v0 lay h r e) (fun c1 e => ?_)
  show Bg L xs 47 4 [(0, .int v0)] [.int c1] lay h R
  refine seg_Bg (pc' := (if c1 = 0 then 9 else 7)) (lv' := [(0, .int v0)]) (st' := []) (lay' := lay) (h' := h) 1 rfl ?_
  refine pc_ite e (fun e => ?_) (fun e => ?_)
  · refine seg_Bg (pc' := (if v0 = 33 then 126 else if v0 = 38 then 128 else if v0 = 48 then 124 else if v0 = 49 then 124 else if v0 = 61 then 128 else if v0 = 62 then 128 else if v0 = 63 then 130 else if v0 = 94 then 128 else if v0 = 97 then 124 else if v0 = 98 then 124 else if v0 = 99 then 124 else if v0 = 109 then 130 else if v0 = 124 then 128 else 132)) (lv' := [(0, .int v0)]) (st' := []) (lay' := lay) (h' := h) 2 rfl ?_
    refine pc_ite e (fun e => ?_) (fun e => ?_)
    · refine seg_Bg (pc' := 127) (lv' := [(0, .int v0)]) (st' := [.int 1]) (lay' := lay) (h' := h) 1 rfl ?_
      rw [hR, ← Option.some.inj e]; exact ret_Bg rfl
    · refine pc_ite e (fun e => ?_) (fun e => ?_)
      · refine seg_Bg (pc' := 129) (lv' := [(0, .int v0)]) (st' := [.int 2]) (lay' := lay) (h' := h) 1 rfl ?_
        rw [hR, ← Option.some.inj e]; exact ret_Bg rfl
      · refine pc_ite e (fun e => ?_) (fun e => ?_)
        · refine seg_Bg (pc' := 125) (lv' := [(0, .int v0)]) (st' := [.int 0]) (lay' := lay) (h' := h) 1 rfl ?_
          rw [hR, ← Option.some.inj e]; exact ret_Bg rfl
        · refine pc_ite e (fun e => ?_) (fun e => ?_)
          · refine seg_Bg (pc' := 125) (lv' := [(0, .int v0)]) (st' := [.int 0]) (lay' := lay) (h' := h) 1 rfl ?_
            rw [hR, ← Option.some.inj e]; exact ret_Bg rfl
          · refine pc_ite e (fun e => ?_) (fun e => ?_)
            · refine seg_Bg (pc' := 129) (lv' := [(0, .int v0)]) (st' := [.int 2]) (lay' := lay) (h' := h) 1 rfl ?_
              rw [hR, ← Option.some.inj e]; exact ret_Bg rfl
            · refine pc_ite e (fun e => ?_) (fun e => ?_)
              · refine seg_Bg (pc' := 129) (lv' := [(0, .int v0)]) (st' := [.int 2]) (lay' := lay) (h' := h) 1 rfl ?_
                rw [hR, ← Option.some.inj e]; exact ret_Bg rfl
              · refine pc_ite e (fun e => ?_) (fun e => ?_)
                · refine seg_Bg (pc' := 131) (lv' := [(0, .int v0)]) (st' := [.int 3]) (lay' := lay) (h' := h) 1 rfl ?_
                  rw [hR, ← Option.some.inj e]; exact ret_Bg rfl
                · refine pc_ite e (fun e => ?_) (fun e => ?_)
                  · refine seg_Bg (pc' := 129) (lv' := [(0, .int v0)]) (st' := [.int 2]) (lay' := lay) (h' := h) 1 rfl ?_
                    rw [hR, ← Option.some.inj e]; exact ret_Bg rfl
                  · refine pc_ite e (fun e => ?_) (fun e => ?_)
                    · refine seg_Bg (pc' := 125) (lv' := [(0, .int v0)]) (st' := [.int 0]) (lay' := lay) (h' := h) 1 rfl ?_
                      rw [hR, ← Option.some.inj e]; exact ret_Bg rfl
                    · refine pc_ite e (fun e => ?_) (fun e => ?_)
                      · refine seg_Bg (pc' := 125) (lv' := [(0, .int v0)]) (st' := [.int 0]) (lay' := lay) (h' := h) 1 rfl ?_
                        rw [hR, ← Option.some.inj e]; exact ret_Bg rfl
                      · refine pc_ite e (fun e => ?_) (fun e => ?_)
                        · refine seg_Bg (pc' := 125) (lv' := [(0, .int v0)]) (st' := [.int 0]) (lay' := lay) (h' := h) 1 rfl ?_
                          rw [hR, ← Option.some.inj e]; exact ret_Bg rfl
                        · refine pc_ite e (fun e => ?_) (fun e => ?_)
                          · refine seg_Bg (pc' := 131) (lv' := [(0, .int v0)]) (st' := [.int 3]) (lay' := lay) (h' := h) 1 rfl ?_
                            rw [hR, ← Option.some.inj e]; exact ret_Bg rfl
                          · refine pc_ite e (fun e => ?_) (fun e => ?_)
                            · refine seg_Bg (pc' := 129) (lv' := [(0, .int v0)]) (st' := [.int 2]) (lay' := lay) (h' := h) 1 rfl ?_
                              rw [hR, ← Option.some.inj e]; exact ret_Bg rfl
                            · refine seg_Bg (pc' := 133) (lv' := [(0, .int v0)]) (st' := [.int (-1)]) (lay' := lay) (h' := h) 1 rfl ?_
                              rw [hR, ← Option.some.inj e]; exact ret_Bg rfl
  · refine seg_Bg (pc' := 8) (lv' := [(0, .int v0)]) (st' := [.int 3]) (lay' := lay) (h' := h) 1 rfl ?_
    rw [hR, ← Option.some.inj e]; exact ret_Bg rfl

set_option maxRecDepth 100000 in
theorem BJfm_faultOf (L : Nat) (xs : Nat → Int32) (v0 : Int32) (v1 : Int32) (lay : Lay) (h : Hp) (o : Int32) (e : Jfm_faultOf v0 v1 = some o) : Bg L xs 42 0 [(0, .int v0), (1, .int v1)] [] lay h ([.int o], lay, h) := by
  obtain ⟨R, hR⟩ : ∃ R : List Value × Lay × Hp, R = ([.int o], lay, h) := ⟨_, rfl⟩
  rw [← hR]
  refine seg_Bg (pc' := 1) (lv' := [(0, .int v0), (1, .int v1)]) (st' := [.int v0]) (lay' := lay) (h' := h) 1 rfl ?_
  refine call_Bg (a := 47) (la := [(0, .int v0)]) (np := 4) (lv' := [(0, .int v0), (1, .int v1)]) (rest := []) (res := fun r => ([.int r], lay, h)) rfl e (fun r e => BJfm_bound L xs v0 lay h r e) (fun c1 e => ?_)
  show Bg L xs 42 4 [(0, .int v0), (1, .int v1)] [.int c1] lay h R
  refine seg_Bg (pc' := (if c1 = (-1) then 8 else 10)) (lv' := [(0, .int v0), (1, .int v1)]) (st' := []) (lay' := lay) (h' := h) 2 rfl ?_
  refine pc_ite e (fun e => ?_) (fun e => ?_)
  · refine seg_Bg (pc' := 9) (lv' := [(0, .int v0), (1, .int v1)]) (st' := [.int 1]) (lay' := lay) (h' := h) 1 rfl ?_
    rw [hR, ← Option.some.inj e]; exact ret_Bg rfl
  · refine seg_Bg (pc' := 11) (lv' := [(0, .int v0), (1, .int v1)]) (st' := [.int v0]) (lay' := lay) (h' := h) 1 rfl ?_
    refine call_Bg (a := 46) (la := [(0, .int v0)]) (np := 14) (lv' := [(0, .int v0), (1, .int v1)]) (rest := []) (res := fun r => ([.int r], lay, h)) rfl e (fun r e => BJfm_isFunction L xs v0 lay h r e) (fun c2 e => ?_)
    show Bg L xs 42 14 [(0, .int v0), (1, .int v1)] [.int c2] lay h R
    refine seg_Bg (pc' := (if c2 = 0 then 29 else 17)) (lv' := [(0, .int v0), (1, .int v1)]) (st' := []) (lay' := lay) (h' := h) 1 rfl ?_
    refine pc_ite e (fun e => ?_) (fun e => ?_)
    · refine seg_Bg (pc' := 30) (lv' := [(0, .int v0), (1, .int v1)]) (st' := [.int 0]) (lay' := lay) (h' := h) 1 rfl ?_
      rw [hR, ← Option.some.inj e]; exact ret_Bg rfl
    · refine seg_Bg (pc' := (if (v0 - (65 : Int32)) < v1 then 29 else 25)) (lv' := [(0, .int v0), (1, .int v1)]) (st' := []) (lay' := lay) (h' := h) 5 rfl ?_
      refine pc_ite e (fun e => ?_) (fun e => ?_)
      · refine seg_Bg (pc' := 30) (lv' := [(0, .int v0), (1, .int v1)]) (st' := [.int 0]) (lay' := lay) (h' := h) 1 rfl ?_
        rw [hR, ← Option.some.inj e]; exact ret_Bg rfl
      · refine seg_Bg (pc' := 30) (lv' := [(0, .int v0), (1, .int v1)]) (st' := [.int 2]) (lay' := lay) (h' := h) 2 rfl ?_
        rw [hR, ← Option.some.inj e]; exact ret_Bg rfl

set_option maxRecDepth 100000 in
theorem BJfm_firstFault_J36 (L : Nat) (xs : Nat → Int32) (v1 v2 v3 s0 : Int32) (h : Hp) (o : ((Int32 × Int32) ⊕ ((Int32 × Int32) ⊕ (Int32 × Hp)))) (e : Jfm_firstFault_J36 v1 v2 v3 s0 h = some o) (R : List Value × Lay × Hp) (hH : ∀ s : Int32 × Int32, o = .inl s → Bg L xs 41 4 [(0, .ref 1), (1, .int v1), (2, .int s.1), (3, .int s.2)] [] LY70 h R) (hE : ∀ t : Int32 × Int32, o = .inr (.inl t) → Bg L xs 41 71 [(0, .ref 1), (1, .int v1), (2, .int t.1), (3, .int t.2)] [] LY70 h R) (hR : ∀ r : Int32 × Hp, o = .inr (.inr r) → R = ([.int r.1], LY70, r.2)) : Bg L xs 41 36 [(0, .ref 1), (1, .int v1), (2, .int v2), (3, .int v3)] [.int s0] LY70 h R := by
  refine seg_Bg (pc' := (if s0 = 0 then 51 else 43)) (lv' := [(0, .ref 1), (1, .int v1), (2, .int v2), (3, .int v3), (4, .int s0)]) (st' := []) (lay' := LY70) (h' := h) 3 rfl ?_
  refine pc_ite e (fun e => ?_) (fun e => ?_)
  · refine seg_Bg (pc' := 57) (lv' := [(0, .ref 1), (1, .int v1), (2, .int v2), (3, .int v3), (4, .int s0)]) (st' := [.int v3, .ref 2, .int v2]) (lay' := LY70) (h' := h) 4 rfl ?_
    refine gd_Bg (pc' := 58) (lv' := [(0, .ref 1), (1, .int v1), (2, .int v2), (3, .int v3), (4, .int s0)]) (st' := [.int (h 2 (Int32.toNatClampNeg v3)), .int v2]) (lay' := LY70) (h' := h) (g := ibB v3 60) rfl e fun e => ?_
    refine call_Bg (a := 47) (la := [(0, .int (h 2 (Int32.toNatClampNeg v3)))]) (np := 61) (lv' := [(0, .ref 1), (1, .int v1), (2, .int v2), (3, .int v3), (4, .int s0)]) (rest := [.int v2]) (res := fun r => ([.int r], LY70, h)) rfl e (fun r e => BJfm_bound L xs (h 2 (Int32.toNatClampNeg v3)) LY70 h r e) (fun c1 e => ?_)
    show Bg L xs 41 61 [(0, .ref 1), (1, .int v1), (2, .int v2), (3, .int v3), (4, .int s0)] [.int c1, .int v2] LY70 h R
    refine seg_Bg (pc' := 4) (lv' := [(0, .ref 1), (1, .int v1), (2, .int (v2 + (c1 - (1 : Int32)))), (3, .int (v3 + 1)), (4, .int s0)]) (st' := []) (lay' := LY70) (h' := h) 6 rfl ?_
    refine kp_Bg (lv' := [(0, .ref 1), (1, .int v1), (2, .int (v2 + (c1 - (1 : Int32)))), (3, .int (v3 + 1))]) rfl rfl ?_
    exact hH (v2 + (c1 - (1 : Int32)), v3 + 1) (Option.some.inj e).symm
  · refine seg_Bg (pc' := 45) (lv' := [(0, .ref 1), (1, .int v1), (2, .int v2), (3, .int v3), (4, .int s0)]) (st' := [.int v3, .ref 1]) (lay' := LY70) (h' := h) 2 rfl ?_
    refine put_Bg (pc' := 48) (lv' := [(0, .ref 1), (1, .int v1), (2, .int v2), (3, .int v3), (4, .int s0)]) (st' := []) (lay' := LY70) (x := hset h 1 4 v3) rfl e fun h2 e => ?_
    refine seg_Bg (pc' := 50) (lv' := [(0, .ref 1), (1, .int v1), (2, .int v2), (3, .int v3), (4, .int s0)]) (st' := [.int s0]) (lay' := LY70) (h' := h2) 1 rfl ?_
    rw [hR (s0, h2) (Option.some.inj e).symm]; exact ret_Bg rfl
set_option maxRecDepth 100000 in
theorem BJfm_firstFault_L4_s (L : Nat) (xs : Nat → Int32) (v1 : Int32) (h : Hp) (R : List Value × Lay × Hp) (v2 v3 : Int32) (o : ((Int32 × Int32) ⊕ ((Int32 × Int32) ⊕ (Int32 × Hp)))) (hH : ∀ s : Int32 × Int32, o = .inl s → Bg L xs 41 4 [(0, .ref 1), (1, .int v1), (2, .int s.1), (3, .int s.2)] [] LY70 h R) (hE : ∀ t : Int32 × Int32, o = .inr (.inl t) → Bg L xs 41 71 [(0, .ref 1), (1, .int v1), (2, .int t.1), (3, .int t.2)] [] LY70 h R) (hR : ∀ r : Int32 × Hp, o = .inr (.inr r) → R = ([.int r.1], LY70, r.2)) (e : Jfm_firstFault_L4 v1 h v2 v3 = some o) : Bg L xs 41 4 [(0, .ref 1), (1, .int v1), (2, .int v2), (3, .int v3)] [] LY70 h R := by
  refine seg_Bg (pc' := (if v3 < (h 1 2) then 12 else 71)) (lv' := [(0, .ref 1), (1, .int v1), (2, .int v2), (3, .int v3)]) (st' := []) (lay' := LY70) (h' := h) 4 rfl ?_
  refine pc_ite e (fun e => ?_) (fun e => ?_)
  · refine seg_Bg (pc' := (if v3 < 60 then 18 else 71)) (lv' := [(0, .ref 1), (1, .int v1), (2, .int v2), (3, .int v3)]) (st' := []) (lay' := LY70) (h' := h) 3 rfl ?_
    refine pc_ite e (fun e => ?_) (fun e => ?_)
    · refine seg_Bg (pc' := (if v2 = 0 then 22 else 26)) (lv' := [(0, .ref 1), (1, .int v1), (2, .int v2), (3, .int v3)]) (st' := []) (lay' := LY70) (h' := h) 2 rfl ?_
      refine pc_ite e (fun e => ?_) (fun e => ?_)
      · refine seg_Bg (pc' := 36) (lv' := [(0, .ref 1), (1, .int v1), (2, .int v2), (3, .int v3)]) (st' := [.int 3]) (lay' := LY70) (h' := h) 2 rfl ?_
        exact BJfm_firstFault_J36 L xs v1 v2 v3 3 h o e R hH hE hR
      · refine seg_Bg (pc' := 31) (lv' := [(0, .ref 1), (1, .int v1), (2, .int v2), (3, .int v3)]) (st' := [.int v3, .ref 2]) (lay' := LY70) (h' := h) 3 rfl ?_
        refine gd_Bg (pc' := 32) (lv' := [(0, .ref 1), (1, .int v1), (2, .int v2), (3, .int v3)]) (st' := [.int (h 2 (Int32.toNatClampNeg v3))]) (lay' := LY70) (h' := h) (g := ibB v3 60) rfl e fun e => ?_
        refine seg_Bg (pc' := 33) (lv' := [(0, .ref 1), (1, .int v1), (2, .int v2), (3, .int v3)]) (st' := [.int v1, .int (h 2 (Int32.toNatClampNeg v3))]) (lay' := LY70) (h' := h) 1 rfl ?_
        refine call_Bg (a := 42) (la := [(0, .int (h 2 (Int32.toNatClampNeg v3))), (1, .int v1)]) (np := 36) (lv' := [(0, .ref 1), (1, .int v1), (2, .int v2), (3, .int v3)]) (rest := []) (res := fun r => ([.int r], LY70, h)) rfl e (fun r e => BJfm_faultOf L xs (h 2 (Int32.toNatClampNeg v3)) v1 LY70 h r e) (fun c3 e => ?_)
        show Bg L xs 41 36 [(0, .ref 1), (1, .int v1), (2, .int v2), (3, .int v3)] [.int c3] LY70 h R
        refine seg_Bg (pc' := (if c3 = 0 then 51 else 43)) (lv' := [(0, .ref 1), (1, .int v1), (2, .int v2), (3, .int v3), (4, .int c3)]) (st' := []) (lay' := LY70) (h' := h) 3 rfl ?_
        refine pc_ite e (fun e => ?_) (fun e => ?_)
        · refine seg_Bg (pc' := 57) (lv' := [(0, .ref 1), (1, .int v1), (2, .int v2), (3, .int v3), (4, .int c3)]) (st' := [.int v3, .ref 2, .int v2]) (lay' := LY70) (h' := h) 4 rfl ?_
          refine gd_Bg (pc' := 58) (lv' := [(0, .ref 1), (1, .int v1), (2, .int v2), (3, .int v3), (4, .int c3)]) (st' := [.int (h 2 (Int32.toNatClampNeg v3)), .int v2]) (lay' := LY70) (h' := h) (g := ibB v3 60) rfl e fun e => ?_
          refine call_Bg (a := 47) (la := [(0, .int (h 2 (Int32.toNatClampNeg v3)))]) (np := 61) (lv' := [(0, .ref 1), (1, .int v1), (2, .int v2), (3, .int v3), (4, .int c3)]) (rest := [.int v2]) (res := fun r => ([.int r], LY70, h)) rfl e (fun r e => BJfm_bound L xs (h 2 (Int32.toNatClampNeg v3)) LY70 h r e) (fun c4 e => ?_)
          show Bg L xs 41 61 [(0, .ref 1), (1, .int v1), (2, .int v2), (3, .int v3), (4, .int c3)] [.int c4, .int v2] LY70 h R
          refine seg_Bg (pc' := 4) (lv' := [(0, .ref 1), (1, .int v1), (2, .int (v2 + (c4 - (1 : Int32)))), (3, .int (v3 + 1)), (4, .int c3)]) (st' := []) (lay' := LY70) (h' := h) 6 rfl ?_
          refine kp_Bg (lv' := [(0, .ref 1), (1, .int v1), (2, .int (v2 + (c4 - (1 : Int32)))), (3, .int (v3 + 1))]) rfl rfl ?_
          exact hH (v2 + (c4 - (1 : Int32)), v3 + 1) (Option.some.inj e).symm
        · refine seg_Bg (pc' := 45) (lv' := [(0, .ref 1), (1, .int v1), (2, .int v2), (3, .int v3), (4, .int c3)]) (st' := [.int v3, .ref 1]) (lay' := LY70) (h' := h) 2 rfl ?_
          refine put_Bg (pc' := 48) (lv' := [(0, .ref 1), (1, .int v1), (2, .int v2), (3, .int v3), (4, .int c3)]) (st' := []) (lay' := LY70) (x := hset h 1 4 v3) rfl e fun h5 e => ?_
          refine seg_Bg (pc' := 50) (lv' := [(0, .ref 1), (1, .int v1), (2, .int v2), (3, .int v3), (4, .int c3)]) (st' := [.int c3]) (lay' := LY70) (h' := h5) 1 rfl ?_
          rw [hR (c3, h5) (Option.some.inj e).symm]; exact ret_Bg rfl
    · exact hE (v2, v3) (Option.some.inj e).symm
  · exact hE (v2, v3) (Option.some.inj e).symm
theorem BJfm_firstFault_L4 (L : Nat) (xs : Nat → Int32) (v1 : Int32) (h : Hp) (R : List Value × Lay × Hp) (C : ((Int32 × Int32) ⊕ (Int32 × Hp)) → Prop) (hE : ∀ t : Int32 × Int32, C (.inl t) → Bg L xs 41 71 [(0, .ref 1), (1, .int v1), (2, .int t.1), (3, .int t.2)] [] LY70 h R) (hR : ∀ r : Int32 × Hp, C (.inr r) → R = ([.int r.1], LY70, r.2)) (n : Nat) (s : Int32 × Int32) (o : ((Int32 × Int32) ⊕ (Int32 × Hp))) (e : loopN n (fun s => Jfm_firstFault_L4 v1 h s.1 s.2) s = some o) (hC : C o) : Bg L xs 41 4 [(0, .ref 1), (1, .int v1), (2, .int s.1), (3, .int s.2)] [] LY70 h R := by
  refine loop_B (fun s => Jfm_firstFault_L4 v1 h s.1 s.2) (fun s : Int32 × Int32 => Bg L xs 41 4 [(0, .ref 1), (1, .int v1), (2, .int s.1), (3, .int s.2)] [] LY70 h R) C (fun s o e => ?_) n s o e hC
  intro hK
  refine BJfm_firstFault_L4_s L xs v1 h R s.1 s.2 o (fun s q => by subst q; exact hK) (fun t q => by subst q; exact hE t hK) (fun r q => by subst q; exact hR r hK) e
set_option maxRecDepth 100000 in
theorem BJfm_firstFault (L : Nat) (xs : Nat → Int32) (v1 : Int32) (h : Hp) (o : Int32 × Hp) (e : Jfm_firstFault v1 h = some o) : Bg L xs 41 0 [(0, .ref 1), (1, .int v1)] [] LY70 h ([.int o.1], LY70, o.2) := by
  obtain ⟨R, hR⟩ : ∃ R : List Value × Lay × Hp, R = ([.int o.1], LY70, o.2) := ⟨_, rfl⟩
  rw [← hR]
  refine seg_Bg (pc' := 4) (lv' := [(0, .ref 1), (1, .int v1), (2, .int 1), (3, .int 0)]) (st' := []) (lay' := LY70) (h' := h) 4 rfl ?_
  obtain ⟨t6o, et6o, e⟩ := bd_s e
  refine BJfm_firstFault_L4 L xs v1 h R (fun (t6x : (Int32 × Int32) ⊕ (Int32 × Hp)) => (sm t6x (fun t6 => lt (hset h 1 4 (h 1 2)) fun h7 => if 0 < t6.1 then some (4, h7) else some (0, h7)) (fun r7 => some r7)) = some o) (fun t6 e => ?_) (fun r7 e => ?_) 1000000 (1, 0) _ et6o e
  · dsimp only [sm] at e
    refine seg_Bg (pc' := 76) (lv' := [(0, .ref 1), (1, .int v1), (2, .int t6.1), (3, .int t6.2)]) (st' := [.int (h 1 2), .ref 1]) (lay' := LY70) (h' := h) 3 rfl ?_
    refine put_Bg (pc' := 79) (lv' := [(0, .ref 1), (1, .int v1), (2, .int t6.1), (3, .int t6.2)]) (st' := []) (lay' := LY70) (x := hset h 1 4 (h 1 2)) rfl e fun h7 e => ?_
    refine seg_Bg (pc' := (if 0 < t6.1 then 83 else 87)) (lv' := [(0, .ref 1), (1, .int v1), (2, .int t6.1), (3, .int t6.2)]) (st' := []) (lay' := LY70) (h' := h7) 2 rfl ?_
    refine pc_ite e (fun e => ?_) (fun e => ?_)
    · refine seg_Bg (pc' := 88) (lv' := [(0, .ref 1), (1, .int v1), (2, .int t6.1), (3, .int t6.2)]) (st' := [.int 4]) (lay' := LY70) (h' := h7) 2 rfl ?_
      rw [hR, ← Option.some.inj e]; exact ret_Bg rfl
    · refine seg_Bg (pc' := 88) (lv' := [(0, .ref 1), (1, .int v1), (2, .int t6.1), (3, .int t6.2)]) (st' := [.int 0]) (lay' := LY70) (h' := h7) 1 rfl ?_
      rw [hR, ← Option.some.inj e]; exact ret_Bg rfl
  · rw [hR]; exact congrArg (fun r => (([.int r.1], LY70, r.2) : List Value × Lay × Hp)) (Option.some.inj e).symm

set_option maxRecDepth 100000 in
theorem BJfm_codeOf (L : Nat) (xs : Nat → Int32) (v0 : Int32) (lay : Lay) (h : Hp) (o : Int32) (e : Jfm_codeOf v0 = some o) : Bg L xs 48 0 [(0, .int v0)] [] lay h ([.int o], lay, h) := by
  obtain ⟨R, hR⟩ : ∃ R : List Value × Lay × Hp, R = ([.int o], lay, h) := ⟨_, rfl⟩
  rw [← hR]
  refine seg_Bg (pc' := (if v0 = 33 then 124 else if v0 = 38 then 127 else if v0 = 49 then 108 else if v0 = 61 then 138 else if v0 = 62 then 142 else if v0 = 63 then 146 else if v0 = 94 then 135 else if v0 = 97 then 112 else if v0 = 98 then 116 else if v0 = 99 then 120 else if v0 = 109 then 150 else if v0 = 124 then 131 else 154)) (lv' := [(0, .int v0)]) (st' := []) (lay' := lay) (h' := h) 2 rfl ?_
  refine pc_ite e (fun e => ?_) (fun e => ?_)
  · refine seg_Bg (pc' := 126) (lv' := [(0, .int v0)]) (st' := [.int 15]) (lay' := lay) (h' := h) 1 rfl ?_
    rw [hR, ← Option.some.inj e]; exact ret_Bg rfl
  · refine pc_ite e (fun e => ?_) (fun e => ?_)
    · refine seg_Bg (pc' := 130) (lv' := [(0, .int v0)]) (st' := [.int 192]) (lay' := lay) (h' := h) 1 rfl ?_
      rw [hR, ← Option.some.inj e]; exact ret_Bg rfl
    · refine pc_ite e (fun e => ?_) (fun e => ?_)
      · refine seg_Bg (pc' := 111) (lv' := [(0, .int v0)]) (st' := [.int 255]) (lay' := lay) (h' := h) 1 rfl ?_
        rw [hR, ← Option.some.inj e]; exact ret_Bg rfl
      · refine pc_ite e (fun e => ?_) (fun e => ?_)
        · refine seg_Bg (pc' := 141) (lv' := [(0, .int v0)]) (st' := [.int 195]) (lay' := lay) (h' := h) 1 rfl ?_
          rw [hR, ← Option.some.inj e]; exact ret_Bg rfl
        · refine pc_ite e (fun e => ?_) (fun e => ?_)
          · refine seg_Bg (pc' := 145) (lv' := [(0, .int v0)]) (st' := [.int 207]) (lay' := lay) (h' := h) 1 rfl ?_
            rw [hR, ← Option.some.inj e]; exact ret_Bg rfl
          · refine pc_ite e (fun e => ?_) (fun e => ?_)
            · refine seg_Bg (pc' := 149) (lv' := [(0, .int v0)]) (st' := [.int 202]) (lay' := lay) (h' := h) 1 rfl ?_
              rw [hR, ← Option.some.inj e]; exact ret_Bg rfl
            · refine pc_ite e (fun e => ?_) (fun e => ?_)
              · refine seg_Bg (pc' := 137) (lv' := [(0, .int v0)]) (st' := [.int 60]) (lay' := lay) (h' := h) 1 rfl ?_
                rw [hR, ← Option.some.inj e]; exact ret_Bg rfl
              · refine pc_ite e (fun e => ?_) (fun e => ?_)
                · refine seg_Bg (pc' := 115) (lv' := [(0, .int v0)]) (st' := [.int 240]) (lay' := lay) (h' := h) 1 rfl ?_
                  rw [hR, ← Option.some.inj e]; exact ret_Bg rfl
                · refine pc_ite e (fun e => ?_) (fun e => ?_)
                  · refine seg_Bg (pc' := 119) (lv' := [(0, .int v0)]) (st' := [.int 204]) (lay' := lay) (h' := h) 1 rfl ?_
                    rw [hR, ← Option.some.inj e]; exact ret_Bg rfl
                  · refine pc_ite e (fun e => ?_) (fun e => ?_)
                    · refine seg_Bg (pc' := 123) (lv' := [(0, .int v0)]) (st' := [.int 170]) (lay' := lay) (h' := h) 1 rfl ?_
                      rw [hR, ← Option.some.inj e]; exact ret_Bg rfl
                    · refine pc_ite e (fun e => ?_) (fun e => ?_)
                      · refine seg_Bg (pc' := 153) (lv' := [(0, .int v0)]) (st' := [.int 232]) (lay' := lay) (h' := h) 1 rfl ?_
                        rw [hR, ← Option.some.inj e]; exact ret_Bg rfl
                      · refine pc_ite e (fun e => ?_) (fun e => ?_)
                        · refine seg_Bg (pc' := 134) (lv' := [(0, .int v0)]) (st' := [.int 252]) (lay' := lay) (h' := h) 1 rfl ?_
                          rw [hR, ← Option.some.inj e]; exact ret_Bg rfl
                        · refine seg_Bg (pc' := 155) (lv' := [(0, .int v0)]) (st' := [.int 0]) (lay' := lay) (h' := h) 1 rfl ?_
                          rw [hR, ← Option.some.inj e]; exact ret_Bg rfl

set_option maxRecDepth 100000 in
theorem BJfm_pop (L : Nat) (xs : Nat → Int32) (h : Hp) (o : Int32 × Hp) (e : Jfm_pop h = some o) : Bg L xs 45 0 [(0, .ref 1)] [] LY70 h ([.int o.1], LY70, o.2) := by
  obtain ⟨R, hR⟩ : ∃ R : List Value × Lay × Hp, R = ([.int o.1], LY70, o.2) := ⟨_, rfl⟩
  rw [← hR]
  refine seg_Bg (pc' := (if (h 1 3) < 1 then 17 else 8)) (lv' := [(0, .ref 1)]) (st' := []) (lay' := LY70) (h' := h) 4 rfl ?_
  refine pc_ite e (fun e => ?_) (fun e => ?_)
  · refine seg_Bg (pc' := 18) (lv' := [(0, .ref 1)]) (st' := [.int 0]) (lay' := LY70) (h' := h) 1 rfl ?_
    rw [hR, ← Option.some.inj e]; exact ret_Bg rfl
  · refine seg_Bg (pc' := (if 60 < (h 1 3) then 17 else 19)) (lv' := [(0, .ref 1)]) (st' := []) (lay' := LY70) (h' := h) 4 rfl ?_
    refine pc_ite e (fun e => ?_) (fun e => ?_)
    · refine seg_Bg (pc' := 18) (lv' := [(0, .ref 1)]) (st' := [.int 0]) (lay' := LY70) (h' := h) 1 rfl ?_
      rw [hR, ← Option.some.inj e]; exact ret_Bg rfl
    · refine seg_Bg (pc' := 26) (lv' := [(0, .ref 1)]) (st' := [.int ((h 1 3) - (1 : Int32)), .ref 1]) (lay' := LY70) (h' := h) 5 rfl ?_
      refine put_Bg (pc' := 29) (lv' := [(0, .ref 1)]) (st' := []) (lay' := LY70) (x := hset h 1 3 ((h 1 3) - (1 : Int32))) rfl e fun h1 e => ?_
      refine seg_Bg (pc' := 37) (lv' := [(0, .ref 1)]) (st' := [.int (h1 1 3), .ref 3]) (lay' := LY70) (h' := h1) 4 rfl ?_
      refine gd_Bg (pc' := 38) (lv' := [(0, .ref 1)]) (st' := [.int (h1 3 (Int32.toNatClampNeg (h1 1 3)))]) (lay' := LY70) (h' := h1) (g := ibB (h1 1 3) 60) rfl e fun e => ?_
      rw [hR, ← Option.some.inj e]; exact ret_Bg rfl

set_option maxRecDepth 100000 in
theorem BJco_putOnBits_L6_s (L : Nat) (xs : Nat → Int32) (v0 v1 v2 v3 v4 : Int32) (lay : Lay) (h : Hp) (R : List Value × Lay × Hp) (v5 v6 : Int32) (o : ((Int32 × Int32) ⊕ (Int32 × Int32))) (hH : ∀ s : Int32 × Int32, o = .inl s → Bg L xs 7 6 [(0, .int v0), (1, .int v1), (2, .int v2), (3, .int v3), (4, .int v4), (5, .int s.1), (6, .int s.2)] [] lay h R) (hE : ∀ t : Int32 × Int32, o = .inr t → Bg L xs 7 59 [(0, .int v0), (1, .int v1), (2, .int v2), (3, .int v3), (4, .int v4), (5, .int t.1), (6, .int t.2)] [] lay h R) (e : Jco_putOnBits_L6 v0 v1 v2 v3 v4 v5 v6 = some o) : Bg L xs 7 6 [(0, .int v0), (1, .int v1), (2, .int v2), (3, .int v3), (4, .int v4), (5, .int v5), (6, .int v6)] [] lay h R := by
  refine seg_Bg (pc' := (if v6 < v4 then 13 else 59)) (lv' := [(0, .int v0), (1, .int v1), (2, .int v2), (3, .int v3), (4, .int v4), (5, .int v5), (6, .int v6)]) (st' := []) (lay' := lay) (h' := h) 3 rfl ?_
  refine pc_ite e (fun e => ?_) (fun e => ?_)
  · refine seg_Bg (pc' := 44) (lv' := [(0, .int v0), (1, .int v1), (2, .int v2), (3, .int v3), (4, .int v4), (5, .int v5), (6, .int v6), (7, .int (((((v1 >>> (v6 &&& 31) : Int32) &&& (1 : Int32)) <<< (2 &&& 31) : Int32) ||| (((v2 >>> (v6 &&& 31) : Int32) &&& (1 : Int32)) <<< (1 &&& 31) : Int32)) ||| ((v3 >>> (v6 &&& 31) : Int32) &&& (1 : Int32))))]) (st' := [.int (((((v1 >>> (v6 &&& 31) : Int32) &&& (1 : Int32)) <<< (2 &&& 31) : Int32) ||| (((v2 >>> (v6 &&& 31) : Int32) &&& (1 : Int32)) <<< (1 &&& 31) : Int32)) ||| ((v3 >>> (v6 &&& 31) : Int32) &&& (1 : Int32))), .int v0, .int v5]) (lay' := lay) (h' := h) 25 rfl ?_
    refine call_Bg (a := 3) (la := [(0, .int v0), (1, .int (((((v1 >>> (v6 &&& 31) : Int32) &&& (1 : Int32)) <<< (2 &&& 31) : Int32) ||| (((v2 >>> (v6 &&& 31) : Int32) &&& (1 : Int32)) <<< (1 &&& 31) : Int32)) ||| ((v3 >>> (v6 &&& 31) : Int32) &&& (1 : Int32))))]) (np := 47) (lv' := [(0, .int v0), (1, .int v1), (2, .int v2), (3, .int v3), (4, .int v4), (5, .int v5), (6, .int v6), (7, .int (((((v1 >>> (v6 &&& 31) : Int32) &&& (1 : Int32)) <<< (2 &&& 31) : Int32) ||| (((v2 >>> (v6 &&& 31) : Int32) &&& (1 : Int32)) <<< (1 &&& 31) : Int32)) ||| ((v3 >>> (v6 &&& 31) : Int32) &&& (1 : Int32))))]) (rest := [.int v5]) (res := fun r => ([.int r], lay, h)) rfl e (fun r e => BJco_tells L xs v0 (((((v1 >>> (v6 &&& 31) : Int32) &&& (1 : Int32)) <<< (2 &&& 31) : Int32) ||| (((v2 >>> (v6 &&& 31) : Int32) &&& (1 : Int32)) <<< (1 &&& 31) : Int32)) ||| ((v3 >>> (v6 &&& 31) : Int32) &&& (1 : Int32))) lay h r e) (fun c1 e => ?_)
    show Bg L xs 7 47 [(0, .int v0), (1, .int v1), (2, .int v2), (3, .int v3), (4, .int v4), (5, .int v5), (6, .int v6), (7, .int (((((v1 >>> (v6 &&& 31) : Int32) &&& (1 : Int32)) <<< (2 &&& 31) : Int32) ||| (((v2 >>> (v6 &&& 31) : Int32) &&& (1 : Int32)) <<< (1 &&& 31) : Int32)) ||| ((v3 >>> (v6 &&& 31) : Int32) &&& (1 : Int32))))] [.int c1, .int v5] lay h R
    refine seg_Bg (pc' := 6) (lv' := [(0, .int v0), (1, .int v1), (2, .int v2), (3, .int v3), (4, .int v4), (5, .int (v5 ||| (c1 <<< (v6 &&& 31) : Int32))), (6, .int (v6 + 1)), (7, .int (((((v1 >>> (v6 &&& 31) : Int32) &&& (1 : Int32)) <<< (2 &&& 31) : Int32) ||| (((v2 >>> (v6 &&& 31) : Int32) &&& (1 : Int32)) <<< (1 &&& 31) : Int32)) ||| ((v3 >>> (v6 &&& 31) : Int32) &&& (1 : Int32))))]) (st' := []) (lay' := lay) (h' := h) 6 rfl ?_
    refine kp_Bg (lv' := [(0, .int v0), (1, .int v1), (2, .int v2), (3, .int v3), (4, .int v4), (5, .int (v5 ||| (c1 <<< (v6 &&& 31) : Int32))), (6, .int (v6 + 1))]) rfl rfl ?_
    exact hH (v5 ||| (c1 <<< (v6 &&& 31) : Int32), v6 + 1) (Option.some.inj e).symm
  · exact hE (v5, v6) (Option.some.inj e).symm
theorem BJco_putOnBits_L6 (L : Nat) (xs : Nat → Int32) (v0 v1 v2 v3 v4 : Int32) (lay : Lay) (h : Hp) (R : List Value × Lay × Hp) (C : (Int32 × Int32) → Prop) (hE : ∀ t : Int32 × Int32, C t → Bg L xs 7 59 [(0, .int v0), (1, .int v1), (2, .int v2), (3, .int v3), (4, .int v4), (5, .int t.1), (6, .int t.2)] [] lay h R) (n : Nat) (s : Int32 × Int32) (o : (Int32 × Int32)) (e : loopN n (fun s => Jco_putOnBits_L6 v0 v1 v2 v3 v4 s.1 s.2) s = some o) (hC : C o) : Bg L xs 7 6 [(0, .int v0), (1, .int v1), (2, .int v2), (3, .int v3), (4, .int v4), (5, .int s.1), (6, .int s.2)] [] lay h R := by
  refine loop_B (fun s => Jco_putOnBits_L6 v0 v1 v2 v3 v4 s.1 s.2) (fun s : Int32 × Int32 => Bg L xs 7 6 [(0, .int v0), (1, .int v1), (2, .int v2), (3, .int v3), (4, .int v4), (5, .int s.1), (6, .int s.2)] [] lay h R) C (fun s o e => ?_) n s o e hC
  intro hK
  refine BJco_putOnBits_L6_s L xs v0 v1 v2 v3 v4 lay h R s.1 s.2 o (fun s q => by subst q; exact hK) (fun t q => by subst q; exact hE t hK) e
set_option maxRecDepth 100000 in
theorem BJco_putOnBits (L : Nat) (xs : Nat → Int32) (v0 : Int32) (v1 : Int32) (v2 : Int32) (v3 : Int32) (v4 : Int32) (lay : Lay) (h : Hp) (o : Int32) (e : Jco_putOnBits v0 v1 v2 v3 v4 = some o) : Bg L xs 7 0 [(0, .int v0), (1, .int v1), (2, .int v2), (3, .int v3), (4, .int v4)] [] lay h ([.int o], lay, h) := by
  obtain ⟨R, hR⟩ : ∃ R : List Value × Lay × Hp, R = ([.int o], lay, h) := ⟨_, rfl⟩
  rw [← hR]
  refine seg_Bg (pc' := 6) (lv' := [(0, .int v0), (1, .int v1), (2, .int v2), (3, .int v3), (4, .int v4), (5, .int 0), (6, .int 0)]) (st' := []) (lay' := lay) (h' := h) 4 rfl ?_
  obtain ⟨t2o, et2o, e⟩ := bd_s e
  refine BJco_putOnBits_L6 L xs v0 v1 v2 v3 v4 lay h R (fun (t2 : Int32 × Int32) => (some t2.1) = some o) (fun t2 e => ?_) 1000000 (0, 0) _ et2o e
  refine seg_Bg (pc' := 61) (lv' := [(0, .int v0), (1, .int v1), (2, .int v2), (3, .int v3), (4, .int v4), (5, .int t2.1), (6, .int t2.2)]) (st' := [.int t2.1]) (lay' := lay) (h' := h) 1 rfl ?_
  rw [hR, ← Option.some.inj e]; exact ret_Bg rfl

set_option maxRecDepth 100000 in
theorem BJco_putOn (L : Nat) (xs : Nat → Int32) (v0 : Int32) (v1 : Int32) (v2 : Int32) (v3 : Int32) (lay : Lay) (h : Hp) (o : Int32) (e : Jco_putOn v0 v1 v2 v3 = some o) : Bg L xs 6 0 [(0, .int v0), (1, .int v1), (2, .int v2), (3, .int v3)] [] lay h ([.int o], lay, h) := by
  obtain ⟨R, hR⟩ : ∃ R : List Value × Lay × Hp, R = ([.int o], lay, h) := ⟨_, rfl⟩
  rw [← hR]
  refine seg_Bg (pc' := 6) (lv' := [(0, .int v0), (1, .int v1), (2, .int v2), (3, .int v3)]) (st' := [.int 8, .int v3, .int v2, .int v1, .int v0]) (lay' := lay) (h' := h) 5 rfl ?_
  refine call_Bg (a := 7) (la := [(0, .int v0), (1, .int v1), (2, .int v2), (3, .int v3), (4, .int 8)]) (np := 9) (lv' := [(0, .int v0), (1, .int v1), (2, .int v2), (3, .int v3)]) (rest := []) (res := fun r => ([.int r], lay, h)) rfl e (fun r e => BJco_putOnBits L xs v0 v1 v2 v3 8 lay h r e) (fun c1 e => ?_)
  show Bg L xs 6 9 [(0, .int v0), (1, .int v1), (2, .int v2), (3, .int v3)] [.int c1] lay h R
  rw [hR, ← Option.some.inj e]; exact ret_Bg rfl

set_option maxRecDepth 100000 in
theorem BJfm_push (L : Nat) (xs : Nat → Int32) (v1 : Int32) (h : Hp) (o : Hp) (e : Jfm_push v1 h = some o) : Bg L xs 44 0 [(0, .ref 1), (1, .int v1)] [] LY70 h ([], LY70, o) := by
  obtain ⟨R, hR⟩ : ∃ R : List Value × Lay × Hp, R = ([], LY70, o) := ⟨_, rfl⟩
  rw [← hR]
  refine seg_Bg (pc' := (if (h 1 3) < 0 then 36 else 7)) (lv' := [(0, .ref 1), (1, .int v1)]) (st' := []) (lay' := LY70) (h' := h) 3 rfl ?_
  refine pc_ite e (fun e => ?_) (fun e => ?_)
  · rw [hR, ← Option.some.inj e]; exact ret_Bg rfl
  · refine seg_Bg (pc' := (if (h 1 3) < 60 then 16 else 36)) (lv' := [(0, .ref 1), (1, .int v1)]) (st' := []) (lay' := LY70) (h' := h) 4 rfl ?_
    refine pc_ite e (fun e => ?_) (fun e => ?_)
    · refine seg_Bg (pc' := 25) (lv' := [(0, .ref 1), (1, .int v1)]) (st' := [.int v1, .int (h 1 3), .ref 3]) (lay' := LY70) (h' := h) 5 rfl ?_
      refine gp_Bg (pc' := 26) (lv' := [(0, .ref 1), (1, .int v1)]) (st' := []) (lay' := LY70) (x := hset h 3 (Int32.toNatClampNeg (h 1 3)) v1) (g := ibB (h 1 3) 60) rfl e fun h1 e => ?_
      refine seg_Bg (pc' := 33) (lv' := [(0, .ref 1), (1, .int v1)]) (st' := [.int ((h1 1 3) + (1 : Int32)), .ref 1]) (lay' := LY70) (h' := h1) 5 rfl ?_
      refine put_Bg (pc' := 36) (lv' := [(0, .ref 1), (1, .int v1)]) (st' := []) (lay' := LY70) (x := hset h1 1 3 ((h1 1 3) + (1 : Int32))) rfl e fun h2 e => ?_
      rw [hR, ← Option.some.inj e]; exact ret_Bg rfl
    · rw [hR, ← Option.some.inj e]; exact ret_Bg rfl

set_option maxRecDepth 100000 in
theorem BJsh_holds (L : Nat) (xs : Nat → Int32) (v1 : Int32) (h : Hp) (o : Int32) (e : Jsh_holds v1 h = some o) : Bg L xs 76 0 [(0, .ref 29), (1, .int v1)] [] LY70 h ([.int o], LY70, h) := by
  obtain ⟨R, hR⟩ : ∃ R : List Value × Lay × Hp, R = ([.int o], LY70, h) := ⟨_, rfl⟩
  rw [← hR]
  refine seg_Bg (pc' := (if v1 < 0 then 22 else 4)) (lv' := [(0, .ref 29), (1, .int v1)]) (st' := []) (lay' := LY70) (h' := h) 2 rfl ?_
  refine pc_ite e (fun e => ?_) (fun e => ?_)
  · refine seg_Bg (pc' := 23) (lv' := [(0, .ref 29), (1, .int v1)]) (st' := [.int 0]) (lay' := LY70) (h' := h) 1 rfl ?_
    rw [hR, ← Option.some.inj e]; exact ret_Bg rfl
  · refine seg_Bg (pc' := (if v1 < (h 29 1) then 12 else 22)) (lv' := [(0, .ref 29), (1, .int v1)]) (st' := []) (lay' := LY70) (h' := h) 4 rfl ?_
    refine pc_ite e (fun e => ?_) (fun e => ?_)
    · refine seg_Bg (pc' := (if v1 < 6 then 18 else 22)) (lv' := [(0, .ref 29), (1, .int v1)]) (st' := []) (lay' := LY70) (h' := h) 3 rfl ?_
      refine pc_ite e (fun e => ?_) (fun e => ?_)
      · refine seg_Bg (pc' := 23) (lv' := [(0, .ref 29), (1, .int v1)]) (st' := [.int 1]) (lay' := LY70) (h' := h) 2 rfl ?_
        rw [hR, ← Option.some.inj e]; exact ret_Bg rfl
      · refine seg_Bg (pc' := 23) (lv' := [(0, .ref 29), (1, .int v1)]) (st' := [.int 0]) (lay' := LY70) (h' := h) 1 rfl ?_
        rw [hR, ← Option.some.inj e]; exact ret_Bg rfl
    · refine seg_Bg (pc' := 23) (lv' := [(0, .ref 29), (1, .int v1)]) (st' := [.int 0]) (lay' := LY70) (h' := h) 1 rfl ?_
      rw [hR, ← Option.some.inj e]; exact ret_Bg rfl

set_option maxRecDepth 100000 in
theorem BJsh_codeAt (L : Nat) (xs : Nat → Int32) (v1 : Int32) (h : Hp) (o : Int32) (e : Jsh_codeAt v1 h = some o) : Bg L xs 77 0 [(0, .ref 29), (1, .int v1)] [] LY70 h ([.int o], LY70, h) := by
  obtain ⟨R, hR⟩ : ∃ R : List Value × Lay × Hp, R = ([.int o], LY70, h) := ⟨_, rfl⟩
  rw [← hR]
  refine seg_Bg (pc' := 2) (lv' := [(0, .ref 29), (1, .int v1)]) (st' := [.int v1, .ref 29]) (lay' := LY70) (h' := h) 2 rfl ?_
  refine call_Bg (a := 76) (la := [(0, .ref 29), (1, .int v1)]) (np := 5) (lv' := [(0, .ref 29), (1, .int v1)]) (rest := []) (res := fun r => ([.int r], LY70, h)) rfl e (fun r e => BJsh_holds L xs v1 h r e) (fun c1 e => ?_)
  show Bg L xs 77 5 [(0, .ref 29), (1, .int v1)] [.int c1] LY70 h R
  refine seg_Bg (pc' := (if c1 = 0 then 17 else 8)) (lv' := [(0, .ref 29), (1, .int v1)]) (st' := []) (lay' := LY70) (h' := h) 1 rfl ?_
  refine pc_ite e (fun e => ?_) (fun e => ?_)
  · refine seg_Bg (pc' := 18) (lv' := [(0, .ref 29), (1, .int v1)]) (st' := [.int 0]) (lay' := LY70) (h' := h) 1 rfl ?_
    rw [hR, ← Option.some.inj e]; exact ret_Bg rfl
  · refine seg_Bg (pc' := 13) (lv' := [(0, .ref 29), (1, .int v1)]) (st' := [.int v1, .ref 30]) (lay' := LY70) (h' := h) 3 rfl ?_
    refine gd_Bg (pc' := 14) (lv' := [(0, .ref 29), (1, .int v1)]) (st' := [.int (h 30 (Int32.toNatClampNeg v1))]) (lay' := LY70) (h' := h) (g := ibB v1 6) rfl e fun e => ?_
    refine seg_Bg (pc' := 18) (lv' := [(0, .ref 29), (1, .int v1)]) (st' := [.int (h 30 (Int32.toNatClampNeg v1))]) (lay' := LY70) (h' := h) 1 rfl ?_
    rw [hR, ← Option.some.inj e]; exact ret_Bg rfl

set_option maxRecDepth 100000 in
theorem BJfm_value_J103 (L : Nat) (xs : Nat → Int32) (v2 v3 v4 v5 v6 v7 s0 : Int32) (h : Hp) (o : ((Int32 × Hp) ⊕ (Int32 × Hp))) (e : Jfm_value_J103 v2 v3 v4 v5 v6 v7 s0 h = some o) (R : List Value × Lay × Hp) (hH : ∀ s : Int32 × Hp, o = .inl s → Bg L xs 43 17 [(0, .ref 1), (1, .ref 29), (2, .int s.1)] [] LY70 s.2 R) (hE : ∀ t : Int32 × Hp, o = .inr t → Bg L xs 43 136 [(0, .ref 1), (1, .ref 29), (2, .int t.1)] [] LY70 t.2 R) : Bg L xs 43 103 [(0, .ref 1), (1, .ref 29), (2, .int v2), (3, .int v3), (4, .int v4), (5, .int v5), (6, .int v6), (7, .int v7)] [.int s0] LY70 h R := by
  refine seg_Bg (pc' := (if 0 < v4 then 111 else 125)) (lv' := [(0, .ref 1), (1, .ref 29), (2, .int v2), (3, .int v3), (4, .int v4), (5, .int v5), (6, .int v6), (7, .int v7), (8, .int s0)]) (st' := [.ref 1]) (lay' := LY70) (h' := h) 4 rfl ?_
  refine pc_ite e (fun e => ?_) (fun e => ?_)
  · refine seg_Bg (pc' := 119) (lv' := [(0, .ref 1), (1, .ref 29), (2, .int v2), (3, .int v3), (4, .int v4), (5, .int v5), (6, .int v6), (7, .int v7), (8, .int s0)]) (st' := [.int s0, .int v7, .int v6, .int v5, .ref 1]) (lay' := LY70) (h' := h) 4 rfl ?_
    refine call_Bg (a := 6) (la := [(0, .int v5), (1, .int v6), (2, .int v7), (3, .int s0)]) (np := 122) (lv' := [(0, .ref 1), (1, .ref 29), (2, .int v2), (3, .int v3), (4, .int v4), (5, .int v5), (6, .int v6), (7, .int v7), (8, .int s0)]) (rest := [.ref 1]) (res := fun r => ([.int r], LY70, h)) rfl e (fun r e => BJco_putOn L xs v5 v6 v7 s0 LY70 h r e) (fun c8 e => ?_)
    show Bg L xs 43 122 [(0, .ref 1), (1, .ref 29), (2, .int v2), (3, .int v3), (4, .int v4), (5, .int v5), (6, .int v6), (7, .int v7), (8, .int s0)] [.int c8, .ref 1] LY70 h R
    refine seg_Bg (pc' := 127) (lv' := [(0, .ref 1), (1, .ref 29), (2, .int v2), (3, .int v3), (4, .int v4), (5, .int v5), (6, .int v6), (7, .int v7), (8, .int s0)]) (st' := [.int c8, .ref 1]) (lay' := LY70) (h' := h) 1 rfl ?_
    refine call_Bg (a := 44) (la := [(0, .ref 1), (1, .int c8)]) (np := 130) (lv' := [(0, .ref 1), (1, .ref 29), (2, .int v2), (3, .int v3), (4, .int v4), (5, .int v5), (6, .int v6), (7, .int v7), (8, .int s0)]) (rest := []) (res := fun r => ([], LY70, r)) rfl e (fun r e => BJfm_push L xs c8 h r e) (fun c9 e => ?_)
    show Bg L xs 43 130 [(0, .ref 1), (1, .ref 29), (2, .int v2), (3, .int v3), (4, .int v4), (5, .int v5), (6, .int v6), (7, .int v7), (8, .int s0)] [] LY70 c9 R
    refine seg_Bg (pc' := 17) (lv' := [(0, .ref 1), (1, .ref 29), (2, .int (v2 + (-1))), (3, .int v3), (4, .int v4), (5, .int v5), (6, .int v6), (7, .int v7), (8, .int s0)]) (st' := []) (lay' := LY70) (h' := c9) 2 rfl ?_
    refine kp_Bg (lv' := [(0, .ref 1), (1, .ref 29), (2, .int (v2 + (-1)))]) rfl rfl ?_
    exact hH (v2 + (-1), c9) (Option.some.inj e).symm
  · refine seg_Bg (pc' := 127) (lv' := [(0, .ref 1), (1, .ref 29), (2, .int v2), (3, .int v3), (4, .int v4), (5, .int v5), (6, .int v6), (7, .int v7), (8, .int s0)]) (st' := [.int v5, .ref 1]) (lay' := LY70) (h' := h) 1 rfl ?_
    refine call_Bg (a := 44) (la := [(0, .ref 1), (1, .int v5)]) (np := 130) (lv' := [(0, .ref 1), (1, .ref 29), (2, .int v2), (3, .int v3), (4, .int v4), (5, .int v5), (6, .int v6), (7, .int v7), (8, .int s0)]) (rest := []) (res := fun r => ([], LY70, r)) rfl e (fun r e => BJfm_push L xs v5 h r e) (fun c10 e => ?_)
    show Bg L xs 43 130 [(0, .ref 1), (1, .ref 29), (2, .int v2), (3, .int v3), (4, .int v4), (5, .int v5), (6, .int v6), (7, .int v7), (8, .int s0)] [] LY70 c10 R
    refine seg_Bg (pc' := 17) (lv' := [(0, .ref 1), (1, .ref 29), (2, .int (v2 + (-1))), (3, .int v3), (4, .int v4), (5, .int v5), (6, .int v6), (7, .int v7), (8, .int s0)]) (st' := []) (lay' := LY70) (h' := c10) 2 rfl ?_
    refine kp_Bg (lv' := [(0, .ref 1), (1, .ref 29), (2, .int (v2 + (-1)))]) rfl rfl ?_
    exact hH (v2 + (-1), c10) (Option.some.inj e).symm
set_option maxRecDepth 100000 in
theorem BJfm_value_J87 (L : Nat) (xs : Nat → Int32) (v2 v3 v4 v5 v6 s0 : Int32) (h : Hp) (o : ((Int32 × Hp) ⊕ (Int32 × Hp))) (e : Jfm_value_J87 v2 v3 v4 v5 v6 s0 h = some o) (R : List Value × Lay × Hp) (hH : ∀ s : Int32 × Hp, o = .inl s → Bg L xs 43 17 [(0, .ref 1), (1, .ref 29), (2, .int s.1)] [] LY70 s.2 R) (hE : ∀ t : Int32 × Hp, o = .inr t → Bg L xs 43 136 [(0, .ref 1), (1, .ref 29), (2, .int t.1)] [] LY70 t.2 R) : Bg L xs 43 87 [(0, .ref 1), (1, .ref 29), (2, .int v2), (3, .int v3), (4, .int v4), (5, .int v5), (6, .int v6)] [.int s0] LY70 h R := by
  refine seg_Bg (pc' := (if 2 < v4 then 95 else 102)) (lv' := [(0, .ref 1), (1, .ref 29), (2, .int v2), (3, .int v3), (4, .int v4), (5, .int v5), (6, .int v6), (7, .int s0)]) (st' := []) (lay' := LY70) (h' := h) 4 rfl ?_
  refine pc_ite e (fun e => ?_) (fun e => ?_)
  · refine seg_Bg (pc' := 96) (lv' := [(0, .ref 1), (1, .ref 29), (2, .int v2), (3, .int v3), (4, .int v4), (5, .int v5), (6, .int v6), (7, .int s0)]) (st' := [.ref 1]) (lay' := LY70) (h' := h) 1 rfl ?_
    refine call_Bg (a := 45) (la := [(0, .ref 1)]) (np := 99) (lv' := [(0, .ref 1), (1, .ref 29), (2, .int v2), (3, .int v3), (4, .int v4), (5, .int v5), (6, .int v6), (7, .int s0)]) (rest := []) (res := fun r => ([.int r.1], LY70, r.2)) rfl e (fun r e => BJfm_pop L xs h r e) (fun c7 e => ?_)
    show Bg L xs 43 99 [(0, .ref 1), (1, .ref 29), (2, .int v2), (3, .int v3), (4, .int v4), (5, .int v5), (6, .int v6), (7, .int s0)] [.int c7.1] LY70 c7.2 R
    refine seg_Bg (pc' := 103) (lv' := [(0, .ref 1), (1, .ref 29), (2, .int v2), (3, .int v3), (4, .int v4), (5, .int v5), (6, .int v6), (7, .int s0)]) (st' := [.int c7.1]) (lay' := LY70) (h' := c7.2) 1 rfl ?_
    exact BJfm_value_J103 L xs v2 v3 v4 v5 v6 s0 c7.1 c7.2 o e R hH hE
  · refine seg_Bg (pc' := 103) (lv' := [(0, .ref 1), (1, .ref 29), (2, .int v2), (3, .int v3), (4, .int v4), (5, .int v5), (6, .int v6), (7, .int s0)]) (st' := [.int 0]) (lay' := LY70) (h' := h) 1 rfl ?_
    exact BJfm_value_J103 L xs v2 v3 v4 v5 v6 s0 0 h o e R hH hE
set_option maxRecDepth 100000 in
theorem BJfm_value_J71 (L : Nat) (xs : Nat → Int32) (v2 v3 v4 v5 s0 : Int32) (h : Hp) (o : ((Int32 × Hp) ⊕ (Int32 × Hp))) (e : Jfm_value_J71 v2 v3 v4 v5 s0 h = some o) (R : List Value × Lay × Hp) (hH : ∀ s : Int32 × Hp, o = .inl s → Bg L xs 43 17 [(0, .ref 1), (1, .ref 29), (2, .int s.1)] [] LY70 s.2 R) (hE : ∀ t : Int32 × Hp, o = .inr t → Bg L xs 43 136 [(0, .ref 1), (1, .ref 29), (2, .int t.1)] [] LY70 t.2 R) : Bg L xs 43 71 [(0, .ref 1), (1, .ref 29), (2, .int v2), (3, .int v3), (4, .int v4), (5, .int v5)] [.int s0] LY70 h R := by
  refine seg_Bg (pc' := (if 1 < v4 then 79 else 86)) (lv' := [(0, .ref 1), (1, .ref 29), (2, .int v2), (3, .int v3), (4, .int v4), (5, .int v5), (6, .int s0)]) (st' := []) (lay' := LY70) (h' := h) 4 rfl ?_
  refine pc_ite e (fun e => ?_) (fun e => ?_)
  · refine seg_Bg (pc' := 80) (lv' := [(0, .ref 1), (1, .ref 29), (2, .int v2), (3, .int v3), (4, .int v4), (5, .int v5), (6, .int s0)]) (st' := [.ref 1]) (lay' := LY70) (h' := h) 1 rfl ?_
    refine call_Bg (a := 45) (la := [(0, .ref 1)]) (np := 83) (lv' := [(0, .ref 1), (1, .ref 29), (2, .int v2), (3, .int v3), (4, .int v4), (5, .int v5), (6, .int s0)]) (rest := []) (res := fun r => ([.int r.1], LY70, r.2)) rfl e (fun r e => BJfm_pop L xs h r e) (fun c6 e => ?_)
    show Bg L xs 43 83 [(0, .ref 1), (1, .ref 29), (2, .int v2), (3, .int v3), (4, .int v4), (5, .int v5), (6, .int s0)] [.int c6.1] LY70 c6.2 R
    refine seg_Bg (pc' := 87) (lv' := [(0, .ref 1), (1, .ref 29), (2, .int v2), (3, .int v3), (4, .int v4), (5, .int v5), (6, .int s0)]) (st' := [.int c6.1]) (lay' := LY70) (h' := c6.2) 1 rfl ?_
    exact BJfm_value_J87 L xs v2 v3 v4 v5 s0 c6.1 c6.2 o e R hH hE
  · refine seg_Bg (pc' := 87) (lv' := [(0, .ref 1), (1, .ref 29), (2, .int v2), (3, .int v3), (4, .int v4), (5, .int v5), (6, .int s0)]) (st' := [.int 0]) (lay' := LY70) (h' := h) 1 rfl ?_
    exact BJfm_value_J87 L xs v2 v3 v4 v5 s0 0 h o e R hH hE
set_option maxRecDepth 100000 in
theorem BJfm_value_J56 (L : Nat) (xs : Nat → Int32) (v2 v3 v4 s0 : Int32) (h : Hp) (o : ((Int32 × Hp) ⊕ (Int32 × Hp))) (e : Jfm_value_J56 v2 v3 v4 s0 h = some o) (R : List Value × Lay × Hp) (hH : ∀ s : Int32 × Hp, o = .inl s → Bg L xs 43 17 [(0, .ref 1), (1, .ref 29), (2, .int s.1)] [] LY70 s.2 R) (hE : ∀ t : Int32 × Hp, o = .inr t → Bg L xs 43 136 [(0, .ref 1), (1, .ref 29), (2, .int t.1)] [] LY70 t.2 R) : Bg L xs 43 56 [(0, .ref 1), (1, .ref 29), (2, .int v2), (3, .int v3), (4, .int v4)] [.int s0] LY70 h R := by
  refine seg_Bg (pc' := (if 0 < v4 then 63 else 70)) (lv' := [(0, .ref 1), (1, .ref 29), (2, .int v2), (3, .int v3), (4, .int v4), (5, .int s0)]) (st' := []) (lay' := LY70) (h' := h) 3 rfl ?_
  refine pc_ite e (fun e => ?_) (fun e => ?_)
  · refine seg_Bg (pc' := 64) (lv' := [(0, .ref 1), (1, .ref 29), (2, .int v2), (3, .int v3), (4, .int v4), (5, .int s0)]) (st' := [.ref 1]) (lay' := LY70) (h' := h) 1 rfl ?_
    refine call_Bg (a := 45) (la := [(0, .ref 1)]) (np := 67) (lv' := [(0, .ref 1), (1, .ref 29), (2, .int v2), (3, .int v3), (4, .int v4), (5, .int s0)]) (rest := []) (res := fun r => ([.int r.1], LY70, r.2)) rfl e (fun r e => BJfm_pop L xs h r e) (fun c12 e => ?_)
    show Bg L xs 43 67 [(0, .ref 1), (1, .ref 29), (2, .int v2), (3, .int v3), (4, .int v4), (5, .int s0)] [.int c12.1] LY70 c12.2 R
    refine seg_Bg (pc' := 71) (lv' := [(0, .ref 1), (1, .ref 29), (2, .int v2), (3, .int v3), (4, .int v4), (5, .int s0)]) (st' := [.int c12.1]) (lay' := LY70) (h' := c12.2) 1 rfl ?_
    exact BJfm_value_J71 L xs v2 v3 v4 s0 c12.1 c12.2 o e R hH hE
  · refine seg_Bg (pc' := 71) (lv' := [(0, .ref 1), (1, .ref 29), (2, .int v2), (3, .int v3), (4, .int v4), (5, .int s0)]) (st' := [.int 0]) (lay' := LY70) (h' := h) 1 rfl ?_
    exact BJfm_value_J71 L xs v2 v3 v4 s0 0 h o e R hH hE
set_option maxRecDepth 100000 in
theorem BJfm_value_L17_s (L : Nat) (xs : Nat → Int32) (R : List Value × Lay × Hp) (v2 : Int32) (h : Hp) (o : ((Int32 × Hp) ⊕ (Int32 × Hp))) (hH : ∀ s : Int32 × Hp, o = .inl s → Bg L xs 43 17 [(0, .ref 1), (1, .ref 29), (2, .int s.1)] [] LY70 s.2 R) (hE : ∀ t : Int32 × Hp, o = .inr t → Bg L xs 43 136 [(0, .ref 1), (1, .ref 29), (2, .int t.1)] [] LY70 t.2 R) (e : Jfm_value_L17 v2 h = some o) : Bg L xs 43 17 [(0, .ref 1), (1, .ref 29), (2, .int v2)] [] LY70 h R := by
  refine seg_Bg (pc' := (if v2 < 0 then 136 else 21)) (lv' := [(0, .ref 1), (1, .ref 29), (2, .int v2)]) (st' := []) (lay' := LY70) (h' := h) 2 rfl ?_
  refine pc_ite e (fun e => ?_) (fun e => ?_)
  · exact hE (v2, h) (Option.some.inj e).symm
  · refine seg_Bg (pc' := 26) (lv' := [(0, .ref 1), (1, .ref 29), (2, .int v2)]) (st' := [.int v2, .ref 2]) (lay' := LY70) (h' := h) 3 rfl ?_
    refine gd_Bg (pc' := 27) (lv' := [(0, .ref 1), (1, .ref 29), (2, .int v2)]) (st' := [.int (h 2 (Int32.toNatClampNeg v2))]) (lay' := LY70) (h' := h) (g := ibB v2 60) rfl e fun e => ?_
    refine seg_Bg (pc' := 29) (lv' := [(0, .ref 1), (1, .ref 29), (2, .int v2), (3, .int (h 2 (Int32.toNatClampNeg v2)))]) (st' := [.int (h 2 (Int32.toNatClampNeg v2))]) (lay' := LY70) (h' := h) 2 rfl ?_
    refine call_Bg (a := 47) (la := [(0, .int (h 2 (Int32.toNatClampNeg v2)))]) (np := 32) (lv' := [(0, .ref 1), (1, .ref 29), (2, .int v2), (3, .int (h 2 (Int32.toNatClampNeg v2)))]) (rest := []) (res := fun r => ([.int r], LY70, h)) rfl e (fun r e => BJfm_bound L xs (h 2 (Int32.toNatClampNeg v2)) LY70 h r e) (fun c2 e => ?_)
    show Bg L xs 43 32 [(0, .ref 1), (1, .ref 29), (2, .int v2), (3, .int (h 2 (Int32.toNatClampNeg v2)))] [.int c2] LY70 h R
    refine seg_Bg (pc' := 35) (lv' := [(0, .ref 1), (1, .ref 29), (2, .int v2), (3, .int (h 2 (Int32.toNatClampNeg v2))), (4, .int c2)]) (st' := [.int (h 2 (Int32.toNatClampNeg v2))]) (lay' := LY70) (h' := h) 2 rfl ?_
    refine call_Bg (a := 46) (la := [(0, .int (h 2 (Int32.toNatClampNeg v2)))]) (np := 38) (lv' := [(0, .ref 1), (1, .ref 29), (2, .int v2), (3, .int (h 2 (Int32.toNatClampNeg v2))), (4, .int c2)]) (rest := []) (res := fun r => ([.int r], LY70, h)) rfl e (fun r e => BJfm_isFunction L xs (h 2 (Int32.toNatClampNeg v2)) LY70 h r e) (fun c3 e => ?_)
    show Bg L xs 43 38 [(0, .ref 1), (1, .ref 29), (2, .int v2), (3, .int (h 2 (Int32.toNatClampNeg v2))), (4, .int c2)] [.int c3] LY70 h R
    refine seg_Bg (pc' := (if c3 = 0 then 52 else 41)) (lv' := [(0, .ref 1), (1, .ref 29), (2, .int v2), (3, .int (h 2 (Int32.toNatClampNeg v2))), (4, .int c2)]) (st' := []) (lay' := LY70) (h' := h) 1 rfl ?_
    refine pc_ite e (fun e => ?_) (fun e => ?_)
    · refine seg_Bg (pc' := 53) (lv' := [(0, .ref 1), (1, .ref 29), (2, .int v2), (3, .int (h 2 (Int32.toNatClampNeg v2))), (4, .int c2)]) (st' := [.int (h 2 (Int32.toNatClampNeg v2))]) (lay' := LY70) (h' := h) 1 rfl ?_
      refine call_Bg (a := 48) (la := [(0, .int (h 2 (Int32.toNatClampNeg v2)))]) (np := 56) (lv' := [(0, .ref 1), (1, .ref 29), (2, .int v2), (3, .int (h 2 (Int32.toNatClampNeg v2))), (4, .int c2)]) (rest := []) (res := fun r => ([.int r], LY70, h)) rfl e (fun r e => BJfm_codeOf L xs (h 2 (Int32.toNatClampNeg v2)) LY70 h r e) (fun c4 e => ?_)
      show Bg L xs 43 56 [(0, .ref 1), (1, .ref 29), (2, .int v2), (3, .int (h 2 (Int32.toNatClampNeg v2))), (4, .int c2)] [.int c4] LY70 h R
      refine seg_Bg (pc' := (if 0 < c2 then 63 else 70)) (lv' := [(0, .ref 1), (1, .ref 29), (2, .int v2), (3, .int (h 2 (Int32.toNatClampNeg v2))), (4, .int c2), (5, .int c4)]) (st' := []) (lay' := LY70) (h' := h) 3 rfl ?_
      refine pc_ite e (fun e => ?_) (fun e => ?_)
      · refine seg_Bg (pc' := 64) (lv' := [(0, .ref 1), (1, .ref 29), (2, .int v2), (3, .int (h 2 (Int32.toNatClampNeg v2))), (4, .int c2), (5, .int c4)]) (st' := [.ref 1]) (lay' := LY70) (h' := h) 1 rfl ?_
        refine call_Bg (a := 45) (la := [(0, .ref 1)]) (np := 67) (lv' := [(0, .ref 1), (1, .ref 29), (2, .int v2), (3, .int (h 2 (Int32.toNatClampNeg v2))), (4, .int c2), (5, .int c4)]) (rest := []) (res := fun r => ([.int r.1], LY70, r.2)) rfl e (fun r e => BJfm_pop L xs h r e) (fun c5 e => ?_)
        show Bg L xs 43 67 [(0, .ref 1), (1, .ref 29), (2, .int v2), (3, .int (h 2 (Int32.toNatClampNeg v2))), (4, .int c2), (5, .int c4)] [.int c5.1] LY70 c5.2 R
        refine seg_Bg (pc' := 71) (lv' := [(0, .ref 1), (1, .ref 29), (2, .int v2), (3, .int (h 2 (Int32.toNatClampNeg v2))), (4, .int c2), (5, .int c4)]) (st' := [.int c5.1]) (lay' := LY70) (h' := c5.2) 1 rfl ?_
        exact BJfm_value_J71 L xs v2 (h 2 (Int32.toNatClampNeg v2)) c2 c4 c5.1 c5.2 o e R hH hE
      · refine seg_Bg (pc' := 71) (lv' := [(0, .ref 1), (1, .ref 29), (2, .int v2), (3, .int (h 2 (Int32.toNatClampNeg v2))), (4, .int c2), (5, .int c4)]) (st' := [.int 0]) (lay' := LY70) (h' := h) 1 rfl ?_
        exact BJfm_value_J71 L xs v2 (h 2 (Int32.toNatClampNeg v2)) c2 c4 0 h o e R hH hE
    · refine seg_Bg (pc' := 46) (lv' := [(0, .ref 1), (1, .ref 29), (2, .int v2), (3, .int (h 2 (Int32.toNatClampNeg v2))), (4, .int c2)]) (st' := [.int ((h 2 (Int32.toNatClampNeg v2)) - (65 : Int32)), .ref 29]) (lay' := LY70) (h' := h) 4 rfl ?_
      refine call_Bg (a := 77) (la := [(0, .ref 29), (1, .int ((h 2 (Int32.toNatClampNeg v2)) - (65 : Int32)))]) (np := 49) (lv' := [(0, .ref 1), (1, .ref 29), (2, .int v2), (3, .int (h 2 (Int32.toNatClampNeg v2))), (4, .int c2)]) (rest := []) (res := fun r => ([.int r], LY70, h)) rfl e (fun r e => BJsh_codeAt L xs ((h 2 (Int32.toNatClampNeg v2)) - (65 : Int32)) h r e) (fun c11 e => ?_)
      show Bg L xs 43 49 [(0, .ref 1), (1, .ref 29), (2, .int v2), (3, .int (h 2 (Int32.toNatClampNeg v2))), (4, .int c2)] [.int c11] LY70 h R
      refine seg_Bg (pc' := 56) (lv' := [(0, .ref 1), (1, .ref 29), (2, .int v2), (3, .int (h 2 (Int32.toNatClampNeg v2))), (4, .int c2)]) (st' := [.int c11]) (lay' := LY70) (h' := h) 1 rfl ?_
      exact BJfm_value_J56 L xs v2 (h 2 (Int32.toNatClampNeg v2)) c2 c11 h o e R hH hE
theorem BJfm_value_L17 (L : Nat) (xs : Nat → Int32) (R : List Value × Lay × Hp) (C : (Int32 × Hp) → Prop) (hE : ∀ t : Int32 × Hp, C t → Bg L xs 43 136 [(0, .ref 1), (1, .ref 29), (2, .int t.1)] [] LY70 t.2 R) (n : Nat) (s : Int32 × Hp) (o : (Int32 × Hp)) (e : loopN n (fun s => Jfm_value_L17 s.1 s.2) s = some o) (hC : C o) : Bg L xs 43 17 [(0, .ref 1), (1, .ref 29), (2, .int s.1)] [] LY70 s.2 R := by
  refine loop_B (fun s => Jfm_value_L17 s.1 s.2) (fun s : Int32 × Hp => Bg L xs 43 17 [(0, .ref 1), (1, .ref 29), (2, .int s.1)] [] LY70 s.2 R) C (fun s o e => ?_) n s o e hC
  intro hK
  refine BJfm_value_L17_s L xs R s.1 s.2 o (fun s q => by subst q; exact hK) (fun t q => by subst q; exact hE t hK) e
set_option maxRecDepth 100000 in
theorem BJfm_value (L : Nat) (xs : Nat → Int32) (h : Hp) (o : Int32 × Hp) (e : Jfm_value h = some o) : Bg L xs 43 0 [(0, .ref 1), (1, .ref 29)] [] LY70 h ([.int o.1], LY70, o.2) := by
  obtain ⟨R, hR⟩ : ∃ R : List Value × Lay × Hp, R = ([.int o.1], LY70, o.2) := ⟨_, rfl⟩
  rw [← hR]
  refine seg_Bg (pc' := 2) (lv' := [(0, .ref 1), (1, .ref 29)]) (st' := [.int 0, .ref 1]) (lay' := LY70) (h' := h) 2 rfl ?_
  refine put_Bg (pc' := 5) (lv' := [(0, .ref 1), (1, .ref 29)]) (st' := []) (lay' := LY70) (x := hset h 1 3 0) rfl e fun h1 e => ?_
  refine seg_Bg (pc' := 17) (lv' := [(0, .ref 1), (1, .ref 29), (2, .int ((if 60 < (h1 1 2) then 60 else (h1 1 2)) - (1 : Int32)))]) (st' := []) (lay' := LY70) (h' := h1) 7 rfl ?_
  obtain ⟨t13o, et13o, e⟩ := bd_s e
  refine BJfm_value_L17 L xs R (fun (t13 : Int32 × Hp) => (bd (Jfm_pop t13.2) fun c14 => some (c14.1, c14.2)) = some o) (fun t13 e => ?_) 1000000 ((if 60 < (h1 1 2) then 60 else (h1 1 2)) - (1 : Int32), h1) _ et13o e
  refine seg_Bg (pc' := 137) (lv' := [(0, .ref 1), (1, .ref 29), (2, .int t13.1)]) (st' := [.ref 1]) (lay' := LY70) (h' := t13.2) 1 rfl ?_
  refine call_Bg (a := 45) (la := [(0, .ref 1)]) (np := 140) (lv' := [(0, .ref 1), (1, .ref 29), (2, .int t13.1)]) (rest := []) (res := fun r => ([.int r.1], LY70, r.2)) rfl e (fun r e => BJfm_pop L xs t13.2 r e) (fun c14 e => ?_)
  show Bg L xs 43 140 [(0, .ref 1), (1, .ref 29), (2, .int t13.1)] [.int c14.1] LY70 c14.2 R
  rw [hR, ← Option.some.inj e]; exact ret_Bg rfl

set_option maxRecDepth 100000 in
theorem BJfm_clear (L : Nat) (xs : Nat → Int32) (h : Hp) (o : Hp) (e : Jfm_clear h = some o) : Bg L xs 38 0 [(0, .ref 1)] [] LY70 h ([], LY70, o) := by
  obtain ⟨R, hR⟩ : ∃ R : List Value × Lay × Hp, R = ([], LY70, o) := ⟨_, rfl⟩
  rw [← hR]
  refine seg_Bg (pc' := 2) (lv' := [(0, .ref 1)]) (st' := [.int 0, .ref 1]) (lay' := LY70) (h' := h) 2 rfl ?_
  refine put_Bg (pc' := 5) (lv' := [(0, .ref 1)]) (st' := []) (lay' := LY70) (x := hset h 1 2 0) rfl e fun h1 e => ?_
  rw [hR, ← Option.some.inj e]; exact ret_Bg rfl

set_option maxRecDepth 100000 in
theorem BJsh_chosenSet (L : Nat) (xs : Nat → Int32) (h : Hp) (o : Int32) (e : Jsh_chosenSet h = some o) : Bg L xs 78 0 [(0, .ref 29)] [] LY70 h ([.int o], LY70, h) := by
  obtain ⟨R, hR⟩ : ∃ R : List Value × Lay × Hp, R = ([.int o], LY70, h) := ⟨_, rfl⟩
  rw [← hR]
  refine seg_Bg (pc' := 4) (lv' := [(0, .ref 29)]) (st' := [.int (h 29 2)]) (lay' := LY70) (h' := h) 2 rfl ?_
  rw [hR, ← Option.some.inj e]; exact ret_Bg rfl

set_option maxRecDepth 100000 in
theorem BJpa_save_L33_s (L : Nat) (xs : Nat → Int32) (v1 : Int32) (R : List Value × Lay × Hp) (v3 : Int32) (h : Hp) (o : ((Int32 × Hp) ⊕ (Int32 × Hp))) (hH : ∀ s : Int32 × Hp, o = .inl s → Bg L xs 53 33 [(0, .ref 31), (1, .int v1), (2, .ref 29), (3, .int s.1)] [] LY70 s.2 R) (hE : ∀ t : Int32 × Hp, o = .inr t → Bg L xs 53 61 [(0, .ref 31), (1, .int v1), (2, .ref 29), (3, .int t.1)] [] LY70 t.2 R) (e : Jpa_save_L33 v1 v3 h = some o) : Bg L xs 53 33 [(0, .ref 31), (1, .int v1), (2, .ref 29), (3, .int v3)] [] LY70 h R := by
  refine seg_Bg (pc' := (if v3 < 6 then 39 else 61)) (lv' := [(0, .ref 31), (1, .int v1), (2, .ref 29), (3, .int v3)]) (st' := []) (lay' := LY70) (h' := h) 3 rfl ?_
  refine pc_ite e (fun e => ?_) (fun e => ?_)
  · refine seg_Bg (pc' := 51) (lv' := [(0, .ref 31), (1, .int v1), (2, .ref 29), (3, .int v3)]) (st' := [.int v3, .ref 29, .int ((v1 * (6 : Int32)) + v3), .ref 34]) (lay' := LY70) (h' := h) 9 rfl ?_
    refine call_Bg (a := 77) (la := [(0, .ref 29), (1, .int v3)]) (np := 54) (lv' := [(0, .ref 31), (1, .int v1), (2, .ref 29), (3, .int v3)]) (rest := [.int ((v1 * (6 : Int32)) + v3), .ref 34]) (res := fun r => ([.int r], LY70, h)) rfl e (fun r e => BJsh_codeAt L xs v3 h r e) (fun c5 e => ?_)
    show Bg L xs 53 54 [(0, .ref 31), (1, .int v1), (2, .ref 29), (3, .int v3)] [.int c5, .int ((v1 * (6 : Int32)) + v3), .ref 34] LY70 h R
    refine gp_Bg (pc' := 55) (lv' := [(0, .ref 31), (1, .int v1), (2, .ref 29), (3, .int v3)]) (st' := []) (lay' := LY70) (x := hset h 34 (Int32.toNatClampNeg ((v1 * (6 : Int32)) + v3)) c5) (g := ibB ((v1 * (6 : Int32)) + v3) 108) rfl e fun h6 e => ?_
    refine seg_Bg (pc' := 33) (lv' := [(0, .ref 31), (1, .int v1), (2, .ref 29), (3, .int (v3 + 1))]) (st' := []) (lay' := LY70) (h' := h6) 2 rfl ?_
    exact hH (v3 + 1, h6) (Option.some.inj e).symm
  · exact hE (v3, h) (Option.some.inj e).symm
theorem BJpa_save_L33 (L : Nat) (xs : Nat → Int32) (v1 : Int32) (R : List Value × Lay × Hp) (C : (Int32 × Hp) → Prop) (hE : ∀ t : Int32 × Hp, C t → Bg L xs 53 61 [(0, .ref 31), (1, .int v1), (2, .ref 29), (3, .int t.1)] [] LY70 t.2 R) (n : Nat) (s : Int32 × Hp) (o : (Int32 × Hp)) (e : loopN n (fun s => Jpa_save_L33 v1 s.1 s.2) s = some o) (hC : C o) : Bg L xs 53 33 [(0, .ref 31), (1, .int v1), (2, .ref 29), (3, .int s.1)] [] LY70 s.2 R := by
  refine loop_B (fun s => Jpa_save_L33 v1 s.1 s.2) (fun s : Int32 × Hp => Bg L xs 53 33 [(0, .ref 31), (1, .int v1), (2, .ref 29), (3, .int s.1)] [] LY70 s.2 R) C (fun s o e => ?_) n s o e hC
  intro hK
  refine BJpa_save_L33_s L xs v1 R s.1 s.2 o (fun s q => by subst q; exact hK) (fun t q => by subst q; exact hE t hK) e
set_option maxRecDepth 100000 in
theorem BJpa_save (L : Nat) (xs : Nat → Int32) (v1 : Int32) (h : Hp) (o : Hp) (e : Jpa_save v1 h = some o) : Bg L xs 53 0 [(0, .ref 31), (1, .int v1), (2, .ref 29)] [] LY70 h ([], LY70, o) := by
  obtain ⟨R, hR⟩ : ∃ R : List Value × Lay × Hp, R = ([], LY70, o) := ⟨_, rfl⟩
  rw [← hR]
  refine seg_Bg (pc' := (if v1 < 0 then 10 else 4)) (lv' := [(0, .ref 31), (1, .int v1), (2, .ref 29)]) (st' := []) (lay' := LY70) (h' := h) 2 rfl ?_
  refine pc_ite e (fun e => ?_) (fun e => ?_)
  · rw [hR, ← Option.some.inj e]; exact ret_Bg rfl
  · refine seg_Bg (pc' := (if v1 < 18 then 11 else 10)) (lv' := [(0, .ref 31), (1, .int v1), (2, .ref 29)]) (st' := []) (lay' := LY70) (h' := h) 3 rfl ?_
    refine pc_ite e (fun e => ?_) (fun e => ?_)
    · refine seg_Bg (pc' := 17) (lv' := [(0, .ref 31), (1, .int v1), (2, .ref 29)]) (st' := [.ref 29, .int v1, .ref 32]) (lay' := LY70) (h' := h) 4 rfl ?_
      refine call_Bg (a := 74) (la := [(0, .ref 29)]) (np := 20) (lv' := [(0, .ref 31), (1, .int v1), (2, .ref 29)]) (rest := [.int v1, .ref 32]) (res := fun r => ([.int r], LY70, h)) rfl e (fun r e => BJsh_size L xs h r e) (fun c1 e => ?_)
      show Bg L xs 53 20 [(0, .ref 31), (1, .int v1), (2, .ref 29)] [.int c1, .int v1, .ref 32] LY70 h R
      refine gp_Bg (pc' := 21) (lv' := [(0, .ref 31), (1, .int v1), (2, .ref 29)]) (st' := []) (lay' := LY70) (x := hset h 32 (Int32.toNatClampNeg v1) c1) (g := ibB v1 18) rfl e fun h2 e => ?_
      refine seg_Bg (pc' := 27) (lv' := [(0, .ref 31), (1, .int v1), (2, .ref 29)]) (st' := [.ref 29, .int v1, .ref 33]) (lay' := LY70) (h' := h2) 4 rfl ?_
      refine call_Bg (a := 78) (la := [(0, .ref 29)]) (np := 30) (lv' := [(0, .ref 31), (1, .int v1), (2, .ref 29)]) (rest := [.int v1, .ref 33]) (res := fun r => ([.int r], LY70, h2)) rfl e (fun r e => BJsh_chosenSet L xs h2 r e) (fun c3 e => ?_)
      show Bg L xs 53 30 [(0, .ref 31), (1, .int v1), (2, .ref 29)] [.int c3, .int v1, .ref 33] LY70 h2 R
      refine gp_Bg (pc' := 31) (lv' := [(0, .ref 31), (1, .int v1), (2, .ref 29)]) (st' := []) (lay' := LY70) (x := hset h2 33 (Int32.toNatClampNeg v1) c3) (g := ibB v1 18) rfl e fun h4 e => ?_
      refine seg_Bg (pc' := 33) (lv' := [(0, .ref 31), (1, .int v1), (2, .ref 29), (3, .int 0)]) (st' := []) (lay' := LY70) (h' := h4) 2 rfl ?_
      obtain ⟨t7o, et7o, e⟩ := bd_s e
      refine BJpa_save_L33 L xs v1 R (fun (t7 : Int32 × Hp) => (some t7.2) = some o) (fun t7 e => ?_) 1000000 (0, h4) _ et7o e
      rw [hR, ← Option.some.inj e]; exact ret_Bg rfl
    · rw [hR, ← Option.some.inj e]; exact ret_Bg rfl

set_option maxRecDepth 100000 in
theorem BJpa_push (L : Nat) (xs : Nat → Int32) (h : Hp) (o : Hp) (e : Jpa_push h = some o) : Bg L xs 51 0 [(0, .ref 31), (1, .ref 29)] [] LY70 h ([], LY70, o) := by
  obtain ⟨R, hR⟩ : ∃ R : List Value × Lay × Hp, R = ([], LY70, o) := ⟨_, rfl⟩
  rw [← hR]
  refine seg_Bg (pc' := 6) (lv' := [(0, .ref 31), (1, .ref 29)]) (st' := [.ref 29, .int (h 31 4), .ref 31]) (lay' := LY70) (h' := h) 4 rfl ?_
  refine call_Bg (a := 53) (la := [(0, .ref 31), (1, .int (h 31 4)), (2, .ref 29)]) (np := 9) (lv' := [(0, .ref 31), (1, .ref 29)]) (rest := []) (res := fun r => ([], LY70, r)) rfl e (fun r e => BJpa_save L xs (h 31 4) h r e) (fun c1 e => ?_)
  show Bg L xs 51 9 [(0, .ref 31), (1, .ref 29)] [] LY70 c1 R
  refine seg_Bg (pc' := 19) (lv' := [(0, .ref 31), (1, .ref 29)]) (st' := [.int (((c1 31 4) + (1 : Int32)) - ((c1 31 4) + (1 : Int32)) / 16 * 16), .ref 31]) (lay' := LY70) (h' := c1) 7 rfl ?_
  refine put_Bg (pc' := 22) (lv' := [(0, .ref 31), (1, .ref 29)]) (st' := []) (lay' := LY70) (x := hset c1 31 4 (((c1 31 4) + (1 : Int32)) - ((c1 31 4) + (1 : Int32)) / 16 * 16)) rfl e fun h2 e => ?_
  refine seg_Bg (pc' := 34) (lv' := [(0, .ref 31), (1, .ref 29)]) (st' := [.int (if 16 < ((h2 31 3) + (1 : Int32)) then 16 else ((h2 31 3) + (1 : Int32))), .ref 31]) (lay' := LY70) (h' := h2) 7 rfl ?_
  refine put_Bg (pc' := 37) (lv' := [(0, .ref 31), (1, .ref 29)]) (st' := []) (lay' := LY70) (x := hset h2 31 3 (if 16 < ((h2 31 3) + (1 : Int32)) then 16 else ((h2 31 3) + (1 : Int32)))) rfl e fun h3 e => ?_
  rw [hR, ← Option.some.inj e]; exact ret_Bg rfl

set_option maxRecDepth 100000 in
theorem BJsh_add (L : Nat) (xs : Nat → Int32) (v1 : Int32) (h : Hp) (o : Int32 × Hp) (e : Jsh_add v1 h = some o) : Bg L xs 80 0 [(0, .ref 29), (1, .int v1)] [] LY70 h ([.int o.1], LY70, o.2) := by
  obtain ⟨R, hR⟩ : ∃ R : List Value × Lay × Hp, R = ([.int o.1], LY70, o.2) := ⟨_, rfl⟩
  rw [← hR]
  refine seg_Bg (pc' := (if (h 29 1) < 0 then 16 else 7)) (lv' := [(0, .ref 29), (1, .int v1)]) (st' := []) (lay' := LY70) (h' := h) 3 rfl ?_
  refine pc_ite e (fun e => ?_) (fun e => ?_)
  · refine seg_Bg (pc' := 17) (lv' := [(0, .ref 29), (1, .int v1)]) (st' := [.int (-1)]) (lay' := LY70) (h' := h) 1 rfl ?_
    rw [hR, ← Option.some.inj e]; exact ret_Bg rfl
  · refine seg_Bg (pc' := (if (h 29 1) < 6 then 18 else 16)) (lv' := [(0, .ref 29), (1, .int v1)]) (st' := []) (lay' := LY70) (h' := h) 4 rfl ?_
    refine pc_ite e (fun e => ?_) (fun e => ?_)
    · refine seg_Bg (pc' := 27) (lv' := [(0, .ref 29), (1, .int v1)]) (st' := [.int v1, .int (h 29 1), .ref 30]) (lay' := LY70) (h' := h) 5 rfl ?_
      refine gp_Bg (pc' := 28) (lv' := [(0, .ref 29), (1, .int v1)]) (st' := []) (lay' := LY70) (x := hset h 30 (Int32.toNatClampNeg (h 29 1)) v1) (g := ibB (h 29 1) 6) rfl e fun h1 e => ?_
      refine seg_Bg (pc' := 35) (lv' := [(0, .ref 29), (1, .int v1)]) (st' := [.int ((h1 29 1) + (1 : Int32)), .ref 29]) (lay' := LY70) (h' := h1) 5 rfl ?_
      refine put_Bg (pc' := 38) (lv' := [(0, .ref 29), (1, .int v1)]) (st' := []) (lay' := LY70) (x := hset h1 29 1 ((h1 29 1) + (1 : Int32))) rfl e fun h2 e => ?_
      refine seg_Bg (pc' := 44) (lv' := [(0, .ref 29), (1, .int v1)]) (st' := [.int ((h2 29 1) - (1 : Int32))]) (lay' := LY70) (h' := h2) 4 rfl ?_
      rw [hR, ← Option.some.inj e]; exact ret_Bg rfl
    · refine seg_Bg (pc' := 17) (lv' := [(0, .ref 29), (1, .int v1)]) (st' := [.int (-1)]) (lay' := LY70) (h' := h) 1 rfl ?_
      rw [hR, ← Option.some.inj e]; exact ret_Bg rfl

set_option maxRecDepth 100000 in
theorem BJfm_reached (L : Nat) (xs : Nat → Int32) (h : Hp) (o : Int32) (e : Jfm_reached h = some o) : Bg L xs 40 0 [(0, .ref 1)] [] LY70 h ([.int o], LY70, h) := by
  obtain ⟨R, hR⟩ : ∃ R : List Value × Lay × Hp, R = ([.int o], LY70, h) := ⟨_, rfl⟩
  rw [← hR]
  refine seg_Bg (pc' := 4) (lv' := [(0, .ref 1)]) (st' := [.int (h 1 4)]) (lay' := LY70) (h' := h) 2 rfl ?_
  rw [hR, ← Option.some.inj e]; exact ret_Bg rfl

set_option maxRecDepth 100000 in
theorem BJyn_tell_J64 (L : Nat) (xs : Nat → Int32) (v1 v2 s1 : Int32) (h : Hp) (o : (Int32 × Hp)) (e : Jyn_tell_J64 v1 v2 s1 h = some o) (R : List Value × Lay × Hp) (hR : R = ([.int o.1], LY70, o.2)) : Bg L xs 113 64 [(0, .ref 0), (1, .int v1), (2, .int v2)] [.int s1, .ref 0] LY70 h R := by
  refine put_Bg (pc' := 67) (lv' := [(0, .ref 0), (1, .int v1), (2, .int v2)]) (st' := []) (lay' := LY70) (x := hset h 0 9 s1) rfl e fun h5 e => ?_
  refine seg_Bg (pc' := 71) (lv' := [(0, .ref 0), (1, .int v1), (2, .int v2)]) (st' := [.ref 1]) (lay' := LY70) (h' := h5) 2 rfl ?_
  refine call_Bg (a := 38) (la := [(0, .ref 1)]) (np := 74) (lv' := [(0, .ref 0), (1, .int v1), (2, .int v2)]) (rest := []) (res := fun r => ([], LY70, r)) rfl e (fun r e => BJfm_clear L xs h5 r e) (fun c6 e => ?_)
  show Bg L xs 113 74 [(0, .ref 0), (1, .int v1), (2, .int v2)] [] LY70 c6 R
  refine seg_Bg (pc' := (if v1 = 0 then 83 else 78)) (lv' := [(0, .ref 0), (1, .int v1), (2, .int v2)]) (st' := []) (lay' := LY70) (h' := c6) 2 rfl ?_
  refine pc_ite e (fun e => ?_) (fun e => ?_)
  · refine seg_Bg (pc' := 91) (lv' := [(0, .ref 0), (1, .int v1), (2, .int v2)]) (st' := [.ref 29, .ref 31]) (lay' := LY70) (h' := c6) 4 rfl ?_
    refine call_Bg (a := 51) (la := [(0, .ref 31), (1, .ref 29)]) (np := 94) (lv' := [(0, .ref 0), (1, .int v1), (2, .int v2)]) (rest := []) (res := fun r => ([], LY70, r)) rfl e (fun r e => BJpa_push L xs c6 r e) (fun c7 e => ?_)
    show Bg L xs 113 94 [(0, .ref 0), (1, .int v1), (2, .int v2)] [] LY70 c7 R
    refine seg_Bg (pc' := 99) (lv' := [(0, .ref 0), (1, .int v1), (2, .int v2)]) (st' := [.int v2, .ref 29]) (lay' := LY70) (h' := c7) 3 rfl ?_
    refine call_Bg (a := 80) (la := [(0, .ref 29), (1, .int v2)]) (np := 102) (lv' := [(0, .ref 0), (1, .int v1), (2, .int v2)]) (rest := []) (res := fun r => ([.int r.1], LY70, r.2)) rfl e (fun r e => BJsh_add L xs v2 c7 r e) (fun c8 e => ?_)
    show Bg L xs 113 102 [(0, .ref 0), (1, .int v1), (2, .int v2)] [.int c8.1] LY70 c8.2 R
    rw [hR, ← Option.some.inj e]; exact ret_Bg rfl
  · refine seg_Bg (pc' := 82) (lv' := [(0, .ref 0), (1, .int v1), (2, .int v2)]) (st' := [.int ((-10 : Int32) - v1)]) (lay' := LY70) (h' := c6) 3 rfl ?_
    rw [hR, ← Option.some.inj e]; exact ret_Bg rfl
set_option maxRecDepth 100000 in
theorem BJyn_tell_J47 (L : Nat) (xs : Nat → Int32) (v1 s0 : Int32) (h : Hp) (o : (Int32 × Hp)) (e : Jyn_tell_J47 v1 s0 h = some o) (R : List Value × Lay × Hp) (hR : R = ([.int o.1], LY70, o.2)) : Bg L xs 113 47 [(0, .ref 0), (1, .int v1)] [.int s0] LY70 h R := by
  refine seg_Bg (pc' := (if v1 = 0 then 53 else 57)) (lv' := [(0, .ref 0), (1, .int v1), (2, .int s0)]) (st' := [.ref 0]) (lay' := LY70) (h' := h) 4 rfl ?_
  refine pc_ite e (fun e => ?_) (fun e => ?_)
  · refine seg_Bg (pc' := 64) (lv' := [(0, .ref 0), (1, .int v1), (2, .int s0)]) (st' := [.int (-1), .ref 0]) (lay' := LY70) (h' := h) 2 rfl ?_
    exact BJyn_tell_J64 L xs v1 s0 (-1) h o e R hR
  · refine seg_Bg (pc' := 61) (lv' := [(0, .ref 0), (1, .int v1), (2, .int s0)]) (st' := [.ref 1, .ref 0]) (lay' := LY70) (h' := h) 2 rfl ?_
    refine call_Bg (a := 40) (la := [(0, .ref 1)]) (np := 64) (lv' := [(0, .ref 0), (1, .int v1), (2, .int s0)]) (rest := [.ref 0]) (res := fun r => ([.int r], LY70, h)) rfl e (fun r e => BJfm_reached L xs h r e) (fun c9 e => ?_)
    show Bg L xs 113 64 [(0, .ref 0), (1, .int v1), (2, .int s0)] [.int c9, .ref 0] LY70 h R
    refine put_Bg (pc' := 67) (lv' := [(0, .ref 0), (1, .int v1), (2, .int s0)]) (st' := []) (lay' := LY70) (x := hset h 0 9 c9) rfl e fun h10 e => ?_
    refine seg_Bg (pc' := 71) (lv' := [(0, .ref 0), (1, .int v1), (2, .int s0)]) (st' := [.ref 1]) (lay' := LY70) (h' := h10) 2 rfl ?_
    refine call_Bg (a := 38) (la := [(0, .ref 1)]) (np := 74) (lv' := [(0, .ref 0), (1, .int v1), (2, .int s0)]) (rest := []) (res := fun r => ([], LY70, r)) rfl e (fun r e => BJfm_clear L xs h10 r e) (fun c11 e => ?_)
    show Bg L xs 113 74 [(0, .ref 0), (1, .int v1), (2, .int s0)] [] LY70 c11 R
    refine seg_Bg (pc' := (if v1 = 0 then 83 else 78)) (lv' := [(0, .ref 0), (1, .int v1), (2, .int s0)]) (st' := []) (lay' := LY70) (h' := c11) 2 rfl ?_
    refine pc_ite e (fun e => ?_) (fun e => ?_)
    · refine seg_Bg (pc' := 91) (lv' := [(0, .ref 0), (1, .int v1), (2, .int s0)]) (st' := [.ref 29, .ref 31]) (lay' := LY70) (h' := c11) 4 rfl ?_
      refine call_Bg (a := 51) (la := [(0, .ref 31), (1, .ref 29)]) (np := 94) (lv' := [(0, .ref 0), (1, .int v1), (2, .int s0)]) (rest := []) (res := fun r => ([], LY70, r)) rfl e (fun r e => BJpa_push L xs c11 r e) (fun c12 e => ?_)
      show Bg L xs 113 94 [(0, .ref 0), (1, .int v1), (2, .int s0)] [] LY70 c12 R
      refine seg_Bg (pc' := 99) (lv' := [(0, .ref 0), (1, .int v1), (2, .int s0)]) (st' := [.int s0, .ref 29]) (lay' := LY70) (h' := c12) 3 rfl ?_
      refine call_Bg (a := 80) (la := [(0, .ref 29), (1, .int s0)]) (np := 102) (lv' := [(0, .ref 0), (1, .int v1), (2, .int s0)]) (rest := []) (res := fun r => ([.int r.1], LY70, r.2)) rfl e (fun r e => BJsh_add L xs s0 c12 r e) (fun c13 e => ?_)
      show Bg L xs 113 102 [(0, .ref 0), (1, .int v1), (2, .int s0)] [.int c13.1] LY70 c13.2 R
      rw [hR, ← Option.some.inj e]; exact ret_Bg rfl
    · refine seg_Bg (pc' := 82) (lv' := [(0, .ref 0), (1, .int v1), (2, .int s0)]) (st' := [.int ((-10 : Int32) - v1)]) (lay' := LY70) (h' := c11) 3 rfl ?_
      rw [hR, ← Option.some.inj e]; exact ret_Bg rfl
set_option maxRecDepth 100000 in
theorem BJyn_tell (L : Nat) (xs : Nat → Int32) (h : Hp) (o : Int32 × Hp) (e : Jyn_tell h = some o) : Bg L xs 113 0 [(0, .ref 0)] [] LY70 h ([.int o.1], LY70, o.2) := by
  obtain ⟨R, hR⟩ : ∃ R : List Value × Lay × Hp, R = ([.int o.1], LY70, o.2) := ⟨_, rfl⟩
  rw [← hR]
  refine seg_Bg (pc' := 4) (lv' := [(0, .ref 0)]) (st' := [.ref 29]) (lay' := LY70) (h' := h) 2 rfl ?_
  refine call_Bg (a := 75) (la := [(0, .ref 29)]) (np := 7) (lv' := [(0, .ref 0)]) (rest := []) (res := fun r => ([.int r], LY70, h)) rfl e (fun r e => BJsh_isFull L xs h r e) (fun c1 e => ?_)
  show Bg L xs 113 7 [(0, .ref 0)] [.int c1] LY70 h R
  refine seg_Bg (pc' := (if c1 = 0 then 13 else 10)) (lv' := [(0, .ref 0)]) (st' := []) (lay' := LY70) (h' := h) 1 rfl ?_
  refine pc_ite e (fun e => ?_) (fun e => ?_)
  · refine seg_Bg (pc' := 21) (lv' := [(0, .ref 0)]) (st' := [.ref 29, .ref 1]) (lay' := LY70) (h' := h) 4 rfl ?_
    refine call_Bg (a := 74) (la := [(0, .ref 29)]) (np := 24) (lv' := [(0, .ref 0)]) (rest := [.ref 1]) (res := fun r => ([.int r], LY70, h)) rfl e (fun r e => BJsh_size L xs h r e) (fun c2 e => ?_)
    show Bg L xs 113 24 [(0, .ref 0)] [.int c2, .ref 1] LY70 h R
    refine call_Bg (a := 41) (la := [(0, .ref 1), (1, .int c2)]) (np := 27) (lv' := [(0, .ref 0)]) (rest := []) (res := fun r => ([.int r.1], LY70, r.2)) rfl e (fun r e => BJfm_firstFault L xs c2 h r e) (fun c3 e => ?_)
    show Bg L xs 113 27 [(0, .ref 0)] [.int c3.1] LY70 c3.2 R
    refine seg_Bg (pc' := (if c3.1 = 0 then 32 else 46)) (lv' := [(0, .ref 0), (1, .int c3.1)]) (st' := []) (lay' := LY70) (h' := c3.2) 3 rfl ?_
    refine pc_ite e (fun e => ?_) (fun e => ?_)
    · refine seg_Bg (pc' := 40) (lv' := [(0, .ref 0), (1, .int c3.1)]) (st' := [.ref 29, .ref 1]) (lay' := LY70) (h' := c3.2) 4 rfl ?_
      refine call_Bg (a := 43) (la := [(0, .ref 1), (1, .ref 29)]) (np := 43) (lv' := [(0, .ref 0), (1, .int c3.1)]) (rest := []) (res := fun r => ([.int r.1], LY70, r.2)) rfl e (fun r e => BJfm_value L xs c3.2 r e) (fun c4 e => ?_)
      show Bg L xs 113 43 [(0, .ref 0), (1, .int c3.1)] [.int c4.1] LY70 c4.2 R
      refine seg_Bg (pc' := 47) (lv' := [(0, .ref 0), (1, .int c3.1)]) (st' := [.int c4.1]) (lay' := LY70) (h' := c4.2) 1 rfl ?_
      exact BJyn_tell_J47 L xs c3.1 c4.1 c4.2 o e R hR
    · refine seg_Bg (pc' := 47) (lv' := [(0, .ref 0), (1, .int c3.1)]) (st' := [.int 0]) (lay' := LY70) (h' := c3.2) 1 rfl ?_
      exact BJyn_tell_J47 L xs c3.1 0 c3.2 o e R hR
  · refine seg_Bg (pc' := 12) (lv' := [(0, .ref 0)]) (st' := [.int (-1000000004)]) (lay' := LY70) (h' := h) 1 rfl ?_
    rw [hR, ← Option.some.inj e]; exact ret_Bg rfl

set_option maxRecDepth 100000 in
theorem BJpl_traitsOf (L : Nat) (xs : Nat → Int32) (v1 : Int32) (h : Hp) (o : Int32) (e : Jpl_traitsOf v1 h = some o) : Bg L xs 59 0 [(0, .ref 4), (1, .int v1)] [] LY70 h ([.int o], LY70, h) := by
  obtain ⟨R, hR⟩ : ∃ R : List Value × Lay × Hp, R = ([.int o], LY70, h) := ⟨_, rfl⟩
  rw [← hR]
  refine seg_Bg (pc' := 9) (lv' := [(0, .ref 4), (1, .int v1)]) (st' := [.int (v1 &&& (255 : Int32)), .ref 5]) (lay' := LY70) (h' := h) 5 rfl ?_
  refine gd_Bg (pc' := 10) (lv' := [(0, .ref 4), (1, .int v1)]) (st' := [.int (h 5 (Int32.toNatClampNeg (v1 &&& (255 : Int32))))]) (lay' := LY70) (h' := h) (g := ibB (v1 &&& (255 : Int32)) 256) rfl e fun e => ?_
  rw [hR, ← Option.some.inj e]; exact ret_Bg rfl

set_option maxRecDepth 100000 in
theorem BJyn_commonOf_L6_s (L : Nat) (xs : Nat → Int32) (v1 : Int32) (h : Hp) (R : List Value × Lay × Hp) (v2 v3 : Int32) (o : ((Int32 × Int32) ⊕ (Int32 × Int32))) (hH : ∀ s : Int32 × Int32, o = .inl s → Bg L xs 124 6 [(0, .ref 0), (1, .int v1), (2, .int s.1), (3, .int s.2)] [] LY70 h R) (hE : ∀ t : Int32 × Int32, o = .inr t → Bg L xs 124 49 [(0, .ref 0), (1, .int v1), (2, .int t.1), (3, .int t.2)] [] LY70 h R) (e : Jyn_commonOf_L6 v1 h v2 v3 = some o) : Bg L xs 124 6 [(0, .ref 0), (1, .int v1), (2, .int v2), (3, .int v3)] [] LY70 h R := by
  refine seg_Bg (pc' := 11) (lv' := [(0, .ref 0), (1, .int v1), (2, .int v2), (3, .int v3)]) (st' := [.ref 29, .int v3]) (lay' := LY70) (h' := h) 3 rfl ?_
  refine call_Bg (a := 74) (la := [(0, .ref 29)]) (np := 14) (lv' := [(0, .ref 0), (1, .int v1), (2, .int v2), (3, .int v3)]) (rest := [.int v3]) (res := fun r => ([.int r], LY70, h)) rfl e (fun r e => BJsh_size L xs h r e) (fun c1 e => ?_)
  show Bg L xs 124 14 [(0, .ref 0), (1, .int v1), (2, .int v2), (3, .int v3)] [.int c1, .int v3] LY70 h R
  refine seg_Bg (pc' := (if v3 < c1 then 17 else 49)) (lv' := [(0, .ref 0), (1, .int v1), (2, .int v2), (3, .int v3)]) (st' := []) (lay' := LY70) (h' := h) 1 rfl ?_
  refine pc_ite e (fun e => ?_) (fun e => ?_)
  · refine seg_Bg (pc' := (if ((v1 >>> (v3 &&& 31) : Int32) &&& (1 : Int32)) = 0 then 43 else 25)) (lv' := [(0, .ref 0), (1, .int v1), (2, .int v2), (3, .int v3)]) (st' := []) (lay' := LY70) (h' := h) 6 rfl ?_
    refine pc_ite e (fun e => ?_) (fun e => ?_)
    · refine seg_Bg (pc' := 6) (lv' := [(0, .ref 0), (1, .int v1), (2, .int v2), (3, .int (v3 + 1))]) (st' := []) (lay' := LY70) (h' := h) 2 rfl ?_
      exact hH (v2, v3 + 1) (Option.some.inj e).symm
    · refine seg_Bg (pc' := 35) (lv' := [(0, .ref 0), (1, .int v1), (2, .int v2), (3, .int v3)]) (st' := [.int v3, .ref 29, .ref 4, .int v2]) (lay' := LY70) (h' := h) 6 rfl ?_
      refine call_Bg (a := 77) (la := [(0, .ref 29), (1, .int v3)]) (np := 38) (lv' := [(0, .ref 0), (1, .int v1), (2, .int v2), (3, .int v3)]) (rest := [.ref 4, .int v2]) (res := fun r => ([.int r], LY70, h)) rfl e (fun r e => BJsh_codeAt L xs v3 h r e) (fun c2 e => ?_)
      show Bg L xs 124 38 [(0, .ref 0), (1, .int v1), (2, .int v2), (3, .int v3)] [.int c2, .ref 4, .int v2] LY70 h R
      refine call_Bg (a := 59) (la := [(0, .ref 4), (1, .int c2)]) (np := 41) (lv' := [(0, .ref 0), (1, .int v1), (2, .int v2), (3, .int v3)]) (rest := [.int v2]) (res := fun r => ([.int r], LY70, h)) rfl e (fun r e => BJpl_traitsOf L xs c2 h r e) (fun c3 e => ?_)
      show Bg L xs 124 41 [(0, .ref 0), (1, .int v1), (2, .int v2), (3, .int v3)] [.int c3, .int v2] LY70 h R
      refine seg_Bg (pc' := 6) (lv' := [(0, .ref 0), (1, .int v1), (2, .int (v2 &&& c3)), (3, .int (v3 + 1))]) (st' := []) (lay' := LY70) (h' := h) 4 rfl ?_
      exact hH (v2 &&& c3, v3 + 1) (Option.some.inj e).symm
  · exact hE (v2, v3) (Option.some.inj e).symm
theorem BJyn_commonOf_L6 (L : Nat) (xs : Nat → Int32) (v1 : Int32) (h : Hp) (R : List Value × Lay × Hp) (C : (Int32 × Int32) → Prop) (hE : ∀ t : Int32 × Int32, C t → Bg L xs 124 49 [(0, .ref 0), (1, .int v1), (2, .int t.1), (3, .int t.2)] [] LY70 h R) (n : Nat) (s : Int32 × Int32) (o : (Int32 × Int32)) (e : loopN n (fun s => Jyn_commonOf_L6 v1 h s.1 s.2) s = some o) (hC : C o) : Bg L xs 124 6 [(0, .ref 0), (1, .int v1), (2, .int s.1), (3, .int s.2)] [] LY70 h R := by
  refine loop_B (fun s => Jyn_commonOf_L6 v1 h s.1 s.2) (fun s : Int32 × Int32 => Bg L xs 124 6 [(0, .ref 0), (1, .int v1), (2, .int s.1), (3, .int s.2)] [] LY70 h R) C (fun s o e => ?_) n s o e hC
  intro hK
  refine BJyn_commonOf_L6_s L xs v1 h R s.1 s.2 o (fun s q => by subst q; exact hK) (fun t q => by subst q; exact hE t hK) e
set_option maxRecDepth 100000 in
theorem BJyn_commonOf (L : Nat) (xs : Nat → Int32) (v1 : Int32) (h : Hp) (o : Int32) (e : Jyn_commonOf v1 h = some o) : Bg L xs 124 0 [(0, .ref 0), (1, .int v1)] [] LY70 h ([.int o], LY70, h) := by
  obtain ⟨R, hR⟩ : ∃ R : List Value × Lay × Hp, R = ([.int o], LY70, h) := ⟨_, rfl⟩
  rw [← hR]
  refine seg_Bg (pc' := 6) (lv' := [(0, .ref 0), (1, .int v1), (2, .int 4095), (3, .int 0)]) (st' := []) (lay' := LY70) (h' := h) 4 rfl ?_
  obtain ⟨t4o, et4o, e⟩ := bd_s e
  refine BJyn_commonOf_L6 L xs v1 h R (fun (t4 : Int32 × Int32) => (some t4.1) = some o) (fun t4 e => ?_) 1000000 (4095, 0) _ et4o e
  refine seg_Bg (pc' := 50) (lv' := [(0, .ref 0), (1, .int v1), (2, .int t4.1), (3, .int t4.2)]) (st' := [.int t4.1]) (lay' := LY70) (h' := h) 1 rfl ?_
  rw [hR, ← Option.some.inj e]; exact ret_Bg rfl

set_option maxRecDepth 100000 in
theorem BJyn_common (L : Nat) (xs : Nat → Int32) (h : Hp) (o : Int32) (e : Jyn_common h = some o) : Bg L xs 123 0 [(0, .ref 0)] [] LY70 h ([.int o], LY70, h) := by
  obtain ⟨R, hR⟩ : ∃ R : List Value × Lay × Hp, R = ([.int o], LY70, h) := ⟨_, rfl⟩
  rw [← hR]
  refine seg_Bg (pc' := 5) (lv' := [(0, .ref 0)]) (st' := [.ref 29, .ref 0]) (lay' := LY70) (h' := h) 3 rfl ?_
  refine call_Bg (a := 78) (la := [(0, .ref 29)]) (np := 8) (lv' := [(0, .ref 0)]) (rest := [.ref 0]) (res := fun r => ([.int r], LY70, h)) rfl e (fun r e => BJsh_chosenSet L xs h r e) (fun c1 e => ?_)
  show Bg L xs 123 8 [(0, .ref 0)] [.int c1, .ref 0] LY70 h R
  refine call_Bg (a := 124) (la := [(0, .ref 0), (1, .int c1)]) (np := 11) (lv' := [(0, .ref 0)]) (rest := []) (res := fun r => ([.int r], LY70, h)) rfl e (fun r e => BJyn_commonOf L xs c1 h r e) (fun c2 e => ?_)
  show Bg L xs 123 11 [(0, .ref 0)] [.int c2] LY70 h R
  rw [hR, ← Option.some.inj e]; exact ret_Bg rfl

set_option maxRecDepth 100000 in
theorem BJpl_numberOf (L : Nat) (xs : Nat → Int32) (v1 : Int32) (h : Hp) (o : Int32) (e : Jpl_numberOf v1 h = some o) : Bg L xs 60 0 [(0, .ref 4), (1, .int v1)] [] LY70 h ([.int o], LY70, h) := by
  obtain ⟨R, hR⟩ : ∃ R : List Value × Lay × Hp, R = ([.int o], LY70, h) := ⟨_, rfl⟩
  rw [← hR]
  refine seg_Bg (pc' := 9) (lv' := [(0, .ref 4), (1, .int v1)]) (st' := [.int (v1 &&& (4095 : Int32)), .ref 7]) (lay' := LY70) (h' := h) 5 rfl ?_
  refine gd_Bg (pc' := 10) (lv' := [(0, .ref 4), (1, .int v1)]) (st' := [.int (h 7 (Int32.toNatClampNeg (v1 &&& (4095 : Int32))))]) (lay' := LY70) (h' := h) (g := ibB (v1 &&& (4095 : Int32)) 4096) rfl e fun e => ?_
  rw [hR, ← Option.some.inj e]; exact ret_Bg rfl

set_option maxRecDepth 100000 in
theorem BJwy_costs (L : Nat) (xs : Nat → Int32) (h : Hp) (o : Unit) (e : Jwy_costs h = some o) : Bg L xs 96 0 [(0, .ref 9)] [] LY70 h ([.ref 10], LY70, h) := by
  obtain ⟨R, hR⟩ : ∃ R : List Value × Lay × Hp, R = ([.ref 10], LY70, h) := ⟨_, rfl⟩
  rw [← hR]
  refine seg_Bg (pc' := 4) (lv' := [(0, .ref 9)]) (st' := [.ref 10]) (lay' := LY70) (h' := h) 2 rfl ?_
  rw [hR]; exact ret_Bg rfl

set_option maxRecDepth 100000 in
theorem BJsh_isChosen (L : Nat) (xs : Nat → Int32) (v1 : Int32) (h : Hp) (o : Int32) (e : Jsh_isChosen v1 h = some o) : Bg L xs 79 0 [(0, .ref 29), (1, .int v1)] [] LY70 h ([.int o], LY70, h) := by
  obtain ⟨R, hR⟩ : ∃ R : List Value × Lay × Hp, R = ([.int o], LY70, h) := ⟨_, rfl⟩
  rw [← hR]
  refine seg_Bg (pc' := 2) (lv' := [(0, .ref 29), (1, .int v1)]) (st' := [.int v1, .ref 29]) (lay' := LY70) (h' := h) 2 rfl ?_
  refine call_Bg (a := 76) (la := [(0, .ref 29), (1, .int v1)]) (np := 5) (lv' := [(0, .ref 29), (1, .int v1)]) (rest := []) (res := fun r => ([.int r], LY70, h)) rfl e (fun r e => BJsh_holds L xs v1 h r e) (fun c1 e => ?_)
  show Bg L xs 79 5 [(0, .ref 29), (1, .int v1)] [.int c1] LY70 h R
  refine seg_Bg (pc' := (if c1 = 0 then 23 else 8)) (lv' := [(0, .ref 29), (1, .int v1)]) (st' := []) (lay' := LY70) (h' := h) 1 rfl ?_
  refine pc_ite e (fun e => ?_) (fun e => ?_)
  · refine seg_Bg (pc' := 24) (lv' := [(0, .ref 29), (1, .int v1)]) (st' := [.int 0]) (lay' := LY70) (h' := h) 1 rfl ?_
    rw [hR, ← Option.some.inj e]; exact ret_Bg rfl
  · refine seg_Bg (pc' := (if (((h 29 2) >>> (v1 &&& 31) : Int32) &&& (1 : Int32)) = 0 then 23 else 19)) (lv' := [(0, .ref 29), (1, .int v1)]) (st' := []) (lay' := LY70) (h' := h) 7 rfl ?_
    refine pc_ite e (fun e => ?_) (fun e => ?_)
    · refine seg_Bg (pc' := 24) (lv' := [(0, .ref 29), (1, .int v1)]) (st' := [.int 0]) (lay' := LY70) (h' := h) 1 rfl ?_
      rw [hR, ← Option.some.inj e]; exact ret_Bg rfl
    · refine seg_Bg (pc' := 24) (lv' := [(0, .ref 29), (1, .int v1)]) (st' := [.int 1]) (lay' := LY70) (h' := h) 2 rfl ?_
      rw [hR, ← Option.some.inj e]; exact ret_Bg rfl

set_option maxRecDepth 100000 in
theorem BJcs_areOf_L15_s (L : Nat) (xs : Nat → Int32) (h : Hp) (R : List Value × Lay × Hp) (v2 : Int32) (o : ((Int32) ⊕ ((Int32) ⊕ (Int32)))) (hH : ∀ s : Int32, o = .inl s → Bg L xs 14 15 [(0, .ref 10), (1, .ref 29), (2, .int s)] [] LY70 h R) (hE : ∀ t : Int32, o = .inr (.inl t) → Bg L xs 14 51 [(0, .ref 10), (1, .ref 29), (2, .int t)] [] LY70 h R) (hR : ∀ r : Int32, o = .inr (.inr r) → R = ([.int r], LY70, h)) (e : Jcs_areOf_L15 h v2 = some o) : Bg L xs 14 15 [(0, .ref 10), (1, .ref 29), (2, .int v2)] [] LY70 h R := by
  refine seg_Bg (pc' := (if v2 < 6 then 21 else 51)) (lv' := [(0, .ref 10), (1, .ref 29), (2, .int v2)]) (st' := []) (lay' := LY70) (h' := h) 3 rfl ?_
  refine pc_ite e (fun e => ?_) (fun e => ?_)
  · refine seg_Bg (pc' := 23) (lv' := [(0, .ref 10), (1, .ref 29), (2, .int v2)]) (st' := [.int v2, .ref 29]) (lay' := LY70) (h' := h) 2 rfl ?_
    refine call_Bg (a := 79) (la := [(0, .ref 29), (1, .int v2)]) (np := 26) (lv' := [(0, .ref 10), (1, .ref 29), (2, .int v2)]) (rest := []) (res := fun r => ([.int r], LY70, h)) rfl e (fun r e => BJsh_isChosen L xs v2 h r e) (fun c2 e => ?_)
    show Bg L xs 14 26 [(0, .ref 10), (1, .ref 29), (2, .int v2)] [.int c2] LY70 h R
    refine seg_Bg (pc' := (if c2 = 0 then 45 else 29)) (lv' := [(0, .ref 10), (1, .ref 29), (2, .int v2)]) (st' := []) (lay' := LY70) (h' := h) 1 rfl ?_
    refine pc_ite e (fun e => ?_) (fun e => ?_)
    · refine seg_Bg (pc' := 15) (lv' := [(0, .ref 10), (1, .ref 29), (2, .int (v2 + 1))]) (st' := []) (lay' := LY70) (h' := h) 2 rfl ?_
      exact hH (v2 + 1) (Option.some.inj e).symm
    · refine seg_Bg (pc' := 31) (lv' := [(0, .ref 10), (1, .ref 29), (2, .int v2)]) (st' := [.int v2, .ref 29]) (lay' := LY70) (h' := h) 2 rfl ?_
      refine call_Bg (a := 77) (la := [(0, .ref 29), (1, .int v2)]) (np := 34) (lv' := [(0, .ref 10), (1, .ref 29), (2, .int v2)]) (rest := []) (res := fun r => ([.int r], LY70, h)) rfl e (fun r e => BJsh_codeAt L xs v2 h r e) (fun c3 e => ?_)
      show Bg L xs 14 34 [(0, .ref 10), (1, .ref 29), (2, .int v2)] [.int c3] LY70 h R
      refine seg_Bg (pc' := 39) (lv' := [(0, .ref 10), (1, .ref 29), (2, .int v2)]) (st' := [.int v2, .ref 17, .int c3]) (lay' := LY70) (h' := h) 3 rfl ?_
      refine gd_Bg (pc' := 40) (lv' := [(0, .ref 10), (1, .ref 29), (2, .int v2)]) (st' := [.int (h 17 (Int32.toNatClampNeg v2)), .int c3]) (lay' := LY70) (h' := h) (g := ibB v2 6) rfl e fun e => ?_
      refine seg_Bg (pc' := (if c3 = (h 17 (Int32.toNatClampNeg v2)) then 45 else 43)) (lv' := [(0, .ref 10), (1, .ref 29), (2, .int v2)]) (st' := []) (lay' := LY70) (h' := h) 1 rfl ?_
      refine pc_ite e (fun e => ?_) (fun e => ?_)
      · refine seg_Bg (pc' := 15) (lv' := [(0, .ref 10), (1, .ref 29), (2, .int (v2 + 1))]) (st' := []) (lay' := LY70) (h' := h) 2 rfl ?_
        exact hH (v2 + 1) (Option.some.inj e).symm
      · refine seg_Bg (pc' := 44) (lv' := [(0, .ref 10), (1, .ref 29), (2, .int v2)]) (st' := [.int 0]) (lay' := LY70) (h' := h) 1 rfl ?_
        rw [hR 0 (Option.some.inj e).symm]; exact ret_Bg rfl
  · exact hE v2 (Option.some.inj e).symm
theorem BJcs_areOf_L15 (L : Nat) (xs : Nat → Int32) (h : Hp) (R : List Value × Lay × Hp) (C : ((Int32) ⊕ (Int32)) → Prop) (hE : ∀ t : Int32, C (.inl t) → Bg L xs 14 51 [(0, .ref 10), (1, .ref 29), (2, .int t)] [] LY70 h R) (hR : ∀ r : Int32, C (.inr r) → R = ([.int r], LY70, h)) (n : Nat) (s : Int32) (o : ((Int32) ⊕ (Int32))) (e : loopN n (fun s => Jcs_areOf_L15 h s) s = some o) (hC : C o) : Bg L xs 14 15 [(0, .ref 10), (1, .ref 29), (2, .int s)] [] LY70 h R := by
  refine loop_B (fun s => Jcs_areOf_L15 h s) (fun s : Int32 => Bg L xs 14 15 [(0, .ref 10), (1, .ref 29), (2, .int s)] [] LY70 h R) C (fun s o e => ?_) n s o e hC
  intro hK
  refine BJcs_areOf_L15_s L xs h R s o (fun s q => by subst q; exact hK) (fun t q => by subst q; exact hE t hK) (fun r q => by subst q; exact hR r hK) e
set_option maxRecDepth 100000 in
theorem BJcs_areOf (L : Nat) (xs : Nat → Int32) (h : Hp) (o : Int32) (e : Jcs_areOf h = some o) : Bg L xs 14 0 [(0, .ref 10), (1, .ref 29)] [] LY70 h ([.int o], LY70, h) := by
  obtain ⟨R, hR⟩ : ∃ R : List Value × Lay × Hp, R = ([.int o], LY70, h) := ⟨_, rfl⟩
  rw [← hR]
  refine seg_Bg (pc' := 1) (lv' := [(0, .ref 10), (1, .ref 29)]) (st' := [.ref 29]) (lay' := LY70) (h' := h) 1 rfl ?_
  refine call_Bg (a := 78) (la := [(0, .ref 29)]) (np := 4) (lv' := [(0, .ref 10), (1, .ref 29)]) (rest := []) (res := fun r => ([.int r], LY70, h)) rfl e (fun r e => BJsh_chosenSet L xs h r e) (fun c1 e => ?_)
  show Bg L xs 14 4 [(0, .ref 10), (1, .ref 29)] [.int c1] LY70 h R
  refine seg_Bg (pc' := (if c1 = (h 10 8) then 13 else 11)) (lv' := [(0, .ref 10), (1, .ref 29)]) (st' := []) (lay' := LY70) (h' := h) 3 rfl ?_
  refine pc_ite e (fun e => ?_) (fun e => ?_)
  · refine seg_Bg (pc' := 15) (lv' := [(0, .ref 10), (1, .ref 29), (2, .int 0)]) (st' := []) (lay' := LY70) (h' := h) 2 rfl ?_
    obtain ⟨t4o, et4o, e⟩ := bd_s e
    refine BJcs_areOf_L15 L xs h R (fun (t4x : (Int32) ⊕ (Int32)) => (sm t4x (fun t4 => some 1) (fun r4 => some r4)) = some o) (fun t4 e => ?_) (fun r4 e => ?_) 1000000 0 _ et4o e
    · refine seg_Bg (pc' := 52) (lv' := [(0, .ref 10), (1, .ref 29), (2, .int t4)]) (st' := [.int 1]) (lay' := LY70) (h' := h) 1 rfl ?_
      rw [hR, ← Option.some.inj e]; exact ret_Bg rfl
    · rw [hR]; exact congrArg (fun r => (([.int r], LY70, h) : List Value × Lay × Hp)) (Option.some.inj e).symm
  · refine seg_Bg (pc' := 12) (lv' := [(0, .ref 10), (1, .ref 29)]) (st' := [.int 0]) (lay' := LY70) (h' := h) 1 rfl ?_
    rw [hR, ← Option.some.inj e]; exact ret_Bg rfl

set_option maxRecDepth 100000 in
theorem BJcs_start_L10_s (L : Nat) (xs : Nat → Int32) (R : List Value × Lay × Hp) (v2 : Int32) (h : Hp) (o : ((Int32 × Hp) ⊕ (Int32 × Hp))) (hH : ∀ s : Int32 × Hp, o = .inl s → Bg L xs 16 10 [(0, .ref 10), (1, .ref 29), (2, .int s.1)] [] LY70 s.2 R) (hE : ∀ t : Int32 × Hp, o = .inr t → Bg L xs 16 33 [(0, .ref 10), (1, .ref 29), (2, .int t.1)] [] LY70 t.2 R) (e : Jcs_start_L10 v2 h = some o) : Bg L xs 16 10 [(0, .ref 10), (1, .ref 29), (2, .int v2)] [] LY70 h R := by
  refine seg_Bg (pc' := (if v2 < 6 then 16 else 33)) (lv' := [(0, .ref 10), (1, .ref 29), (2, .int v2)]) (st' := []) (lay' := LY70) (h' := h) 3 rfl ?_
  refine pc_ite e (fun e => ?_) (fun e => ?_)
  · refine seg_Bg (pc' := 23) (lv' := [(0, .ref 10), (1, .ref 29), (2, .int v2)]) (st' := [.int v2, .ref 29, .int v2, .ref 17]) (lay' := LY70) (h' := h) 5 rfl ?_
    refine call_Bg (a := 77) (la := [(0, .ref 29), (1, .int v2)]) (np := 26) (lv' := [(0, .ref 10), (1, .ref 29), (2, .int v2)]) (rest := [.int v2, .ref 17]) (res := fun r => ([.int r], LY70, h)) rfl e (fun r e => BJsh_codeAt L xs v2 h r e) (fun c3 e => ?_)
    show Bg L xs 16 26 [(0, .ref 10), (1, .ref 29), (2, .int v2)] [.int c3, .int v2, .ref 17] LY70 h R
    refine gp_Bg (pc' := 27) (lv' := [(0, .ref 10), (1, .ref 29), (2, .int v2)]) (st' := []) (lay' := LY70) (x := hset h 17 (Int32.toNatClampNeg v2) c3) (g := ibB v2 6) rfl e fun h4 e => ?_
    refine seg_Bg (pc' := 10) (lv' := [(0, .ref 10), (1, .ref 29), (2, .int (v2 + 1))]) (st' := []) (lay' := LY70) (h' := h4) 2 rfl ?_
    exact hH (v2 + 1, h4) (Option.some.inj e).symm
  · exact hE (v2, h) (Option.some.inj e).symm
theorem BJcs_start_L10 (L : Nat) (xs : Nat → Int32) (R : List Value × Lay × Hp) (C : (Int32 × Hp) → Prop) (hE : ∀ t : Int32 × Hp, C t → Bg L xs 16 33 [(0, .ref 10), (1, .ref 29), (2, .int t.1)] [] LY70 t.2 R) (n : Nat) (s : Int32 × Hp) (o : (Int32 × Hp)) (e : loopN n (fun s => Jcs_start_L10 s.1 s.2) s = some o) (hC : C o) : Bg L xs 16 10 [(0, .ref 10), (1, .ref 29), (2, .int s.1)] [] LY70 s.2 R := by
  refine loop_B (fun s => Jcs_start_L10 s.1 s.2) (fun s : Int32 × Hp => Bg L xs 16 10 [(0, .ref 10), (1, .ref 29), (2, .int s.1)] [] LY70 s.2 R) C (fun s o e => ?_) n s o e hC
  intro hK
  refine BJcs_start_L10_s L xs R s.1 s.2 o (fun s q => by subst q; exact hK) (fun t q => by subst q; exact hE t hK) e
set_option maxRecDepth 100000 in
theorem BJcs_start_L35_s (L : Nat) (xs : Nat → Int32) (R : List Value × Lay × Hp) (v2 : Int32) (h : Hp) (o : ((Int32 × Hp) ⊕ (Int32 × Hp))) (hH : ∀ s : Int32 × Hp, o = .inl s → Bg L xs 16 35 [(0, .ref 10), (1, .ref 29), (2, .int s.1)] [] LY70 s.2 R) (hE : ∀ t : Int32 × Hp, o = .inr t → Bg L xs 16 62 [(0, .ref 10), (1, .ref 29), (2, .int t.1)] [] LY70 t.2 R) (e : Jcs_start_L35 v2 h = some o) : Bg L xs 16 35 [(0, .ref 10), (1, .ref 29), (2, .int v2)] [] LY70 h R := by
  refine seg_Bg (pc' := (if v2 < 256 then 42 else 62)) (lv' := [(0, .ref 10), (1, .ref 29), (2, .int v2)]) (st' := []) (lay' := LY70) (h' := h) 3 rfl ?_
  refine pc_ite e (fun e => ?_) (fun e => ?_)
  · refine seg_Bg (pc' := 48) (lv' := [(0, .ref 10), (1, .ref 29), (2, .int v2)]) (st' := [.int (-1), .int v2, .ref 11]) (lay' := LY70) (h' := h) 4 rfl ?_
    refine gp_Bg (pc' := 49) (lv' := [(0, .ref 10), (1, .ref 29), (2, .int v2)]) (st' := []) (lay' := LY70) (x := hset h 11 (Int32.toNatClampNeg v2) (-1)) (g := ibB v2 256) rfl e fun h6 e => ?_
    refine seg_Bg (pc' := 55) (lv' := [(0, .ref 10), (1, .ref 29), (2, .int v2)]) (st' := [.int (-1), .int v2, .ref 12]) (lay' := LY70) (h' := h6) 4 rfl ?_
    refine gp_Bg (pc' := 56) (lv' := [(0, .ref 10), (1, .ref 29), (2, .int v2)]) (st' := []) (lay' := LY70) (x := hset h6 12 (Int32.toNatClampNeg v2) (-1)) (g := ibB v2 256) rfl e fun h7 e => ?_
    refine seg_Bg (pc' := 35) (lv' := [(0, .ref 10), (1, .ref 29), (2, .int (v2 + 1))]) (st' := []) (lay' := LY70) (h' := h7) 2 rfl ?_
    exact hH (v2 + 1, h7) (Option.some.inj e).symm
  · exact hE (v2, h) (Option.some.inj e).symm
theorem BJcs_start_L35 (L : Nat) (xs : Nat → Int32) (R : List Value × Lay × Hp) (C : (Int32 × Hp) → Prop) (hE : ∀ t : Int32 × Hp, C t → Bg L xs 16 62 [(0, .ref 10), (1, .ref 29), (2, .int t.1)] [] LY70 t.2 R) (n : Nat) (s : Int32 × Hp) (o : (Int32 × Hp)) (e : loopN n (fun s => Jcs_start_L35 s.1 s.2) s = some o) (hC : C o) : Bg L xs 16 35 [(0, .ref 10), (1, .ref 29), (2, .int s.1)] [] LY70 s.2 R := by
  refine loop_B (fun s => Jcs_start_L35 s.1 s.2) (fun s : Int32 × Hp => Bg L xs 16 35 [(0, .ref 10), (1, .ref 29), (2, .int s.1)] [] LY70 s.2 R) C (fun s o e => ?_) n s o e hC
  intro hK
  refine BJcs_start_L35_s L xs R s.1 s.2 o (fun s q => by subst q; exact hK) (fun t q => by subst q; exact hE t hK) e
set_option maxRecDepth 100000 in
theorem BJcs_start (L : Nat) (xs : Nat → Int32) (h : Hp) (o : Hp) (e : Jcs_start h = some o) : Bg L xs 16 0 [(0, .ref 10), (1, .ref 29)] [] LY70 h ([], LY70, o) := by
  obtain ⟨R, hR⟩ : ∃ R : List Value × Lay × Hp, R = ([], LY70, o) := ⟨_, rfl⟩
  rw [← hR]
  refine seg_Bg (pc' := 2) (lv' := [(0, .ref 10), (1, .ref 29)]) (st' := [.ref 29, .ref 10]) (lay' := LY70) (h' := h) 2 rfl ?_
  refine call_Bg (a := 78) (la := [(0, .ref 29)]) (np := 5) (lv' := [(0, .ref 10), (1, .ref 29)]) (rest := [.ref 10]) (res := fun r => ([.int r], LY70, h)) rfl e (fun r e => BJsh_chosenSet L xs h r e) (fun c1 e => ?_)
  show Bg L xs 16 5 [(0, .ref 10), (1, .ref 29)] [.int c1, .ref 10] LY70 h R
  refine put_Bg (pc' := 8) (lv' := [(0, .ref 10), (1, .ref 29)]) (st' := []) (lay' := LY70) (x := hset h 10 8 c1) rfl e fun h2 e => ?_
  refine seg_Bg (pc' := 10) (lv' := [(0, .ref 10), (1, .ref 29), (2, .int 0)]) (st' := []) (lay' := LY70) (h' := h2) 2 rfl ?_
  obtain ⟨t5o, et5o, e⟩ := bd_s e
  refine BJcs_start_L10 L xs R (fun (t5 : Int32 × Hp) => (bd (loopN 1000000 (fun s => Jcs_start_L35 s.1 s.2) (0, t5.2)) fun (t8 : Int32 × Hp) => lt (hset t8.2 11 240 0) fun h9 => lt (hset h9 11 204 0) fun h10 => lt (hset h10 11 170 0) fun h11 => lt (hset h11 10 9 0) fun h12 => lt (hset h12 10 12 0) fun h13 => lt (hset h13 10 13 0) fun h14 => some h14) = some o) (fun t5 e => ?_) 1000000 (0, h2) _ et5o e
  refine seg_Bg (pc' := 35) (lv' := [(0, .ref 10), (1, .ref 29), (2, .int 0)]) (st' := []) (lay' := LY70) (h' := t5.2) 2 rfl ?_
  obtain ⟨t8o, et8o, e⟩ := bd_s e
  refine BJcs_start_L35 L xs R (fun (t8 : Int32 × Hp) => (lt (hset t8.2 11 240 0) fun h9 => lt (hset h9 11 204 0) fun h10 => lt (hset h10 11 170 0) fun h11 => lt (hset h11 10 9 0) fun h12 => lt (hset h12 10 12 0) fun h13 => lt (hset h13 10 13 0) fun h14 => some h14) = some o) (fun t8 e => ?_) 1000000 (0, t5.2) _ et8o e
  refine seg_Bg (pc' := 70) (lv' := [(0, .ref 10), (1, .ref 29), (2, .int t8.1)]) (st' := [.int 0, .int 240, .ref 11]) (lay' := LY70) (h' := t8.2) 4 rfl ?_
  refine put_Bg (pc' := 71) (lv' := [(0, .ref 10), (1, .ref 29), (2, .int t8.1)]) (st' := []) (lay' := LY70) (x := hset t8.2 11 240 0) rfl e fun h9 e => ?_
  refine seg_Bg (pc' := 79) (lv' := [(0, .ref 10), (1, .ref 29), (2, .int t8.1)]) (st' := [.int 0, .int 204, .ref 11]) (lay' := LY70) (h' := h9) 4 rfl ?_
  refine put_Bg (pc' := 80) (lv' := [(0, .ref 10), (1, .ref 29), (2, .int t8.1)]) (st' := []) (lay' := LY70) (x := hset h9 11 204 0) rfl e fun h10 e => ?_
  refine seg_Bg (pc' := 88) (lv' := [(0, .ref 10), (1, .ref 29), (2, .int t8.1)]) (st' := [.int 0, .int 170, .ref 11]) (lay' := LY70) (h' := h10) 4 rfl ?_
  refine put_Bg (pc' := 89) (lv' := [(0, .ref 10), (1, .ref 29), (2, .int t8.1)]) (st' := []) (lay' := LY70) (x := hset h10 11 170 0) rfl e fun h11 e => ?_
  refine seg_Bg (pc' := 91) (lv' := [(0, .ref 10), (1, .ref 29), (2, .int t8.1)]) (st' := [.int 0, .ref 10]) (lay' := LY70) (h' := h11) 2 rfl ?_
  refine put_Bg (pc' := 94) (lv' := [(0, .ref 10), (1, .ref 29), (2, .int t8.1)]) (st' := []) (lay' := LY70) (x := hset h11 10 9 0) rfl e fun h12 e => ?_
  refine seg_Bg (pc' := 96) (lv' := [(0, .ref 10), (1, .ref 29), (2, .int t8.1)]) (st' := [.int 0, .ref 10]) (lay' := LY70) (h' := h12) 2 rfl ?_
  refine put_Bg (pc' := 99) (lv' := [(0, .ref 10), (1, .ref 29), (2, .int t8.1)]) (st' := []) (lay' := LY70) (x := hset h12 10 12 0) rfl e fun h13 e => ?_
  refine seg_Bg (pc' := 101) (lv' := [(0, .ref 10), (1, .ref 29), (2, .int t8.1)]) (st' := [.int 0, .ref 10]) (lay' := LY70) (h' := h13) 2 rfl ?_
  refine put_Bg (pc' := 104) (lv' := [(0, .ref 10), (1, .ref 29), (2, .int t8.1)]) (st' := []) (lay' := LY70) (x := hset h13 10 13 0) rfl e fun h14 e => ?_
  rw [hR, ← Option.some.inj e]; exact ret_Bg rfl

set_option maxRecDepth 100000 in
theorem BJpl_isIn (L : Nat) (xs : Nat → Int32) (v1 : Int32) (v2 : Int32) (h : Hp) (o : Int32) (e : Jpl_isIn v1 v2 h = some o) : Bg L xs 61 0 [(0, .ref 4), (1, .int v1), (2, .int v2)] [] LY70 h ([.int o], LY70, h) := by
  obtain ⟨R, hR⟩ : ∃ R : List Value × Lay × Hp, R = ([.int o], LY70, h) := ⟨_, rfl⟩
  rw [← hR]
  refine seg_Bg (pc' := 2) (lv' := [(0, .ref 4), (1, .int v1), (2, .int v2)]) (st' := [.int v1, .ref 4]) (lay' := LY70) (h' := h) 2 rfl ?_
  refine call_Bg (a := 59) (la := [(0, .ref 4), (1, .int v1)]) (np := 5) (lv' := [(0, .ref 4), (1, .int v1), (2, .int v2)]) (rest := []) (res := fun r => ([.int r], LY70, h)) rfl e (fun r e => BJpl_traitsOf L xs v1 h r e) (fun c1 e => ?_)
  show Bg L xs 61 5 [(0, .ref 4), (1, .int v1), (2, .int v2)] [.int c1] LY70 h R
  refine seg_Bg (pc' := (if (c1 &&& v2) = v2 then 11 else 15)) (lv' := [(0, .ref 4), (1, .int v1), (2, .int v2)]) (st' := []) (lay' := LY70) (h' := h) 4 rfl ?_
  refine pc_ite e (fun e => ?_) (fun e => ?_)
  · refine seg_Bg (pc' := 16) (lv' := [(0, .ref 4), (1, .int v1), (2, .int v2)]) (st' := [.int 1]) (lay' := LY70) (h' := h) 2 rfl ?_
    rw [hR, ← Option.some.inj e]; exact ret_Bg rfl
  · refine seg_Bg (pc' := 16) (lv' := [(0, .ref 4), (1, .int v1), (2, .int v2)]) (st' := [.int 0]) (lay' := LY70) (h' := h) 1 rfl ?_
    rw [hR, ← Option.some.inj e]; exact ret_Bg rfl

set_option maxRecDepth 100000 in
theorem BJcs_miss_L7_s (L : Nat) (xs : Nat → Int32) (v2 : Int32) (R : List Value × Lay × Hp) (v3 : Int32) (h : Hp) (o : ((Int32 × Hp) ⊕ (Int32 × Hp))) (hH : ∀ s : Int32 × Hp, o = .inl s → Bg L xs 17 7 [(0, .ref 10), (1, .ref 4), (2, .int v2), (3, .int s.1)] [] LY70 s.2 R) (hE : ∀ t : Int32 × Hp, o = .inr t → Bg L xs 17 59 [(0, .ref 10), (1, .ref 4), (2, .int v2), (3, .int t.1)] [] LY70 t.2 R) (e : Jcs_miss_L7 v2 v3 h = some o) : Bg L xs 17 7 [(0, .ref 10), (1, .ref 4), (2, .int v2), (3, .int v3)] [] LY70 h R := by
  refine seg_Bg (pc' := (if v3 < 256 then 14 else 59)) (lv' := [(0, .ref 10), (1, .ref 4), (2, .int v2), (3, .int v3)]) (st' := []) (lay' := LY70) (h' := h) 3 rfl ?_
  refine pc_ite e (fun e => ?_) (fun e => ?_)
  · refine seg_Bg (pc' := 19) (lv' := [(0, .ref 10), (1, .ref 4), (2, .int v2), (3, .int v3)]) (st' := [.int v3, .ref 11]) (lay' := LY70) (h' := h) 3 rfl ?_
    refine gd_Bg (pc' := 20) (lv' := [(0, .ref 10), (1, .ref 4), (2, .int v2), (3, .int v3)]) (st' := [.int (h 11 (Int32.toNatClampNeg v3))]) (lay' := LY70) (h' := h) (g := ibB v3 256) rfl e fun e => ?_
    refine seg_Bg (pc' := (if (h 11 (Int32.toNatClampNeg v3)) = (-1) then 24 else 53)) (lv' := [(0, .ref 10), (1, .ref 4), (2, .int v2), (3, .int v3)]) (st' := []) (lay' := LY70) (h' := h) 2 rfl ?_
    refine pc_ite e (fun e => ?_) (fun e => ?_)
    · refine seg_Bg (pc' := 27) (lv' := [(0, .ref 10), (1, .ref 4), (2, .int v2), (3, .int v3)]) (st' := [.int v2, .int v3, .ref 4]) (lay' := LY70) (h' := h) 3 rfl ?_
      refine call_Bg (a := 61) (la := [(0, .ref 4), (1, .int v3), (2, .int v2)]) (np := 30) (lv' := [(0, .ref 10), (1, .ref 4), (2, .int v2), (3, .int v3)]) (rest := []) (res := fun r => ([.int r], LY70, h)) rfl e (fun r e => BJpl_isIn L xs v3 v2 h r e) (fun c2 e => ?_)
      show Bg L xs 17 30 [(0, .ref 10), (1, .ref 4), (2, .int v2), (3, .int v3)] [.int c2] LY70 h R
      refine seg_Bg (pc' := (if c2 = 0 then 53 else 33)) (lv' := [(0, .ref 10), (1, .ref 4), (2, .int v2), (3, .int v3)]) (st' := []) (lay' := LY70) (h' := h) 1 rfl ?_
      refine pc_ite e (fun e => ?_) (fun e => ?_)
      · refine seg_Bg (pc' := 7) (lv' := [(0, .ref 10), (1, .ref 4), (2, .int v2), (3, .int (v3 + 1))]) (st' := []) (lay' := LY70) (h' := h) 2 rfl ?_
        exact hH (v3 + 1, h) (Option.some.inj e).symm
      · refine seg_Bg (pc' := 42) (lv' := [(0, .ref 10), (1, .ref 4), (2, .int v2), (3, .int v3)]) (st' := [.int v3, .int (h 10 10), .ref 15]) (lay' := LY70) (h' := h) 5 rfl ?_
        refine gp_Bg (pc' := 43) (lv' := [(0, .ref 10), (1, .ref 4), (2, .int v2), (3, .int v3)]) (st' := []) (lay' := LY70) (x := hset h 15 (Int32.toNatClampNeg (h 10 10)) v3) (g := ibB (h 10 10) 256) rfl e fun h3 e => ?_
        refine seg_Bg (pc' := 50) (lv' := [(0, .ref 10), (1, .ref 4), (2, .int v2), (3, .int v3)]) (st' := [.int ((h3 10 10) + (1 : Int32)), .ref 10]) (lay' := LY70) (h' := h3) 5 rfl ?_
        refine put_Bg (pc' := 53) (lv' := [(0, .ref 10), (1, .ref 4), (2, .int v2), (3, .int v3)]) (st' := []) (lay' := LY70) (x := hset h3 10 10 ((h3 10 10) + (1 : Int32))) rfl e fun h4 e => ?_
        refine seg_Bg (pc' := 7) (lv' := [(0, .ref 10), (1, .ref 4), (2, .int v2), (3, .int (v3 + 1))]) (st' := []) (lay' := LY70) (h' := h4) 2 rfl ?_
        exact hH (v3 + 1, h4) (Option.some.inj e).symm
    · refine seg_Bg (pc' := 7) (lv' := [(0, .ref 10), (1, .ref 4), (2, .int v2), (3, .int (v3 + 1))]) (st' := []) (lay' := LY70) (h' := h) 2 rfl ?_
      exact hH (v3 + 1, h) (Option.some.inj e).symm
  · exact hE (v3, h) (Option.some.inj e).symm
theorem BJcs_miss_L7 (L : Nat) (xs : Nat → Int32) (v2 : Int32) (R : List Value × Lay × Hp) (C : (Int32 × Hp) → Prop) (hE : ∀ t : Int32 × Hp, C t → Bg L xs 17 59 [(0, .ref 10), (1, .ref 4), (2, .int v2), (3, .int t.1)] [] LY70 t.2 R) (n : Nat) (s : Int32 × Hp) (o : (Int32 × Hp)) (e : loopN n (fun s => Jcs_miss_L7 v2 s.1 s.2) s = some o) (hC : C o) : Bg L xs 17 7 [(0, .ref 10), (1, .ref 4), (2, .int v2), (3, .int s.1)] [] LY70 s.2 R := by
  refine loop_B (fun s => Jcs_miss_L7 v2 s.1 s.2) (fun s : Int32 × Hp => Bg L xs 17 7 [(0, .ref 10), (1, .ref 4), (2, .int v2), (3, .int s.1)] [] LY70 s.2 R) C (fun s o e => ?_) n s o e hC
  intro hK
  refine BJcs_miss_L7_s L xs v2 R s.1 s.2 o (fun s q => by subst q; exact hK) (fun t q => by subst q; exact hE t hK) e
set_option maxRecDepth 100000 in
theorem BJcs_miss (L : Nat) (xs : Nat → Int32) (v2 : Int32) (h : Hp) (o : Hp) (e : Jcs_miss v2 h = some o) : Bg L xs 17 0 [(0, .ref 10), (1, .ref 4), (2, .int v2)] [] LY70 h ([], LY70, o) := by
  obtain ⟨R, hR⟩ : ∃ R : List Value × Lay × Hp, R = ([], LY70, o) := ⟨_, rfl⟩
  rw [← hR]
  refine seg_Bg (pc' := 2) (lv' := [(0, .ref 10), (1, .ref 4), (2, .int v2)]) (st' := [.int 0, .ref 10]) (lay' := LY70) (h' := h) 2 rfl ?_
  refine put_Bg (pc' := 5) (lv' := [(0, .ref 10), (1, .ref 4), (2, .int v2)]) (st' := []) (lay' := LY70) (x := hset h 10 10 0) rfl e fun h1 e => ?_
  refine seg_Bg (pc' := 7) (lv' := [(0, .ref 10), (1, .ref 4), (2, .int v2), (3, .int 0)]) (st' := []) (lay' := LY70) (h' := h1) 2 rfl ?_
  obtain ⟨t5o, et5o, e⟩ := bd_s e
  refine BJcs_miss_L7 L xs v2 R (fun (t5 : Int32 × Hp) => (some t5.2) = some o) (fun t5 e => ?_) 1000000 (0, h1) _ et5o e
  rw [hR, ← Option.some.inj e]; exact ret_Bg rfl

set_option maxRecDepth 100000 in
theorem BJcs_settle_L33_s (L : Nat) (xs : Nat → Int32) (R : List Value × Lay × Hp) (v1 : Int32) (h : Hp) (o : ((Int32 × Hp) ⊕ (Int32 × Hp))) (hH : ∀ s : Int32 × Hp, o = .inl s → Bg L xs 19 33 [(0, .ref 10), (1, .int s.1)] [] LY70 s.2 R) (hE : ∀ t : Int32 × Hp, o = .inr t → Bg L xs 19 97 [(0, .ref 10), (1, .int t.1)] [] LY70 t.2 R) (e : Jcs_settle_L33 v1 h = some o) : Bg L xs 19 33 [(0, .ref 10), (1, .int v1)] [] LY70 h R := by
  refine seg_Bg (pc' := (if v1 < 256 then 40 else 97)) (lv' := [(0, .ref 10), (1, .int v1)]) (st' := []) (lay' := LY70) (h' := h) 3 rfl ?_
  refine pc_ite e (fun e => ?_) (fun e => ?_)
  · refine seg_Bg (pc' := 45) (lv' := [(0, .ref 10), (1, .int v1)]) (st' := [.int v1, .ref 11]) (lay' := LY70) (h' := h) 3 rfl ?_
    refine gd_Bg (pc' := 46) (lv' := [(0, .ref 10), (1, .int v1)]) (st' := [.int (h 11 (Int32.toNatClampNeg v1))]) (lay' := LY70) (h' := h) (g := ibB v1 256) rfl e fun e => ?_
    refine seg_Bg (pc' := (if (h 11 (Int32.toNatClampNeg v1)) = (h 10 12) then 53 else 91)) (lv' := [(0, .ref 10), (1, .int v1)]) (st' := []) (lay' := LY70) (h' := h) 3 rfl ?_
    refine pc_ite e (fun e => ?_) (fun e => ?_)
    · refine seg_Bg (pc' := (if (h 10 9) < 256 then 63 else 91)) (lv' := [(0, .ref 10), (1, .int v1)]) (st' := []) (lay' := LY70) (h' := h) 4 rfl ?_
      refine pc_ite e (fun e => ?_) (fun e => ?_)
      · refine seg_Bg (pc' := 72) (lv' := [(0, .ref 10), (1, .int v1)]) (st' := [.int v1, .int (h 10 9), .ref 13]) (lay' := LY70) (h' := h) 5 rfl ?_
        refine gp_Bg (pc' := 73) (lv' := [(0, .ref 10), (1, .int v1)]) (st' := []) (lay' := LY70) (x := hset h 13 (Int32.toNatClampNeg (h 10 9)) v1) (g := ibB (h 10 9) 256) rfl e fun h2 e => ?_
        refine seg_Bg (pc' := 80) (lv' := [(0, .ref 10), (1, .int v1)]) (st' := [.int ((h2 10 9) + (1 : Int32)), .ref 10]) (lay' := LY70) (h' := h2) 5 rfl ?_
        refine put_Bg (pc' := 83) (lv' := [(0, .ref 10), (1, .int v1)]) (st' := []) (lay' := LY70) (x := hset h2 10 9 ((h2 10 9) + (1 : Int32))) rfl e fun h3 e => ?_
        refine seg_Bg (pc' := 88) (lv' := [(0, .ref 10), (1, .int v1)]) (st' := [.int (h3 10 12), .ref 10]) (lay' := LY70) (h' := h3) 3 rfl ?_
        refine put_Bg (pc' := 91) (lv' := [(0, .ref 10), (1, .int v1)]) (st' := []) (lay' := LY70) (x := hset h3 10 13 (h3 10 12)) rfl e fun h4 e => ?_
        refine seg_Bg (pc' := 33) (lv' := [(0, .ref 10), (1, .int (v1 + 1))]) (st' := []) (lay' := LY70) (h' := h4) 2 rfl ?_
        exact hH (v1 + 1, h4) (Option.some.inj e).symm
      · refine seg_Bg (pc' := 33) (lv' := [(0, .ref 10), (1, .int (v1 + 1))]) (st' := []) (lay' := LY70) (h' := h) 2 rfl ?_
        exact hH (v1 + 1, h) (Option.some.inj e).symm
    · refine seg_Bg (pc' := 33) (lv' := [(0, .ref 10), (1, .int (v1 + 1))]) (st' := []) (lay' := LY70) (h' := h) 2 rfl ?_
      exact hH (v1 + 1, h) (Option.some.inj e).symm
  · exact hE (v1, h) (Option.some.inj e).symm
theorem BJcs_settle_L33 (L : Nat) (xs : Nat → Int32) (R : List Value × Lay × Hp) (C : (Int32 × Hp) → Prop) (hE : ∀ t : Int32 × Hp, C t → Bg L xs 19 97 [(0, .ref 10), (1, .int t.1)] [] LY70 t.2 R) (n : Nat) (s : Int32 × Hp) (o : (Int32 × Hp)) (e : loopN n (fun s => Jcs_settle_L33 s.1 s.2) s = some o) (hC : C o) : Bg L xs 19 33 [(0, .ref 10), (1, .int s.1)] [] LY70 s.2 R := by
  refine loop_B (fun s => Jcs_settle_L33 s.1 s.2) (fun s : Int32 × Hp => Bg L xs 19 33 [(0, .ref 10), (1, .int s.1)] [] LY70 s.2 R) C (fun s o e => ?_) n s o e hC
  intro hK
  refine BJcs_settle_L33_s L xs R s.1 s.2 o (fun s q => by subst q; exact hK) (fun t q => by subst q; exact hE t hK) e
set_option maxRecDepth 100000 in
theorem BJcs_settle (L : Nat) (xs : Nat → Int32) (h : Hp) (o : Hp) (e : Jcs_settle h = some o) : Bg L xs 19 0 [(0, .ref 10)] [] LY70 h ([], LY70, o) := by
  obtain ⟨R, hR⟩ : ∃ R : List Value × Lay × Hp, R = ([], LY70, o) := ⟨_, rfl⟩
  rw [← hR]
  refine seg_Bg (pc' := (if (h 10 12) < 0 then 17 else 7)) (lv' := [(0, .ref 10)]) (st' := []) (lay' := LY70) (h' := h) 3 rfl ?_
  refine pc_ite e (fun e => ?_) (fun e => ?_)
  · rw [hR, ← Option.some.inj e]; exact ret_Bg rfl
  · refine seg_Bg (pc' := (if 9999 < (h 10 12) then 17 else 18)) (lv' := [(0, .ref 10)]) (st' := []) (lay' := LY70) (h' := h) 4 rfl ?_
    refine pc_ite e (fun e => ?_) (fun e => ?_)
    · rw [hR, ← Option.some.inj e]; exact ret_Bg rfl
    · refine seg_Bg (pc' := 30) (lv' := [(0, .ref 10)]) (st' := [.int (h 10 9), .int (h 10 12), .ref 14]) (lay' := LY70) (h' := h) 6 rfl ?_
      refine gp_Bg (pc' := 31) (lv' := [(0, .ref 10)]) (st' := []) (lay' := LY70) (x := hset h 14 (Int32.toNatClampNeg (h 10 12)) (h 10 9)) (g := ibB (h 10 12) 10001) rfl e fun h1 e => ?_
      refine seg_Bg (pc' := 33) (lv' := [(0, .ref 10), (1, .int 0)]) (st' := []) (lay' := LY70) (h' := h1) 2 rfl ?_
      obtain ⟨t5o, et5o, e⟩ := bd_s e
      refine BJcs_settle_L33 L xs R (fun (t5 : Int32 × Hp) => (bif ibB ((t5.2 10 12) + (1 : Int32)) 10001 then lt (hset t5.2 14 (Int32.toNatClampNeg ((t5.2 10 12) + (1 : Int32))) (t5.2 10 9)) fun h6 => some h6 else none) = some o) (fun t5 e => ?_) 1000000 (0, h1) _ et5o e
      refine seg_Bg (pc' := 111) (lv' := [(0, .ref 10), (1, .int t5.1)]) (st' := [.int (t5.2 10 9), .int ((t5.2 10 12) + (1 : Int32)), .ref 14]) (lay' := LY70) (h' := t5.2) 8 rfl ?_
      refine gp_Bg (pc' := 112) (lv' := [(0, .ref 10), (1, .int t5.1)]) (st' := []) (lay' := LY70) (x := hset t5.2 14 (Int32.toNatClampNeg ((t5.2 10 12) + (1 : Int32))) (t5.2 10 9)) (g := ibB ((t5.2 10 12) + (1 : Int32)) 10001) rfl e fun h6 e => ?_
      rw [hR, ← Option.some.inj e]; exact ret_Bg rfl

set_option maxRecDepth 100000 in
theorem BJco_variablesOf_L4_s (L : Nat) (xs : Nat → Int32) (v0 : Int32) (lay : Lay) (h : Hp) (R : List Value × Lay × Hp) (v1 v2 : Int32) (o : ((Int32 × Int32) ⊕ (Int32 × Int32))) (hH : ∀ s : Int32 × Int32, o = .inl s → Bg L xs 10 4 [(0, .int v0), (1, .int s.1), (2, .int s.2)] [] lay h R) (hE : ∀ t : Int32 × Int32, o = .inr t → Bg L xs 10 29 [(0, .int v0), (1, .int t.1), (2, .int t.2)] [] lay h R) (e : Jco_variablesOf_L4 v0 v1 v2 = some o) : Bg L xs 10 4 [(0, .int v0), (1, .int v1), (2, .int v2)] [] lay h R := by
  refine seg_Bg (pc' := (if v2 < 3 then 9 else 29)) (lv' := [(0, .int v0), (1, .int v1), (2, .int v2)]) (st' := []) (lay' := lay) (h' := h) 3 rfl ?_
  refine pc_ite e (fun e => ?_) (fun e => ?_)
  · refine seg_Bg (pc' := 11) (lv' := [(0, .int v0), (1, .int v1), (2, .int v2)]) (st' := [.int v2, .int v0]) (lay' := lay) (h' := h) 2 rfl ?_
    refine call_Bg (a := 9) (la := [(0, .int v0), (1, .int v2)]) (np := 14) (lv' := [(0, .int v0), (1, .int v1), (2, .int v2)]) (rest := []) (res := fun r => ([.int r], lay, h)) rfl e (fun r e => BJco_hangsOn L xs v0 v2 lay h r e) (fun c1 e => ?_)
    show Bg L xs 10 14 [(0, .int v0), (1, .int v1), (2, .int v2)] [.int c1] lay h R
    refine seg_Bg (pc' := (if c1 = 0 then 23 else 17)) (lv' := [(0, .int v0), (1, .int v1), (2, .int v2)]) (st' := []) (lay' := lay) (h' := h) 1 rfl ?_
    refine pc_ite e (fun e => ?_) (fun e => ?_)
    · refine seg_Bg (pc' := 4) (lv' := [(0, .int v0), (1, .int v1), (2, .int (v2 + 1))]) (st' := []) (lay' := lay) (h' := h) 2 rfl ?_
      exact hH (v1, v2 + 1) (Option.some.inj e).symm
    · refine seg_Bg (pc' := 4) (lv' := [(0, .int v0), (1, .int (v1 ||| ((1 : Int32) <<< (v2 &&& 31) : Int32))), (2, .int (v2 + 1))]) (st' := []) (lay' := lay) (h' := h) 8 rfl ?_
      exact hH (v1 ||| ((1 : Int32) <<< (v2 &&& 31) : Int32), v2 + 1) (Option.some.inj e).symm
  · exact hE (v1, v2) (Option.some.inj e).symm
theorem BJco_variablesOf_L4 (L : Nat) (xs : Nat → Int32) (v0 : Int32) (lay : Lay) (h : Hp) (R : List Value × Lay × Hp) (C : (Int32 × Int32) → Prop) (hE : ∀ t : Int32 × Int32, C t → Bg L xs 10 29 [(0, .int v0), (1, .int t.1), (2, .int t.2)] [] lay h R) (n : Nat) (s : Int32 × Int32) (o : (Int32 × Int32)) (e : loopN n (fun s => Jco_variablesOf_L4 v0 s.1 s.2) s = some o) (hC : C o) : Bg L xs 10 4 [(0, .int v0), (1, .int s.1), (2, .int s.2)] [] lay h R := by
  refine loop_B (fun s => Jco_variablesOf_L4 v0 s.1 s.2) (fun s : Int32 × Int32 => Bg L xs 10 4 [(0, .int v0), (1, .int s.1), (2, .int s.2)] [] lay h R) C (fun s o e => ?_) n s o e hC
  intro hK
  refine BJco_variablesOf_L4_s L xs v0 lay h R s.1 s.2 o (fun s q => by subst q; exact hK) (fun t q => by subst q; exact hE t hK) e
set_option maxRecDepth 100000 in
theorem BJco_variablesOf (L : Nat) (xs : Nat → Int32) (v0 : Int32) (lay : Lay) (h : Hp) (o : Int32) (e : Jco_variablesOf v0 = some o) : Bg L xs 10 0 [(0, .int v0)] [] lay h ([.int o], lay, h) := by
  obtain ⟨R, hR⟩ : ∃ R : List Value × Lay × Hp, R = ([.int o], lay, h) := ⟨_, rfl⟩
  rw [← hR]
  refine seg_Bg (pc' := 4) (lv' := [(0, .int v0), (1, .int 0), (2, .int 0)]) (st' := []) (lay' := lay) (h' := h) 4 rfl ?_
  obtain ⟨t2o, et2o, e⟩ := bd_s e
  refine BJco_variablesOf_L4 L xs v0 lay h R (fun (t2 : Int32 × Int32) => (some t2.1) = some o) (fun t2 e => ?_) 1000000 (0, 0) _ et2o e
  refine seg_Bg (pc' := 30) (lv' := [(0, .int v0), (1, .int t2.1), (2, .int t2.2)]) (st' := [.int t2.1]) (lay' := lay) (h' := h) 1 rfl ?_
  rw [hR, ← Option.some.inj e]; exact ret_Bg rfl

set_option maxRecDepth 100000 in
theorem BJco_arityOf_L2_s (L : Nat) (xs : Nat → Int32) (v0 : Int32) (lay : Lay) (h : Hp) (R : List Value × Lay × Hp) (v1 : Int32) (o : ((Int32) ⊕ ((Int32) ⊕ (Int32)))) (hH : ∀ s : Int32, o = .inl s → Bg L xs 11 2 [(0, .int v0), (1, .int s)] [] lay h R) (hE : ∀ t : Int32, o = .inr (.inl t) → Bg L xs 11 24 [(0, .int v0), (1, .int t)] [] lay h R) (hR : ∀ r : Int32, o = .inr (.inr r) → R = ([.int r], lay, h)) (e : Jco_arityOf_L2 v0 v1 = some o) : Bg L xs 11 2 [(0, .int v0), (1, .int v1)] [] lay h R := by
  refine seg_Bg (pc' := (if v1 < 0 then 24 else 6)) (lv' := [(0, .int v0), (1, .int v1)]) (st' := []) (lay' := lay) (h' := h) 2 rfl ?_
  refine pc_ite e (fun e => ?_) (fun e => ?_)
  · exact hE v1 (Option.some.inj e).symm
  · refine seg_Bg (pc' := 8) (lv' := [(0, .int v0), (1, .int v1)]) (st' := [.int v1, .int v0]) (lay' := lay) (h' := h) 2 rfl ?_
    refine call_Bg (a := 9) (la := [(0, .int v0), (1, .int v1)]) (np := 11) (lv' := [(0, .int v0), (1, .int v1)]) (rest := []) (res := fun r => ([.int r], lay, h)) rfl e (fun r e => BJco_hangsOn L xs v0 v1 lay h r e) (fun c1 e => ?_)
    show Bg L xs 11 11 [(0, .int v0), (1, .int v1)] [.int c1] lay h R
    refine seg_Bg (pc' := (if c1 = 0 then 18 else 14)) (lv' := [(0, .int v0), (1, .int v1)]) (st' := []) (lay' := lay) (h' := h) 1 rfl ?_
    refine pc_ite e (fun e => ?_) (fun e => ?_)
    · refine seg_Bg (pc' := 2) (lv' := [(0, .int v0), (1, .int (v1 + (-1)))]) (st' := []) (lay' := lay) (h' := h) 2 rfl ?_
      exact hH (v1 + (-1)) (Option.some.inj e).symm
    · refine seg_Bg (pc' := 17) (lv' := [(0, .int v0), (1, .int v1)]) (st' := [.int (v1 + (1 : Int32))]) (lay' := lay) (h' := h) 3 rfl ?_
      rw [hR (v1 + (1 : Int32)) (Option.some.inj e).symm]; exact ret_Bg rfl
theorem BJco_arityOf_L2 (L : Nat) (xs : Nat → Int32) (v0 : Int32) (lay : Lay) (h : Hp) (R : List Value × Lay × Hp) (C : ((Int32) ⊕ (Int32)) → Prop) (hE : ∀ t : Int32, C (.inl t) → Bg L xs 11 24 [(0, .int v0), (1, .int t)] [] lay h R) (hR : ∀ r : Int32, C (.inr r) → R = ([.int r], lay, h)) (n : Nat) (s : Int32) (o : ((Int32) ⊕ (Int32))) (e : loopN n (fun s => Jco_arityOf_L2 v0 s) s = some o) (hC : C o) : Bg L xs 11 2 [(0, .int v0), (1, .int s)] [] lay h R := by
  refine loop_B (fun s => Jco_arityOf_L2 v0 s) (fun s : Int32 => Bg L xs 11 2 [(0, .int v0), (1, .int s)] [] lay h R) C (fun s o e => ?_) n s o e hC
  intro hK
  refine BJco_arityOf_L2_s L xs v0 lay h R s o (fun s q => by subst q; exact hK) (fun t q => by subst q; exact hE t hK) (fun r q => by subst q; exact hR r hK) e
set_option maxRecDepth 100000 in
theorem BJco_arityOf (L : Nat) (xs : Nat → Int32) (v0 : Int32) (lay : Lay) (h : Hp) (o : Int32) (e : Jco_arityOf v0 = some o) : Bg L xs 11 0 [(0, .int v0)] [] lay h ([.int o], lay, h) := by
  obtain ⟨R, hR⟩ : ∃ R : List Value × Lay × Hp, R = ([.int o], lay, h) := ⟨_, rfl⟩
  rw [← hR]
  refine seg_Bg (pc' := 2) (lv' := [(0, .int v0), (1, .int 2)]) (st' := []) (lay' := lay) (h' := h) 2 rfl ?_
  obtain ⟨t2o, et2o, e⟩ := bd_s e
  refine BJco_arityOf_L2 L xs v0 lay h R (fun (t2x : (Int32) ⊕ (Int32)) => (sm t2x (fun t2 => some 0) (fun r2 => some r2)) = some o) (fun t2 e => ?_) (fun r2 e => ?_) 1000000 2 _ et2o e
  · refine seg_Bg (pc' := 25) (lv' := [(0, .int v0), (1, .int t2)]) (st' := [.int 0]) (lay' := lay) (h' := h) 1 rfl ?_
    rw [hR, ← Option.some.inj e]; exact ret_Bg rfl
  · rw [hR]; exact congrArg (fun r => (([.int r], lay, h) : List Value × Lay × Hp)) (Option.some.inj e).symm

