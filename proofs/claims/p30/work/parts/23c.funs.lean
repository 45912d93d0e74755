/-! Runs of the small machine are the functions of the methods. (Written by wip/p30/gen3.py.) -/
set_option maxRecDepth 100000 in
theorem BJpu_begin (L : Nat) (xs : Nat → Int32) (v1 : Int32) (h : Hp) (o : Hp) (e : Jpu_begin v1 h = some o) : Bg L xs 63 0 [(0, .ref 18), (1, .int v1)] [] LY70 h ([], LY70, o) := by
  obtain ⟨R, hR⟩ : ∃ R : List Value × Lay × Hp, R = ([], LY70, o) := ⟨_, rfl⟩
  rw [← hR]
  refine seg_Bg (pc' := 2) (lv' := [(0, .ref 18), (1, .int v1)]) (st' := [.int v1, .ref 18]) (lay' := LY70) (h' := h) 2 rfl ?_
  refine put_Bg (pc' := 5) (lv' := [(0, .ref 18), (1, .int v1)]) (st' := []) (lay' := LY70) (x := hset h 18 0 v1) rfl e fun h1 e => ?_
  refine seg_Bg (pc' := 7) (lv' := [(0, .ref 18), (1, .int v1)]) (st' := [.int v1, .ref 18]) (lay' := LY70) (h' := h1) 2 rfl ?_
  refine call_Bg (a := 10) (la := [(0, .int v1)]) (np := 10) (lv' := [(0, .ref 18), (1, .int v1)]) (rest := [.ref 18]) (res := fun r => ([.int r], LY70, h1)) rfl e (fun r e => BJco_variablesOf L xs v1 LY70 h1 r e) (fun c2 e => ?_)
  show Bg L xs 63 10 [(0, .ref 18), (1, .int v1)] [.int c2, .ref 18] LY70 h1 R
  refine put_Bg (pc' := 13) (lv' := [(0, .ref 18), (1, .int v1)]) (st' := []) (lay' := LY70) (x := hset h1 18 1 c2) rfl e fun h3 e => ?_
  refine seg_Bg (pc' := 15) (lv' := [(0, .ref 18), (1, .int v1)]) (st' := [.int v1, .ref 18]) (lay' := LY70) (h' := h3) 2 rfl ?_
  refine call_Bg (a := 11) (la := [(0, .int v1)]) (np := 18) (lv' := [(0, .ref 18), (1, .int v1)]) (rest := [.ref 18]) (res := fun r => ([.int r], LY70, h3)) rfl e (fun r e => BJco_arityOf L xs v1 LY70 h3 r e) (fun c4 e => ?_)
  show Bg L xs 63 18 [(0, .ref 18), (1, .int v1)] [.int c4, .ref 18] LY70 h3 R
  refine put_Bg (pc' := 21) (lv' := [(0, .ref 18), (1, .int v1)]) (st' := []) (lay' := LY70) (x := hset h3 18 2 c4) rfl e fun h5 e => ?_
  rw [hR, ← Option.some.inj e]; exact ret_Bg rfl

set_option maxRecDepth 100000 in
theorem BJpu_hangsOn (L : Nat) (xs : Nat → Int32) (v1 : Int32) (h : Hp) (o : Int32) (e : Jpu_hangsOn v1 h = some o) : Bg L xs 65 0 [(0, .ref 18), (1, .int v1)] [] LY70 h ([.int o], LY70, h) := by
  obtain ⟨R, hR⟩ : ∃ R : List Value × Lay × Hp, R = ([.int o], LY70, h) := ⟨_, rfl⟩
  rw [← hR]
  refine seg_Bg (pc' := (if (((h 18 1) >>> (v1 &&& 31) : Int32) &&& (1 : Int32)) = 0 then 15 else 11)) (lv' := [(0, .ref 18), (1, .int v1)]) (st' := []) (lay' := LY70) (h' := h) 7 rfl ?_
  refine pc_ite e (fun e => ?_) (fun e => ?_)
  · refine seg_Bg (pc' := 16) (lv' := [(0, .ref 18), (1, .int v1)]) (st' := [.int 0]) (lay' := LY70) (h' := h) 1 rfl ?_
    rw [hR, ← Option.some.inj e]; exact ret_Bg rfl
  · refine seg_Bg (pc' := 16) (lv' := [(0, .ref 18), (1, .int v1)]) (st' := [.int 1]) (lay' := LY70) (h' := h) 2 rfl ?_
    rw [hR, ← Option.some.inj e]; exact ret_Bg rfl

set_option maxRecDepth 100000 in
theorem BJcs_partsTo (L : Nat) (xs : Nat → Int32) (v1 : Int32) (v2 : Int32) (h : Hp) (o : Int32) (e : Jcs_partsTo v1 v2 h = some o) : Bg L xs 27 0 [(0, .ref 10), (1, .int v1), (2, .int v2)] [] LY70 h ([.int o], LY70, h) := by
  obtain ⟨R, hR⟩ : ∃ R : List Value × Lay × Hp, R = ([.int o], LY70, h) := ⟨_, rfl⟩
  rw [← hR]
  refine seg_Bg (pc' := (if v1 < 0 then 19 else 4)) (lv' := [(0, .ref 10), (1, .int v1), (2, .int v2)]) (st' := []) (lay' := LY70) (h' := h) 2 rfl ?_
  refine pc_ite e (fun e => ?_) (fun e => ?_)
  · refine seg_Bg (pc' := 20) (lv' := [(0, .ref 10), (1, .int v1), (2, .int v2)]) (st' := [.int 0]) (lay' := LY70) (h' := h) 1 rfl ?_
    rw [hR, ← Option.some.inj e]; exact ret_Bg rfl
  · refine seg_Bg (pc' := (if (h 10 12) < v1 then 19 else 12)) (lv' := [(0, .ref 10), (1, .int v1), (2, .int v2)]) (st' := []) (lay' := LY70) (h' := h) 4 rfl ?_
    refine pc_ite e (fun e => ?_) (fun e => ?_)
    · refine seg_Bg (pc' := 20) (lv' := [(0, .ref 10), (1, .int v1), (2, .int v2)]) (st' := [.int 0]) (lay' := LY70) (h' := h) 1 rfl ?_
      rw [hR, ← Option.some.inj e]; exact ret_Bg rfl
    · refine seg_Bg (pc' := (if 9999 < v1 then 19 else 21)) (lv' := [(0, .ref 10), (1, .int v1), (2, .int v2)]) (st' := []) (lay' := LY70) (h' := h) 3 rfl ?_
      refine pc_ite e (fun e => ?_) (fun e => ?_)
      · refine seg_Bg (pc' := 20) (lv' := [(0, .ref 10), (1, .int v1), (2, .int v2)]) (st' := [.int 0]) (lay' := LY70) (h' := h) 1 rfl ?_
        rw [hR, ← Option.some.inj e]; exact ret_Bg rfl
      · refine seg_Bg (pc' := (if v2 = 0 then 36 else 25)) (lv' := [(0, .ref 10), (1, .int v1), (2, .int v2)]) (st' := []) (lay' := LY70) (h' := h) 2 rfl ?_
        refine pc_ite e (fun e => ?_) (fun e => ?_)
        · refine seg_Bg (pc' := (if v1 = 0 then 40 else 44)) (lv' := [(0, .ref 10), (1, .int v1), (2, .int v2)]) (st' := []) (lay' := LY70) (h' := h) 2 rfl ?_
          refine pc_ite e (fun e => ?_) (fun e => ?_)
          · refine seg_Bg (pc' := 45) (lv' := [(0, .ref 10), (1, .int v1), (2, .int v2)]) (st' := [.int 1]) (lay' := LY70) (h' := h) 2 rfl ?_
            rw [hR, ← Option.some.inj e]; exact ret_Bg rfl
          · refine seg_Bg (pc' := 45) (lv' := [(0, .ref 10), (1, .int v1), (2, .int v2)]) (st' := [.int 0]) (lay' := LY70) (h' := h) 1 rfl ?_
            rw [hR, ← Option.some.inj e]; exact ret_Bg rfl
        · refine seg_Bg (pc' := 32) (lv' := [(0, .ref 10), (1, .int v1), (2, .int v2)]) (st' := [.int (v1 + (1 : Int32)), .ref 14]) (lay' := LY70) (h' := h) 5 rfl ?_
          refine gd_Bg (pc' := 33) (lv' := [(0, .ref 10), (1, .int v1), (2, .int v2)]) (st' := [.int (h 14 (Int32.toNatClampNeg (v1 + (1 : Int32))))]) (lay' := LY70) (h' := h) (g := ibB (v1 + (1 : Int32)) 10001) rfl e fun e => ?_
          refine seg_Bg (pc' := 45) (lv' := [(0, .ref 10), (1, .int v1), (2, .int v2)]) (st' := [.int (h 14 (Int32.toNatClampNeg (v1 + (1 : Int32))))]) (lay' := LY70) (h' := h) 1 rfl ?_
          rw [hR, ← Option.some.inj e]; exact ret_Bg rfl

set_option maxRecDepth 100000 in
theorem BJcs_partsFrom (L : Nat) (xs : Nat → Int32) (v1 : Int32) (v2 : Int32) (h : Hp) (o : Int32) (e : Jcs_partsFrom v1 v2 h = some o) : Bg L xs 26 0 [(0, .ref 10), (1, .int v1), (2, .int v2)] [] LY70 h ([.int o], LY70, h) := by
  obtain ⟨R, hR⟩ : ∃ R : List Value × Lay × Hp, R = ([.int o], LY70, h) := ⟨_, rfl⟩
  rw [← hR]
  refine seg_Bg (pc' := (if v2 = 0 then 32 else 4)) (lv' := [(0, .ref 10), (1, .int v1), (2, .int v2)]) (st' := []) (lay' := LY70) (h' := h) 2 rfl ?_
  refine pc_ite e (fun e => ?_) (fun e => ?_)
  · refine seg_Bg (pc' := 33) (lv' := [(0, .ref 10), (1, .int v1), (2, .int v2)]) (st' := [.int 0]) (lay' := LY70) (h' := h) 1 rfl ?_
    rw [hR, ← Option.some.inj e]; exact ret_Bg rfl
  · refine seg_Bg (pc' := (if v1 < 0 then 32 else 8)) (lv' := [(0, .ref 10), (1, .int v1), (2, .int v2)]) (st' := []) (lay' := LY70) (h' := h) 2 rfl ?_
    refine pc_ite e (fun e => ?_) (fun e => ?_)
    · refine seg_Bg (pc' := 33) (lv' := [(0, .ref 10), (1, .int v1), (2, .int v2)]) (st' := [.int 0]) (lay' := LY70) (h' := h) 1 rfl ?_
      rw [hR, ← Option.some.inj e]; exact ret_Bg rfl
    · refine seg_Bg (pc' := (if (h 10 12) < v1 then 32 else 16)) (lv' := [(0, .ref 10), (1, .int v1), (2, .int v2)]) (st' := []) (lay' := LY70) (h' := h) 4 rfl ?_
      refine pc_ite e (fun e => ?_) (fun e => ?_)
      · refine seg_Bg (pc' := 33) (lv' := [(0, .ref 10), (1, .int v1), (2, .int v2)]) (st' := [.int 0]) (lay' := LY70) (h' := h) 1 rfl ?_
        rw [hR, ← Option.some.inj e]; exact ret_Bg rfl
      · refine seg_Bg (pc' := (if 9999 < v1 then 32 else 23)) (lv' := [(0, .ref 10), (1, .int v1), (2, .int v2)]) (st' := []) (lay' := LY70) (h' := h) 3 rfl ?_
        refine pc_ite e (fun e => ?_) (fun e => ?_)
        · refine seg_Bg (pc' := 33) (lv' := [(0, .ref 10), (1, .int v1), (2, .int v2)]) (st' := [.int 0]) (lay' := LY70) (h' := h) 1 rfl ?_
          rw [hR, ← Option.some.inj e]; exact ret_Bg rfl
        · refine seg_Bg (pc' := 28) (lv' := [(0, .ref 10), (1, .int v1), (2, .int v2)]) (st' := [.int v1, .ref 14]) (lay' := LY70) (h' := h) 3 rfl ?_
          refine gd_Bg (pc' := 29) (lv' := [(0, .ref 10), (1, .int v1), (2, .int v2)]) (st' := [.int (h 14 (Int32.toNatClampNeg v1))]) (lay' := LY70) (h' := h) (g := ibB v1 10001) rfl e fun e => ?_
          refine seg_Bg (pc' := 33) (lv' := [(0, .ref 10), (1, .int v1), (2, .int v2)]) (st' := [.int (h 14 (Int32.toNatClampNeg v1))]) (lay' := LY70) (h' := h) 1 rfl ?_
          rw [hR, ← Option.some.inj e]; exact ret_Bg rfl

set_option maxRecDepth 100000 in
theorem BJpu_spread (L : Nat) (xs : Nat → Int32) (v1 : Int32) (h : Hp) (o : Int32) (e : Jpu_spread v1 h = some o) : Bg L xs 71 0 [(0, .ref 18), (1, .int v1)] [] LY70 h ([.int o], LY70, h) := by
  obtain ⟨R, hR⟩ : ∃ R : List Value × Lay × Hp, R = ([.int o], LY70, h) := ⟨_, rfl⟩
  rw [← hR]
  refine seg_Bg (pc' := 5) (lv' := [(0, .ref 18), (1, .int v1)]) (st' := [.int v1, .int (h 18 0)]) (lay' := LY70) (h' := h) 3 rfl ?_
  refine call_Bg (a := 3) (la := [(0, .int (h 18 0)), (1, .int v1)]) (np := 8) (lv' := [(0, .ref 18), (1, .int v1)]) (rest := []) (res := fun r => ([.int r], LY70, h)) rfl e (fun r e => BJco_tells L xs (h 18 0) v1 LY70 h r e) (fun c1 e => ?_)
  show Bg L xs 71 8 [(0, .ref 18), (1, .int v1)] [.int c1] LY70 h R
  refine seg_Bg (pc' := (if c1 = 1 then 12 else 18)) (lv' := [(0, .ref 18), (1, .int v1)]) (st' := []) (lay' := LY70) (h' := h) 2 rfl ?_
  refine pc_ite e (fun e => ?_) (fun e => ?_)
  · refine seg_Bg (pc' := 19) (lv' := [(0, .ref 18), (1, .int v1)]) (st' := [.int 255]) (lay' := LY70) (h' := h) 2 rfl ?_
    rw [hR, ← Option.some.inj e]; exact ret_Bg rfl
  · refine seg_Bg (pc' := 19) (lv' := [(0, .ref 18), (1, .int v1)]) (st' := [.int 0]) (lay' := LY70) (h' := h) 1 rfl ?_
    rw [hR, ← Option.some.inj e]; exact ret_Bg rfl

set_option maxRecDepth 100000 in
theorem BJpu_choose (L : Nat) (xs : Nat → Int32) (v0 : Int32) (v1 : Int32) (v2 : Int32) (lay : Lay) (h : Hp) (o : Int32) (e : Jpu_choose v0 v1 v2 = some o) : Bg L xs 72 0 [(0, .int v0), (1, .int v1), (2, .int v2)] [] lay h ([.int o], lay, h) := by
  obtain ⟨R, hR⟩ : ∃ R : List Value × Lay × Hp, R = ([.int o], lay, h) := ⟨_, rfl⟩
  rw [← hR]
  refine seg_Bg (pc' := 9) (lv' := [(0, .int v0), (1, .int v1), (2, .int v2)]) (st' := [.int ((v0 &&& v1) ||| ((v0 ^^^ (-1 : Int32)) &&& v2))]) (lay' := lay) (h' := h) 9 rfl ?_
  rw [hR, ← Option.some.inj e]; exact ret_Bg rfl

set_option maxRecDepth 100000 in
theorem BJpu_first_L2_s (L : Nat) (xs : Nat → Int32) (v1 : Int32) (R : List Value × Lay × Hp) (v2 : Int32) (h : Hp) (o : ((Int32 × Hp) ⊕ (Int32 × Hp))) (hH : ∀ s : Int32 × Hp, o = .inl s → Bg L xs 66 2 [(0, .ref 18), (1, .int v1), (2, .int s.1)] [] LY70 s.2 R) (hE : ∀ t : Int32 × Hp, o = .inr t → Bg L xs 66 35 [(0, .ref 18), (1, .int v1), (2, .int t.1)] [] LY70 t.2 R) (e : Jpu_first_L2 v1 v2 h = some o) : Bg L xs 66 2 [(0, .ref 18), (1, .int v1), (2, .int v2)] [] LY70 h R := by
  refine seg_Bg (pc' := (if v2 < 4 then 7 else 35)) (lv' := [(0, .ref 18), (1, .int v1), (2, .int v2)]) (st' := []) (lay' := LY70) (h' := h) 3 rfl ?_
  refine pc_ite e (fun e => ?_) (fun e => ?_)
  · refine seg_Bg (pc' := 17) (lv' := [(0, .ref 18), (1, .int v1), (2, .int v2)]) (st' := [.int ((4 : Int32) + v2), .ref 18, .int v1, .int v2, .ref 19]) (lay' := LY70) (h' := h) 8 rfl ?_
    refine call_Bg (a := 71) (la := [(0, .ref 18), (1, .int ((4 : Int32) + v2))]) (np := 20) (lv' := [(0, .ref 18), (1, .int v1), (2, .int v2)]) (rest := [.int v1, .int v2, .ref 19]) (res := fun r => ([.int r], LY70, h)) rfl e (fun r e => BJpu_spread L xs ((4 : Int32) + v2) h r e) (fun c1 e => ?_)
    show Bg L xs 66 20 [(0, .ref 18), (1, .int v1), (2, .int v2)] [.int c1, .int v1, .int v2, .ref 19] LY70 h R
    refine seg_Bg (pc' := 22) (lv' := [(0, .ref 18), (1, .int v1), (2, .int v2)]) (st' := [.int v2, .ref 18, .int c1, .int v1, .int v2, .ref 19]) (lay' := LY70) (h' := h) 2 rfl ?_
    refine call_Bg (a := 71) (la := [(0, .ref 18), (1, .int v2)]) (np := 25) (lv' := [(0, .ref 18), (1, .int v1), (2, .int v2)]) (rest := [.int c1, .int v1, .int v2, .ref 19]) (res := fun r => ([.int r], LY70, h)) rfl e (fun r e => BJpu_spread L xs v2 h r e) (fun c2 e => ?_)
    show Bg L xs 66 25 [(0, .ref 18), (1, .int v1), (2, .int v2)] [.int c2, .int c1, .int v1, .int v2, .ref 19] LY70 h R
    refine call_Bg (a := 72) (la := [(0, .int v1), (1, .int c1), (2, .int c2)]) (np := 28) (lv' := [(0, .ref 18), (1, .int v1), (2, .int v2)]) (rest := [.int v2, .ref 19]) (res := fun r => ([.int r], LY70, h)) rfl e (fun r e => BJpu_choose L xs v1 c1 c2 LY70 h r e) (fun c3 e => ?_)
    show Bg L xs 66 28 [(0, .ref 18), (1, .int v1), (2, .int v2)] [.int c3, .int v2, .ref 19] LY70 h R
    refine gp_Bg (pc' := 29) (lv' := [(0, .ref 18), (1, .int v1), (2, .int v2)]) (st' := []) (lay' := LY70) (x := hset h 19 (Int32.toNatClampNeg v2) c3) (g := ibB v2 4) rfl e fun h4 e => ?_
    refine seg_Bg (pc' := 2) (lv' := [(0, .ref 18), (1, .int v1), (2, .int (v2 + 1))]) (st' := []) (lay' := LY70) (h' := h4) 2 rfl ?_
    exact hH (v2 + 1, h4) (Option.some.inj e).symm
  · exact hE (v2, h) (Option.some.inj e).symm
theorem BJpu_first_L2 (L : Nat) (xs : Nat → Int32) (v1 : Int32) (R : List Value × Lay × Hp) (C : (Int32 × Hp) → Prop) (hE : ∀ t : Int32 × Hp, C t → Bg L xs 66 35 [(0, .ref 18), (1, .int v1), (2, .int t.1)] [] LY70 t.2 R) (n : Nat) (s : Int32 × Hp) (o : (Int32 × Hp)) (e : loopN n (fun s => Jpu_first_L2 v1 s.1 s.2) s = some o) (hC : C o) : Bg L xs 66 2 [(0, .ref 18), (1, .int v1), (2, .int s.1)] [] LY70 s.2 R := by
  refine loop_B (fun s => Jpu_first_L2 v1 s.1 s.2) (fun s : Int32 × Hp => Bg L xs 66 2 [(0, .ref 18), (1, .int v1), (2, .int s.1)] [] LY70 s.2 R) C (fun s o e => ?_) n s o e hC
  intro hK
  refine BJpu_first_L2_s L xs v1 R s.1 s.2 o (fun s q => by subst q; exact hK) (fun t q => by subst q; exact hE t hK) e
set_option maxRecDepth 100000 in
theorem BJpu_first (L : Nat) (xs : Nat → Int32) (v1 : Int32) (h : Hp) (o : Hp) (e : Jpu_first v1 h = some o) : Bg L xs 66 0 [(0, .ref 18), (1, .int v1)] [] LY70 h ([], LY70, o) := by
  obtain ⟨R, hR⟩ : ∃ R : List Value × Lay × Hp, R = ([], LY70, o) := ⟨_, rfl⟩
  rw [← hR]
  refine seg_Bg (pc' := 2) (lv' := [(0, .ref 18), (1, .int v1), (2, .int 0)]) (st' := []) (lay' := LY70) (h' := h) 2 rfl ?_
  obtain ⟨t5o, et5o, e⟩ := bd_s e
  refine BJpu_first_L2 L xs v1 R (fun (t5 : Int32 × Hp) => (some t5.2) = some o) (fun t5 e => ?_) 1000000 (0, h) _ et5o e
  rw [hR, ← Option.some.inj e]; exact ret_Bg rfl

set_option maxRecDepth 100000 in
theorem BJyn_isCode (L : Nat) (xs : Nat → Int32) (v0 : Int32) (lay : Lay) (h : Hp) (o : Int32) (e : Jyn_isCode v0 = some o) : Bg L xs 122 0 [(0, .int v0)] [] lay h ([.int o], lay, h) := by
  obtain ⟨R, hR⟩ : ∃ R : List Value × Lay × Hp, R = ([.int o], lay, h) := ⟨_, rfl⟩
  rw [← hR]
  refine seg_Bg (pc' := (if v0 < 0 then 15 else 4)) (lv' := [(0, .int v0)]) (st' := []) (lay' := lay) (h' := h) 2 rfl ?_
  refine pc_ite e (fun e => ?_) (fun e => ?_)
  · refine seg_Bg (pc' := 16) (lv' := [(0, .int v0)]) (st' := [.int 0]) (lay' := lay) (h' := h) 1 rfl ?_
    rw [hR, ← Option.some.inj e]; exact ret_Bg rfl
  · refine seg_Bg (pc' := (if v0 < 256 then 11 else 15)) (lv' := [(0, .int v0)]) (st' := []) (lay' := lay) (h' := h) 3 rfl ?_
    refine pc_ite e (fun e => ?_) (fun e => ?_)
    · refine seg_Bg (pc' := 16) (lv' := [(0, .int v0)]) (st' := [.int 1]) (lay' := lay) (h' := h) 2 rfl ?_
      rw [hR, ← Option.some.inj e]; exact ret_Bg rfl
    · refine seg_Bg (pc' := 16) (lv' := [(0, .int v0)]) (st' := [.int 0]) (lay' := lay) (h' := h) 1 rfl ?_
      rw [hR, ← Option.some.inj e]; exact ret_Bg rfl

set_option maxRecDepth 100000 in
theorem BJcs_isMade (L : Nat) (xs : Nat → Int32) (v1 : Int32) (h : Hp) (o : Int32) (e : Jcs_isMade v1 h = some o) : Bg L xs 32 0 [(0, .ref 10), (1, .int v1)] [] LY70 h ([.int o], LY70, h) := by
  obtain ⟨R, hR⟩ : ∃ R : List Value × Lay × Hp, R = ([.int o], LY70, h) := ⟨_, rfl⟩
  rw [← hR]
  refine seg_Bg (pc' := 1) (lv' := [(0, .ref 10), (1, .int v1)]) (st' := [.int v1]) (lay' := LY70) (h' := h) 1 rfl ?_
  refine call_Bg (a := 122) (la := [(0, .int v1)]) (np := 4) (lv' := [(0, .ref 10), (1, .int v1)]) (rest := []) (res := fun r => ([.int r], LY70, h)) rfl e (fun r e => BJyn_isCode L xs v1 LY70 h r e) (fun c1 e => ?_)
  show Bg L xs 32 4 [(0, .ref 10), (1, .int v1)] [.int c1] LY70 h R
  refine seg_Bg (pc' := (if c1 = 0 then 21 else 7)) (lv' := [(0, .ref 10), (1, .int v1)]) (st' := []) (lay' := LY70) (h' := h) 1 rfl ?_
  refine pc_ite e (fun e => ?_) (fun e => ?_)
  · refine seg_Bg (pc' := 22) (lv' := [(0, .ref 10), (1, .int v1)]) (st' := [.int 0]) (lay' := LY70) (h' := h) 1 rfl ?_
    rw [hR, ← Option.some.inj e]; exact ret_Bg rfl
  · refine seg_Bg (pc' := 12) (lv' := [(0, .ref 10), (1, .int v1)]) (st' := [.int v1, .ref 11]) (lay' := LY70) (h' := h) 3 rfl ?_
    refine gd_Bg (pc' := 13) (lv' := [(0, .ref 10), (1, .int v1)]) (st' := [.int (h 11 (Int32.toNatClampNeg v1))]) (lay' := LY70) (h' := h) (g := ibB v1 256) rfl e fun e => ?_
    refine seg_Bg (pc' := (if (h 11 (Int32.toNatClampNeg v1)) = (-1) then 21 else 17)) (lv' := [(0, .ref 10), (1, .int v1)]) (st' := []) (lay' := LY70) (h' := h) 2 rfl ?_
    refine pc_ite e (fun e => ?_) (fun e => ?_)
    · refine seg_Bg (pc' := 22) (lv' := [(0, .ref 10), (1, .int v1)]) (st' := [.int 0]) (lay' := LY70) (h' := h) 1 rfl ?_
      rw [hR, ← Option.some.inj e]; exact ret_Bg rfl
    · refine seg_Bg (pc' := 22) (lv' := [(0, .ref 10), (1, .int v1)]) (st' := [.int 1]) (lay' := LY70) (h' := h) 2 rfl ?_
      rw [hR, ← Option.some.inj e]; exact ret_Bg rfl

set_option maxRecDepth 100000 in
theorem BJpu_mayBecome_L9_s (L : Nat) (xs : Nat → Int32) (v1 : Int32) (h : Hp) (R : List Value × Lay × Hp) (v2 v3 v4 : Int32) (o : ((Int32 × Int32 × Int32) ⊕ (Int32 × Int32 × Int32))) (hH : ∀ s : Int32 × Int32 × Int32, o = .inl s → Bg L xs 67 9 [(0, .ref 18), (1, .int v1), (2, .int s.1), (3, .int s.2.1), (4, .int s.2.2)] [] LY70 h R) (hE : ∀ t : Int32 × Int32 × Int32, o = .inr t → Bg L xs 67 41 [(0, .ref 18), (1, .int v1), (2, .int t.1), (3, .int t.2.1), (4, .int t.2.2)] [] LY70 h R) (e : Jpu_mayBecome_L9 v1 h v2 v3 v4 = some o) : Bg L xs 67 9 [(0, .ref 18), (1, .int v1), (2, .int v2), (3, .int v3), (4, .int v4)] [] LY70 h R := by
  refine seg_Bg (pc' := (if v4 < 4 then 15 else 41)) (lv' := [(0, .ref 18), (1, .int v1), (2, .int v2), (3, .int v3), (4, .int v4)]) (st' := []) (lay' := LY70) (h' := h) 3 rfl ?_
  refine pc_ite e (fun e => ?_) (fun e => ?_)
  · refine seg_Bg (pc' := 22) (lv' := [(0, .ref 18), (1, .int v1), (2, .int v2), (3, .int v3), (4, .int v4)]) (st' := [.int v4, .ref 19, .int v2]) (lay' := LY70) (h' := h) 4 rfl ?_
    refine gd_Bg (pc' := 23) (lv' := [(0, .ref 18), (1, .int v1), (2, .int v2), (3, .int v3), (4, .int v4)]) (st' := [.int (h 19 (Int32.toNatClampNeg v4)), .int v2]) (lay' := LY70) (h' := h) (g := ibB v4 4) rfl e fun e => ?_
    refine seg_Bg (pc' := 32) (lv' := [(0, .ref 18), (1, .int v1), (2, .int (v2 ||| (h 19 (Int32.toNatClampNeg v4)))), (3, .int v3), (4, .int v4)]) (st' := [.int v4, .ref 19, .int v3]) (lay' := LY70) (h' := h) 6 rfl ?_
    refine gd_Bg (pc' := 33) (lv' := [(0, .ref 18), (1, .int v1), (2, .int (v2 ||| (h 19 (Int32.toNatClampNeg v4)))), (3, .int v3), (4, .int v4)]) (st' := [.int (h 19 (Int32.toNatClampNeg v4)), .int v3]) (lay' := LY70) (h' := h) (g := ibB v4 4) rfl e fun e => ?_
    refine seg_Bg (pc' := 9) (lv' := [(0, .ref 18), (1, .int v1), (2, .int (v2 ||| (h 19 (Int32.toNatClampNeg v4)))), (3, .int (v3 &&& (h 19 (Int32.toNatClampNeg v4)))), (4, .int (v4 + 1))]) (st' := []) (lay' := LY70) (h' := h) 4 rfl ?_
    exact hH (v2 ||| (h 19 (Int32.toNatClampNeg v4)), v3 &&& (h 19 (Int32.toNatClampNeg v4)), v4 + 1) (Option.some.inj e).symm
  · exact hE (v2, v3, v4) (Option.some.inj e).symm
theorem BJpu_mayBecome_L9 (L : Nat) (xs : Nat → Int32) (v1 : Int32) (h : Hp) (R : List Value × Lay × Hp) (C : (Int32 × Int32 × Int32) → Prop) (hE : ∀ t : Int32 × Int32 × Int32, C t → Bg L xs 67 41 [(0, .ref 18), (1, .int v1), (2, .int t.1), (3, .int t.2.1), (4, .int t.2.2)] [] LY70 h R) (n : Nat) (s : Int32 × Int32 × Int32) (o : (Int32 × Int32 × Int32)) (e : loopN n (fun s => Jpu_mayBecome_L9 v1 h s.1 s.2.1 s.2.2) s = some o) (hC : C o) : Bg L xs 67 9 [(0, .ref 18), (1, .int v1), (2, .int s.1), (3, .int s.2.1), (4, .int s.2.2)] [] LY70 h R := by
  refine loop_B (fun s => Jpu_mayBecome_L9 v1 h s.1 s.2.1 s.2.2) (fun s : Int32 × Int32 × Int32 => Bg L xs 67 9 [(0, .ref 18), (1, .int v1), (2, .int s.1), (3, .int s.2.1), (4, .int s.2.2)] [] LY70 h R) C (fun s o e => ?_) n s o e hC
  intro hK
  refine BJpu_mayBecome_L9_s L xs v1 h R s.1 s.2.1 s.2.2 o (fun s q => by subst q; exact hK) (fun t q => by subst q; exact hE t hK) e
set_option maxRecDepth 100000 in
theorem BJpu_mayBecome (L : Nat) (xs : Nat → Int32) (v1 : Int32) (h : Hp) (o : Int32) (e : Jpu_mayBecome v1 h = some o) : Bg L xs 67 0 [(0, .ref 18), (1, .int v1)] [] LY70 h ([.int o], LY70, h) := by
  obtain ⟨R, hR⟩ : ∃ R : List Value × Lay × Hp, R = ([.int o], LY70, h) := ⟨_, rfl⟩
  rw [← hR]
  refine seg_Bg (pc' := 9) (lv' := [(0, .ref 18), (1, .int v1), (2, .int 0), (3, .int 255), (4, .int 0)]) (st' := []) (lay' := LY70) (h' := h) 6 rfl ?_
  obtain ⟨t1o, et1o, e⟩ := bd_s e
  refine BJpu_mayBecome_L9 L xs v1 h R (fun (t1 : Int32 × Int32 × Int32) => (if (v1 &&& (t1.1 ^^^ (-1 : Int32))) = 0 then if (t1.2.1 &&& (v1 ^^^ (-1 : Int32))) = 0 then some 1 else some 0 else some 0) = some o) (fun t1 e => ?_) 1000000 (0, 255, 0) _ et1o e
  refine seg_Bg (pc' := (if (v1 &&& (t1.1 ^^^ (-1 : Int32))) = 0 then 49 else 61)) (lv' := [(0, .ref 18), (1, .int v1), (2, .int t1.1), (3, .int t1.2.1), (4, .int t1.2.2)]) (st' := []) (lay' := LY70) (h' := h) 6 rfl ?_
  refine pc_ite e (fun e => ?_) (fun e => ?_)
  · refine seg_Bg (pc' := (if (t1.2.1 &&& (v1 ^^^ (-1 : Int32))) = 0 then 57 else 61)) (lv' := [(0, .ref 18), (1, .int v1), (2, .int t1.1), (3, .int t1.2.1), (4, .int t1.2.2)]) (st' := []) (lay' := LY70) (h' := h) 6 rfl ?_
    refine pc_ite e (fun e => ?_) (fun e => ?_)
    · refine seg_Bg (pc' := 62) (lv' := [(0, .ref 18), (1, .int v1), (2, .int t1.1), (3, .int t1.2.1), (4, .int t1.2.2)]) (st' := [.int 1]) (lay' := LY70) (h' := h) 2 rfl ?_
      rw [hR, ← Option.some.inj e]; exact ret_Bg rfl
    · refine seg_Bg (pc' := 62) (lv' := [(0, .ref 18), (1, .int v1), (2, .int t1.1), (3, .int t1.2.1), (4, .int t1.2.2)]) (st' := [.int 0]) (lay' := LY70) (h' := h) 1 rfl ?_
      rw [hR, ← Option.some.inj e]; exact ret_Bg rfl
  · refine seg_Bg (pc' := 62) (lv' := [(0, .ref 18), (1, .int v1), (2, .int t1.1), (3, .int t1.2.1), (4, .int t1.2.2)]) (st' := [.int 0]) (lay' := LY70) (h' := h) 1 rfl ?_
    rw [hR, ← Option.some.inj e]; exact ret_Bg rfl

set_option maxRecDepth 100000 in
theorem BJcs_aim_L7_s (L : Nat) (xs : Nat → Int32) (R : List Value × Lay × Hp) (v1 : Int32) (h : Hp) (o : ((Int32 × Hp) ⊕ (Int32 × Hp))) (hH : ∀ s : Int32 × Hp, o = .inl s → Bg L xs 21 7 [(0, .ref 10), (1, .int s.1)] [] LY70 s.2 R) (hE : ∀ t : Int32 × Hp, o = .inr t → Bg L xs 21 82 [(0, .ref 10), (1, .int t.1)] [] LY70 t.2 R) (e : Jcs_aim_L7 v1 h = some o) : Bg L xs 21 7 [(0, .ref 10), (1, .int v1)] [] LY70 h R := by
  refine seg_Bg (pc' := (if v1 < (h 10 10) then 15 else 82)) (lv' := [(0, .ref 10), (1, .int v1)]) (st' := []) (lay' := LY70) (h' := h) 4 rfl ?_
  refine pc_ite e (fun e => ?_) (fun e => ?_)
  · refine seg_Bg (pc' := (if v1 < 256 then 22 else 82)) (lv' := [(0, .ref 10), (1, .int v1)]) (st' := []) (lay' := LY70) (h' := h) 3 rfl ?_
    refine pc_ite e (fun e => ?_) (fun e => ?_)
    · refine seg_Bg (pc' := 28) (lv' := [(0, .ref 10), (1, .int v1)]) (st' := [.int v1, .ref 15, .ref 10]) (lay' := LY70) (h' := h) 4 rfl ?_
      refine gd_Bg (pc' := 29) (lv' := [(0, .ref 10), (1, .int v1)]) (st' := [.int (h 15 (Int32.toNatClampNeg v1)), .ref 10]) (lay' := LY70) (h' := h) (g := ibB v1 256) rfl e fun e => ?_
      refine call_Bg (a := 32) (la := [(0, .ref 10), (1, .int (h 15 (Int32.toNatClampNeg v1)))]) (np := 32) (lv' := [(0, .ref 10), (1, .int v1)]) (rest := []) (res := fun r => ([.int r], LY70, h)) rfl e (fun r e => BJcs_isMade L xs (h 15 (Int32.toNatClampNeg v1)) h r e) (fun c2 e => ?_)
      show Bg L xs 21 32 [(0, .ref 10), (1, .int v1)] [.int c2] LY70 h R
      refine seg_Bg (pc' := (if c2 = 0 then 35 else 76)) (lv' := [(0, .ref 10), (1, .int v1)]) (st' := []) (lay' := LY70) (h' := h) 1 rfl ?_
      refine pc_ite e (fun e => ?_) (fun e => ?_)
      · refine seg_Bg (pc' := 44) (lv' := [(0, .ref 10), (1, .int v1)]) (st' := [.int v1, .ref 15, .ref 18]) (lay' := LY70) (h' := h) 5 rfl ?_
        refine gd_Bg (pc' := 45) (lv' := [(0, .ref 10), (1, .int v1)]) (st' := [.int (h 15 (Int32.toNatClampNeg v1)), .ref 18]) (lay' := LY70) (h' := h) (g := ibB v1 256) rfl e fun e => ?_
        refine call_Bg (a := 67) (la := [(0, .ref 18), (1, .int (h 15 (Int32.toNatClampNeg v1)))]) (np := 48) (lv' := [(0, .ref 10), (1, .int v1)]) (rest := []) (res := fun r => ([.int r], LY70, h)) rfl e (fun r e => BJpu_mayBecome L xs (h 15 (Int32.toNatClampNeg v1)) h r e) (fun c3 e => ?_)
        show Bg L xs 21 48 [(0, .ref 10), (1, .int v1)] [.int c3] LY70 h R
        refine seg_Bg (pc' := (if c3 = 0 then 76 else 51)) (lv' := [(0, .ref 10), (1, .int v1)]) (st' := []) (lay' := LY70) (h' := h) 1 rfl ?_
        refine pc_ite e (fun e => ?_) (fun e => ?_)
        · refine seg_Bg (pc' := 7) (lv' := [(0, .ref 10), (1, .int (v1 + 1))]) (st' := []) (lay' := LY70) (h' := h) 2 rfl ?_
          exact hH (v1 + 1, h) (Option.some.inj e).symm
        · refine seg_Bg (pc' := 64) (lv' := [(0, .ref 10), (1, .int v1)]) (st' := [.int v1, .ref 15, .int (h 10 11), .ref 16]) (lay' := LY70) (h' := h) 7 rfl ?_
          refine gd_Bg (pc' := 65) (lv' := [(0, .ref 10), (1, .int v1)]) (st' := [.int (h 15 (Int32.toNatClampNeg v1)), .int (h 10 11), .ref 16]) (lay' := LY70) (h' := h) (g := ibB v1 256) rfl e fun e => ?_
          refine gp_Bg (pc' := 66) (lv' := [(0, .ref 10), (1, .int v1)]) (st' := []) (lay' := LY70) (x := hset h 16 (Int32.toNatClampNeg (h 10 11)) (h 15 (Int32.toNatClampNeg v1))) (g := ibB (h 10 11) 256) rfl e fun h4 e => ?_
          refine seg_Bg (pc' := 73) (lv' := [(0, .ref 10), (1, .int v1)]) (st' := [.int ((h4 10 11) + (1 : Int32)), .ref 10]) (lay' := LY70) (h' := h4) 5 rfl ?_
          refine put_Bg (pc' := 76) (lv' := [(0, .ref 10), (1, .int v1)]) (st' := []) (lay' := LY70) (x := hset h4 10 11 ((h4 10 11) + (1 : Int32))) rfl e fun h5 e => ?_
          refine seg_Bg (pc' := 7) (lv' := [(0, .ref 10), (1, .int (v1 + 1))]) (st' := []) (lay' := LY70) (h' := h5) 2 rfl ?_
          exact hH (v1 + 1, h5) (Option.some.inj e).symm
      · refine seg_Bg (pc' := 7) (lv' := [(0, .ref 10), (1, .int (v1 + 1))]) (st' := []) (lay' := LY70) (h' := h) 2 rfl ?_
        exact hH (v1 + 1, h) (Option.some.inj e).symm
    · exact hE (v1, h) (Option.some.inj e).symm
  · exact hE (v1, h) (Option.some.inj e).symm
theorem BJcs_aim_L7 (L : Nat) (xs : Nat → Int32) (R : List Value × Lay × Hp) (C : (Int32 × Hp) → Prop) (hE : ∀ t : Int32 × Hp, C t → Bg L xs 21 82 [(0, .ref 10), (1, .int t.1)] [] LY70 t.2 R) (n : Nat) (s : Int32 × Hp) (o : (Int32 × Hp)) (e : loopN n (fun s => Jcs_aim_L7 s.1 s.2) s = some o) (hC : C o) : Bg L xs 21 7 [(0, .ref 10), (1, .int s.1)] [] LY70 s.2 R := by
  refine loop_B (fun s => Jcs_aim_L7 s.1 s.2) (fun s : Int32 × Hp => Bg L xs 21 7 [(0, .ref 10), (1, .int s.1)] [] LY70 s.2 R) C (fun s o e => ?_) n s o e hC
  intro hK
  refine BJcs_aim_L7_s L xs R s.1 s.2 o (fun s q => by subst q; exact hK) (fun t q => by subst q; exact hE t hK) e
set_option maxRecDepth 100000 in
theorem BJcs_aim (L : Nat) (xs : Nat → Int32) (h : Hp) (o : Hp) (e : Jcs_aim h = some o) : Bg L xs 21 0 [(0, .ref 10)] [] LY70 h ([], LY70, o) := by
  obtain ⟨R, hR⟩ : ∃ R : List Value × Lay × Hp, R = ([], LY70, o) := ⟨_, rfl⟩
  rw [← hR]
  refine seg_Bg (pc' := 2) (lv' := [(0, .ref 10)]) (st' := [.int 0, .ref 10]) (lay' := LY70) (h' := h) 2 rfl ?_
  refine put_Bg (pc' := 5) (lv' := [(0, .ref 10)]) (st' := []) (lay' := LY70) (x := hset h 10 11 0) rfl e fun h1 e => ?_
  refine seg_Bg (pc' := 7) (lv' := [(0, .ref 10), (1, .int 0)]) (st' := []) (lay' := LY70) (h' := h1) 2 rfl ?_
  obtain ⟨t6o, et6o, e⟩ := bd_s e
  refine BJcs_aim_L7 L xs R (fun (t6 : Int32 × Hp) => (some t6.2) = some o) (fun t6 e => ?_) 1000000 (0, h1) _ et6o e
  rw [hR, ← Option.some.inj e]; exact ret_Bg rfl

set_option maxRecDepth 100000 in
theorem BJpu_second (L : Nat) (xs : Nat → Int32) (v1 : Int32) (h : Hp) (o : Hp) (e : Jpu_second v1 h = some o) : Bg L xs 68 0 [(0, .ref 18), (1, .int v1)] [] LY70 h ([], LY70, o) := by
  obtain ⟨R, hR⟩ : ∃ R : List Value × Lay × Hp, R = ([], LY70, o) := ⟨_, rfl⟩
  rw [← hR]
  refine seg_Bg (pc' := 14) (lv' := [(0, .ref 18), (1, .int v1)]) (st' := [.int (h 19 0), .int (h 19 2), .int v1, .ref 18]) (lay' := LY70) (h' := h) 10 rfl ?_
  refine call_Bg (a := 72) (la := [(0, .int v1), (1, .int (h 19 2)), (2, .int (h 19 0))]) (np := 17) (lv' := [(0, .ref 18), (1, .int v1)]) (rest := [.ref 18]) (res := fun r => ([.int r], LY70, h)) rfl e (fun r e => BJpu_choose L xs v1 (h 19 2) (h 19 0) LY70 h r e) (fun c1 e => ?_)
  show Bg L xs 68 17 [(0, .ref 18), (1, .int v1)] [.int c1, .ref 18] LY70 h R
  refine put_Bg (pc' := 20) (lv' := [(0, .ref 18), (1, .int v1)]) (st' := []) (lay' := LY70) (x := hset h 18 4 c1) rfl e fun h2 e => ?_
  refine seg_Bg (pc' := 38) (lv' := [(0, .ref 18), (1, .int v1)]) (st' := [.int (h2 19 1), .int (h2 19 3), .int v1, .int (h2 18 4), .ref 18]) (lay' := LY70) (h' := h2) 12 rfl ?_
  refine call_Bg (a := 72) (la := [(0, .int v1), (1, .int (h2 19 3)), (2, .int (h2 19 1))]) (np := 41) (lv' := [(0, .ref 18), (1, .int v1)]) (rest := [.int (h2 18 4), .ref 18]) (res := fun r => ([.int r], LY70, h2)) rfl e (fun r e => BJpu_choose L xs v1 (h2 19 3) (h2 19 1) LY70 h2 r e) (fun c3 e => ?_)
  show Bg L xs 68 41 [(0, .ref 18), (1, .int v1)] [.int c3, .int (h2 18 4), .ref 18] LY70 h2 R
  refine seg_Bg (pc' := 42) (lv' := [(0, .ref 18), (1, .int v1)]) (st' := [.int ((h2 18 4) ^^^ c3), .ref 18]) (lay' := LY70) (h' := h2) 1 rfl ?_
  refine put_Bg (pc' := 45) (lv' := [(0, .ref 18), (1, .int v1)]) (st' := []) (lay' := LY70) (x := hset h2 18 5 ((h2 18 4) ^^^ c3)) rfl e fun h4 e => ?_
  rw [hR, ← Option.some.inj e]; exact ret_Bg rfl

set_option maxRecDepth 100000 in
theorem BJpu_canBecome (L : Nat) (xs : Nat → Int32) (v1 : Int32) (h : Hp) (o : Int32) (e : Jpu_canBecome v1 h = some o) : Bg L xs 69 0 [(0, .ref 18), (1, .int v1)] [] LY70 h ([.int o], LY70, h) := by
  obtain ⟨R, hR⟩ : ∃ R : List Value × Lay × Hp, R = ([.int o], LY70, h) := ⟨_, rfl⟩
  rw [← hR]
  refine seg_Bg (pc' := (if ((v1 ^^^ (h 18 4)) &&& ((h 18 5) ^^^ (-1 : Int32))) = 0 then 16 else 20)) (lv' := [(0, .ref 18), (1, .int v1)]) (st' := []) (lay' := LY70) (h' := h) 10 rfl ?_
  refine pc_ite e (fun e => ?_) (fun e => ?_)
  · refine seg_Bg (pc' := 21) (lv' := [(0, .ref 18), (1, .int v1)]) (st' := [.int 1]) (lay' := LY70) (h' := h) 2 rfl ?_
    rw [hR, ← Option.some.inj e]; exact ret_Bg rfl
  · refine seg_Bg (pc' := 21) (lv' := [(0, .ref 18), (1, .int v1)]) (st' := [.int 0]) (lay' := LY70) (h' := h) 1 rfl ?_
    rw [hR, ← Option.some.inj e]; exact ret_Bg rfl

set_option maxRecDepth 100000 in
theorem BJpu_third (L : Nat) (xs : Nat → Int32) (v1 : Int32) (h : Hp) (o : Int32) (e : Jpu_third v1 h = some o) : Bg L xs 70 0 [(0, .ref 18), (1, .int v1)] [] LY70 h ([.int o], LY70, h) := by
  obtain ⟨R, hR⟩ : ∃ R : List Value × Lay × Hp, R = ([.int o], LY70, h) := ⟨_, rfl⟩
  rw [← hR]
  refine seg_Bg (pc' := 15) (lv' := [(0, .ref 18), (1, .int v1)]) (st' := [.int (((h 18 4) ^^^ ((h 18 5) &&& v1)) &&& (255 : Int32))]) (lay' := LY70) (h' := h) 9 rfl ?_
  rw [hR, ← Option.some.inj e]; exact ret_Bg rfl

set_option maxRecDepth 100000 in
theorem BJcs_someThird_L7_s (L : Nat) (xs : Nat → Int32) (v1 v2 v3 : Int32) (h : Hp) (R : List Value × Lay × Hp) (v4 : Int32) (o : ((Int32) ⊕ ((Int32) ⊕ (Int32)))) (hH : ∀ s : Int32, o = .inl s → Bg L xs 24 7 [(0, .ref 10), (1, .int v1), (2, .int v2), (3, .int v3), (4, .int s)] [] LY70 h R) (hE : ∀ t : Int32, o = .inr (.inl t) → Bg L xs 24 47 [(0, .ref 10), (1, .int v1), (2, .int v2), (3, .int v3), (4, .int t)] [] LY70 h R) (hR : ∀ r : Int32, o = .inr (.inr r) → R = ([.int r], LY70, h)) (e : Jcs_someThird_L7 v1 v2 v3 h v4 = some o) : Bg L xs 24 7 [(0, .ref 10), (1, .int v1), (2, .int v2), (3, .int v3), (4, .int v4)] [] LY70 h R := by
  refine seg_Bg (pc' := (if v4 < v3 then 13 else 47)) (lv' := [(0, .ref 10), (1, .int v1), (2, .int v2), (3, .int v3), (4, .int v4)]) (st' := []) (lay' := LY70) (h' := h) 3 rfl ?_
  refine pc_ite e (fun e => ?_) (fun e => ?_)
  · refine seg_Bg (pc' := (if v4 < 256 then 21 else 47)) (lv' := [(0, .ref 10), (1, .int v1), (2, .int v2), (3, .int v3), (4, .int v4)]) (st' := []) (lay' := LY70) (h' := h) 3 rfl ?_
    refine pc_ite e (fun e => ?_) (fun e => ?_)
    · refine seg_Bg (pc' := 31) (lv' := [(0, .ref 10), (1, .int v1), (2, .int v2), (3, .int v3), (4, .int v4)]) (st' := [.int v4, .ref 13, .ref 18]) (lay' := LY70) (h' := h) 5 rfl ?_
      refine gd_Bg (pc' := 32) (lv' := [(0, .ref 10), (1, .int v1), (2, .int v2), (3, .int v3), (4, .int v4)]) (st' := [.int (h 13 (Int32.toNatClampNeg v4)), .ref 18]) (lay' := LY70) (h' := h) (g := ibB v4 256) rfl e fun e => ?_
      refine call_Bg (a := 70) (la := [(0, .ref 18), (1, .int (h 13 (Int32.toNatClampNeg v4)))]) (np := 35) (lv' := [(0, .ref 10), (1, .int v1), (2, .int v2), (3, .int v3), (4, .int v4)]) (rest := []) (res := fun r => ([.int r], LY70, h)) rfl e (fun r e => BJpu_third L xs (h 13 (Int32.toNatClampNeg v4)) h r e) (fun c1 e => ?_)
      show Bg L xs 24 35 [(0, .ref 10), (1, .int v1), (2, .int v2), (3, .int v3), (4, .int v4)] [.int c1] LY70 h R
      refine seg_Bg (pc' := (if c1 = v1 then 39 else 41)) (lv' := [(0, .ref 10), (1, .int v1), (2, .int v2), (3, .int v3), (4, .int v4)]) (st' := []) (lay' := LY70) (h' := h) 2 rfl ?_
      refine pc_ite e (fun e => ?_) (fun e => ?_)
      · refine seg_Bg (pc' := 40) (lv' := [(0, .ref 10), (1, .int v1), (2, .int v2), (3, .int v3), (4, .int v4)]) (st' := [.int 1]) (lay' := LY70) (h' := h) 1 rfl ?_
        rw [hR 1 (Option.some.inj e).symm]; exact ret_Bg rfl
      · refine seg_Bg (pc' := 7) (lv' := [(0, .ref 10), (1, .int v1), (2, .int v2), (3, .int v3), (4, .int (v4 + 1))]) (st' := []) (lay' := LY70) (h' := h) 2 rfl ?_
        exact hH (v4 + 1) (Option.some.inj e).symm
    · exact hE v4 (Option.some.inj e).symm
  · exact hE v4 (Option.some.inj e).symm
theorem BJcs_someThird_L7 (L : Nat) (xs : Nat → Int32) (v1 v2 v3 : Int32) (h : Hp) (R : List Value × Lay × Hp) (C : ((Int32) ⊕ (Int32)) → Prop) (hE : ∀ t : Int32, C (.inl t) → Bg L xs 24 47 [(0, .ref 10), (1, .int v1), (2, .int v2), (3, .int v3), (4, .int t)] [] LY70 h R) (hR : ∀ r : Int32, C (.inr r) → R = ([.int r], LY70, h)) (n : Nat) (s : Int32) (o : ((Int32) ⊕ (Int32))) (e : loopN n (fun s => Jcs_someThird_L7 v1 v2 v3 h s) s = some o) (hC : C o) : Bg L xs 24 7 [(0, .ref 10), (1, .int v1), (2, .int v2), (3, .int v3), (4, .int s)] [] LY70 h R := by
  refine loop_B (fun s => Jcs_someThird_L7 v1 v2 v3 h s) (fun s : Int32 => Bg L xs 24 7 [(0, .ref 10), (1, .int v1), (2, .int v2), (3, .int v3), (4, .int s)] [] LY70 h R) C (fun s o e => ?_) n s o e hC
  intro hK
  refine BJcs_someThird_L7_s L xs v1 v2 v3 h R s o (fun s q => by subst q; exact hK) (fun t q => by subst q; exact hE t hK) (fun r q => by subst q; exact hR r hK) e
set_option maxRecDepth 100000 in
theorem BJcs_someThird (L : Nat) (xs : Nat → Int32) (v1 : Int32) (v2 : Int32) (v3 : Int32) (h : Hp) (o : Int32) (e : Jcs_someThird v1 v2 v3 h = some o) : Bg L xs 24 0 [(0, .ref 10), (1, .int v1), (2, .int v2), (3, .int v3)] [] LY70 h ([.int o], LY70, h) := by
  obtain ⟨R, hR⟩ : ∃ R : List Value × Lay × Hp, R = ([.int o], LY70, h) := ⟨_, rfl⟩
  rw [← hR]
  refine seg_Bg (pc' := 7) (lv' := [(0, .ref 10), (1, .int v1), (2, .int v2), (3, .int v3), (4, .int (if v2 < 0 then 0 else v2))]) (st' := []) (lay' := LY70) (h' := h) 4 rfl ?_
  obtain ⟨t2o, et2o, e⟩ := bd_s e
  refine BJcs_someThird_L7 L xs v1 v2 v3 h R (fun (t2x : (Int32) ⊕ (Int32)) => (sm t2x (fun t2 => some 0) (fun r2 => some r2)) = some o) (fun t2 e => ?_) (fun r2 e => ?_) 1000000 (if v2 < 0 then 0 else v2) _ et2o e
  · refine seg_Bg (pc' := 48) (lv' := [(0, .ref 10), (1, .int v1), (2, .int v2), (3, .int v3), (4, .int t2)]) (st' := [.int 0]) (lay' := LY70) (h' := h) 1 rfl ?_
    rw [hR, ← Option.some.inj e]; exact ret_Bg rfl
  · rw [hR]; exact congrArg (fun r => (([.int r], LY70, h) : List Value × Lay × Hp)) (Option.some.inj e).symm

set_option maxRecDepth 100000 in
theorem BJcs_make (L : Nat) (xs : Nat → Int32) (v1 : Int32) (h : Hp) (o : Hp) (e : Jcs_make v1 h = some o) : Bg L xs 25 0 [(0, .ref 10), (1, .int v1)] [] LY70 h ([], LY70, o) := by
  obtain ⟨R, hR⟩ : ∃ R : List Value × Lay × Hp, R = ([], LY70, o) := ⟨_, rfl⟩
  rw [← hR]
  refine seg_Bg (pc' := 1) (lv' := [(0, .ref 10), (1, .int v1)]) (st' := [.int v1]) (lay' := LY70) (h' := h) 1 rfl ?_
  refine call_Bg (a := 122) (la := [(0, .int v1)]) (np := 4) (lv' := [(0, .ref 10), (1, .int v1)]) (rest := []) (res := fun r => ([.int r], LY70, h)) rfl e (fun r e => BJyn_isCode L xs v1 LY70 h r e) (fun c1 e => ?_)
  show Bg L xs 25 4 [(0, .ref 10), (1, .int v1)] [.int c1] LY70 h R
  refine seg_Bg (pc' := (if c1 = 0 then 37 else 7)) (lv' := [(0, .ref 10), (1, .int v1)]) (st' := []) (lay' := LY70) (h' := h) 1 rfl ?_
  refine pc_ite e (fun e => ?_) (fun e => ?_)
  · rw [hR, ← Option.some.inj e]; exact ret_Bg rfl
  · refine seg_Bg (pc' := 12) (lv' := [(0, .ref 10), (1, .int v1)]) (st' := [.int v1, .ref 11]) (lay' := LY70) (h' := h) 3 rfl ?_
    refine gd_Bg (pc' := 13) (lv' := [(0, .ref 10), (1, .int v1)]) (st' := [.int (h 11 (Int32.toNatClampNeg v1))]) (lay' := LY70) (h' := h) (g := ibB v1 256) rfl e fun e => ?_
    refine seg_Bg (pc' := (if (h 11 (Int32.toNatClampNeg v1)) = (-1) then 17 else 37)) (lv' := [(0, .ref 10), (1, .int v1)]) (st' := []) (lay' := LY70) (h' := h) 2 rfl ?_
    refine pc_ite e (fun e => ?_) (fun e => ?_)
    · refine seg_Bg (pc' := 26) (lv' := [(0, .ref 10), (1, .int v1)]) (st' := [.int (h 10 12), .int v1, .ref 11]) (lay' := LY70) (h' := h) 5 rfl ?_
      refine gp_Bg (pc' := 27) (lv' := [(0, .ref 10), (1, .int v1)]) (st' := []) (lay' := LY70) (x := hset h 11 (Int32.toNatClampNeg v1) (h 10 12)) (g := ibB v1 256) rfl e fun h2 e => ?_
      refine seg_Bg (pc' := 36) (lv' := [(0, .ref 10), (1, .int v1)]) (st' := [.int (h2 10 14), .int v1, .ref 12]) (lay' := LY70) (h' := h2) 5 rfl ?_
      refine gp_Bg (pc' := 37) (lv' := [(0, .ref 10), (1, .int v1)]) (st' := []) (lay' := LY70) (x := hset h2 12 (Int32.toNatClampNeg v1) (h2 10 14)) (g := ibB v1 256) rfl e fun h3 e => ?_
      rw [hR, ← Option.some.inj e]; exact ret_Bg rfl
    · rw [hR, ← Option.some.inj e]; exact ret_Bg rfl

set_option maxRecDepth 100000 in
theorem BJcs_tryThirds_L12_s (L : Nat) (xs : Nat → Int32) (v1 v2 : Int32) (R : List Value × Lay × Hp) (v3 : Int32) (h : Hp) (o : ((Int32 × Hp) ⊕ (Int32 × Hp))) (hH : ∀ s : Int32 × Hp, o = .inl s → Bg L xs 23 12 [(0, .ref 10), (1, .int v1), (2, .int v2), (3, .int s.1)] [] LY70 s.2 R) (hE : ∀ t : Int32 × Hp, o = .inr t → Bg L xs 23 87 [(0, .ref 10), (1, .int v1), (2, .int v2), (3, .int t.1)] [] LY70 t.2 R) (e : Jcs_tryThirds_L12 v1 v2 v3 h = some o) : Bg L xs 23 12 [(0, .ref 10), (1, .int v1), (2, .int v2), (3, .int v3)] [] LY70 h R := by
  refine seg_Bg (pc' := (if v3 < (h 10 11) then 20 else 87)) (lv' := [(0, .ref 10), (1, .int v1), (2, .int v2), (3, .int v3)]) (st' := []) (lay' := LY70) (h' := h) 4 rfl ?_
  refine pc_ite e (fun e => ?_) (fun e => ?_)
  · refine seg_Bg (pc' := (if v3 < 256 then 27 else 87)) (lv' := [(0, .ref 10), (1, .int v1), (2, .int v2), (3, .int v3)]) (st' := []) (lay' := LY70) (h' := h) 3 rfl ?_
    refine pc_ite e (fun e => ?_) (fun e => ?_)
    · refine seg_Bg (pc' := 36) (lv' := [(0, .ref 10), (1, .int v1), (2, .int v2), (3, .int v3)]) (st' := [.int v3, .ref 16, .ref 18]) (lay' := LY70) (h' := h) 5 rfl ?_
      refine gd_Bg (pc' := 37) (lv' := [(0, .ref 10), (1, .int v1), (2, .int v2), (3, .int v3)]) (st' := [.int (h 16 (Int32.toNatClampNeg v3)), .ref 18]) (lay' := LY70) (h' := h) (g := ibB v3 256) rfl e fun e => ?_
      refine call_Bg (a := 69) (la := [(0, .ref 18), (1, .int (h 16 (Int32.toNatClampNeg v3)))]) (np := 40) (lv' := [(0, .ref 10), (1, .int v1), (2, .int v2), (3, .int v3)]) (rest := []) (res := fun r => ([.int r], LY70, h)) rfl e (fun r e => BJpu_canBecome L xs (h 16 (Int32.toNatClampNeg v3)) h r e) (fun c1 e => ?_)
      show Bg L xs 23 40 [(0, .ref 10), (1, .int v1), (2, .int v2), (3, .int v3)] [.int c1] LY70 h R
      refine seg_Bg (pc' := (if c1 = 0 then 81 else 43)) (lv' := [(0, .ref 10), (1, .int v1), (2, .int v2), (3, .int v3)]) (st' := []) (lay' := LY70) (h' := h) 1 rfl ?_
      refine pc_ite e (fun e => ?_) (fun e => ?_)
      · refine seg_Bg (pc' := 12) (lv' := [(0, .ref 10), (1, .int v1), (2, .int v2), (3, .int (v3 + 1))]) (st' := []) (lay' := LY70) (h' := h) 2 rfl ?_
        exact hH (v3 + 1, h) (Option.some.inj e).symm
      · refine seg_Bg (pc' := 49) (lv' := [(0, .ref 10), (1, .int v1), (2, .int v2), (3, .int v3)]) (st' := [.int v3, .ref 16, .ref 10]) (lay' := LY70) (h' := h) 4 rfl ?_
        refine gd_Bg (pc' := 50) (lv' := [(0, .ref 10), (1, .int v1), (2, .int v2), (3, .int v3)]) (st' := [.int (h 16 (Int32.toNatClampNeg v3)), .ref 10]) (lay' := LY70) (h' := h) (g := ibB v3 256) rfl e fun e => ?_
        refine call_Bg (a := 32) (la := [(0, .ref 10), (1, .int (h 16 (Int32.toNatClampNeg v3)))]) (np := 53) (lv' := [(0, .ref 10), (1, .int v1), (2, .int v2), (3, .int v3)]) (rest := []) (res := fun r => ([.int r], LY70, h)) rfl e (fun r e => BJcs_isMade L xs (h 16 (Int32.toNatClampNeg v3)) h r e) (fun c2 e => ?_)
        show Bg L xs 23 53 [(0, .ref 10), (1, .int v1), (2, .int v2), (3, .int v3)] [.int c2] LY70 h R
        refine seg_Bg (pc' := (if c2 = 0 then 56 else 81)) (lv' := [(0, .ref 10), (1, .int v1), (2, .int v2), (3, .int v3)]) (st' := []) (lay' := LY70) (h' := h) 1 rfl ?_
        refine pc_ite e (fun e => ?_) (fun e => ?_)
        · refine seg_Bg (pc' := 62) (lv' := [(0, .ref 10), (1, .int v1), (2, .int v2), (3, .int v3)]) (st' := [.int v3, .ref 16, .ref 10]) (lay' := LY70) (h' := h) 4 rfl ?_
          refine gd_Bg (pc' := 63) (lv' := [(0, .ref 10), (1, .int v1), (2, .int v2), (3, .int v3)]) (st' := [.int (h 16 (Int32.toNatClampNeg v3)), .ref 10]) (lay' := LY70) (h' := h) (g := ibB v3 256) rfl e fun e => ?_
          refine seg_Bg (pc' := 65) (lv' := [(0, .ref 10), (1, .int v1), (2, .int v2), (3, .int v3)]) (st' := [.int v2, .int v1, .int (h 16 (Int32.toNatClampNeg v3)), .ref 10]) (lay' := LY70) (h' := h) 2 rfl ?_
          refine call_Bg (a := 24) (la := [(0, .ref 10), (1, .int (h 16 (Int32.toNatClampNeg v3))), (2, .int v1), (3, .int v2)]) (np := 68) (lv' := [(0, .ref 10), (1, .int v1), (2, .int v2), (3, .int v3)]) (rest := []) (res := fun r => ([.int r], LY70, h)) rfl e (fun r e => BJcs_someThird L xs (h 16 (Int32.toNatClampNeg v3)) v1 v2 h r e) (fun c3 e => ?_)
          show Bg L xs 23 68 [(0, .ref 10), (1, .int v1), (2, .int v2), (3, .int v3)] [.int c3] LY70 h R
          refine seg_Bg (pc' := (if c3 = 0 then 81 else 71)) (lv' := [(0, .ref 10), (1, .int v1), (2, .int v2), (3, .int v3)]) (st' := []) (lay' := LY70) (h' := h) 1 rfl ?_
          refine pc_ite e (fun e => ?_) (fun e => ?_)
          · refine seg_Bg (pc' := 12) (lv' := [(0, .ref 10), (1, .int v1), (2, .int v2), (3, .int (v3 + 1))]) (st' := []) (lay' := LY70) (h' := h) 2 rfl ?_
            exact hH (v3 + 1, h) (Option.some.inj e).symm
          · refine seg_Bg (pc' := 77) (lv' := [(0, .ref 10), (1, .int v1), (2, .int v2), (3, .int v3)]) (st' := [.int v3, .ref 16, .ref 10]) (lay' := LY70) (h' := h) 4 rfl ?_
            refine gd_Bg (pc' := 78) (lv' := [(0, .ref 10), (1, .int v1), (2, .int v2), (3, .int v3)]) (st' := [.int (h 16 (Int32.toNatClampNeg v3)), .ref 10]) (lay' := LY70) (h' := h) (g := ibB v3 256) rfl e fun e => ?_
            refine call_Bg (a := 25) (la := [(0, .ref 10), (1, .int (h 16 (Int32.toNatClampNeg v3)))]) (np := 81) (lv' := [(0, .ref 10), (1, .int v1), (2, .int v2), (3, .int v3)]) (rest := []) (res := fun r => ([], LY70, r)) rfl e (fun r e => BJcs_make L xs (h 16 (Int32.toNatClampNeg v3)) h r e) (fun c4 e => ?_)
            show Bg L xs 23 81 [(0, .ref 10), (1, .int v1), (2, .int v2), (3, .int v3)] [] LY70 c4 R
            refine seg_Bg (pc' := 12) (lv' := [(0, .ref 10), (1, .int v1), (2, .int v2), (3, .int (v3 + 1))]) (st' := []) (lay' := LY70) (h' := c4) 2 rfl ?_
            exact hH (v3 + 1, c4) (Option.some.inj e).symm
        · refine seg_Bg (pc' := 12) (lv' := [(0, .ref 10), (1, .int v1), (2, .int v2), (3, .int (v3 + 1))]) (st' := []) (lay' := LY70) (h' := h) 2 rfl ?_
          exact hH (v3 + 1, h) (Option.some.inj e).symm
    · exact hE (v3, h) (Option.some.inj e).symm
  · exact hE (v3, h) (Option.some.inj e).symm
theorem BJcs_tryThirds_L12 (L : Nat) (xs : Nat → Int32) (v1 v2 : Int32) (R : List Value × Lay × Hp) (C : (Int32 × Hp) → Prop) (hE : ∀ t : Int32 × Hp, C t → Bg L xs 23 87 [(0, .ref 10), (1, .int v1), (2, .int v2), (3, .int t.1)] [] LY70 t.2 R) (n : Nat) (s : Int32 × Hp) (o : (Int32 × Hp)) (e : loopN n (fun s => Jcs_tryThirds_L12 v1 v2 s.1 s.2) s = some o) (hC : C o) : Bg L xs 23 12 [(0, .ref 10), (1, .int v1), (2, .int v2), (3, .int s.1)] [] LY70 s.2 R := by
  refine loop_B (fun s => Jcs_tryThirds_L12 v1 v2 s.1 s.2) (fun s : Int32 × Hp => Bg L xs 23 12 [(0, .ref 10), (1, .int v1), (2, .int v2), (3, .int s.1)] [] LY70 s.2 R) C (fun s o e => ?_) n s o e hC
  intro hK
  refine BJcs_tryThirds_L12_s L xs v1 v2 R s.1 s.2 o (fun s q => by subst q; exact hK) (fun t q => by subst q; exact hE t hK) e
set_option maxRecDepth 100000 in
theorem BJcs_tryThirds_L94_s (L : Nat) (xs : Nat → Int32) (v1 v2 : Int32) (R : List Value × Lay × Hp) (v3 : Int32) (h : Hp) (o : ((Int32 × Hp) ⊕ (Int32 × Hp))) (hH : ∀ s : Int32 × Hp, o = .inl s → Bg L xs 23 94 [(0, .ref 10), (1, .int v1), (2, .int v2), (3, .int s.1)] [] LY70 s.2 R) (hE : ∀ t : Int32 × Hp, o = .inr t → Bg L xs 23 129 [(0, .ref 10), (1, .int v1), (2, .int v2), (3, .int t.1)] [] LY70 t.2 R) (e : Jcs_tryThirds_L94 v1 v2 v3 h = some o) : Bg L xs 23 94 [(0, .ref 10), (1, .int v1), (2, .int v2), (3, .int v3)] [] LY70 h R := by
  refine seg_Bg (pc' := (if v3 < v2 then 99 else 129)) (lv' := [(0, .ref 10), (1, .int v1), (2, .int v2), (3, .int v3)]) (st' := []) (lay' := LY70) (h' := h) 3 rfl ?_
  refine pc_ite e (fun e => ?_) (fun e => ?_)
  · refine seg_Bg (pc' := (if v3 < 256 then 106 else 129)) (lv' := [(0, .ref 10), (1, .int v1), (2, .int v2), (3, .int v3)]) (st' := []) (lay' := LY70) (h' := h) 3 rfl ?_
    refine pc_ite e (fun e => ?_) (fun e => ?_)
    · refine seg_Bg (pc' := 116) (lv' := [(0, .ref 10), (1, .int v1), (2, .int v2), (3, .int v3)]) (st' := [.int v3, .ref 13, .ref 18, .ref 10]) (lay' := LY70) (h' := h) 6 rfl ?_
      refine gd_Bg (pc' := 117) (lv' := [(0, .ref 10), (1, .int v1), (2, .int v2), (3, .int v3)]) (st' := [.int (h 13 (Int32.toNatClampNeg v3)), .ref 18, .ref 10]) (lay' := LY70) (h' := h) (g := ibB v3 256) rfl e fun e => ?_
      refine call_Bg (a := 70) (la := [(0, .ref 18), (1, .int (h 13 (Int32.toNatClampNeg v3)))]) (np := 120) (lv' := [(0, .ref 10), (1, .int v1), (2, .int v2), (3, .int v3)]) (rest := [.ref 10]) (res := fun r => ([.int r], LY70, h)) rfl e (fun r e => BJpu_third L xs (h 13 (Int32.toNatClampNeg v3)) h r e) (fun c6 e => ?_)
      show Bg L xs 23 120 [(0, .ref 10), (1, .int v1), (2, .int v2), (3, .int v3)] [.int c6, .ref 10] LY70 h R
      refine call_Bg (a := 25) (la := [(0, .ref 10), (1, .int c6)]) (np := 123) (lv' := [(0, .ref 10), (1, .int v1), (2, .int v2), (3, .int v3)]) (rest := []) (res := fun r => ([], LY70, r)) rfl e (fun r e => BJcs_make L xs c6 h r e) (fun c7 e => ?_)
      show Bg L xs 23 123 [(0, .ref 10), (1, .int v1), (2, .int v2), (3, .int v3)] [] LY70 c7 R
      refine seg_Bg (pc' := 94) (lv' := [(0, .ref 10), (1, .int v1), (2, .int v2), (3, .int (v3 + 1))]) (st' := []) (lay' := LY70) (h' := c7) 2 rfl ?_
      exact hH (v3 + 1, c7) (Option.some.inj e).symm
    · exact hE (v3, h) (Option.some.inj e).symm
  · exact hE (v3, h) (Option.some.inj e).symm
theorem BJcs_tryThirds_L94 (L : Nat) (xs : Nat → Int32) (v1 v2 : Int32) (R : List Value × Lay × Hp) (C : (Int32 × Hp) → Prop) (hE : ∀ t : Int32 × Hp, C t → Bg L xs 23 129 [(0, .ref 10), (1, .int v1), (2, .int v2), (3, .int t.1)] [] LY70 t.2 R) (n : Nat) (s : Int32 × Hp) (o : (Int32 × Hp)) (e : loopN n (fun s => Jcs_tryThirds_L94 v1 v2 s.1 s.2) s = some o) (hC : C o) : Bg L xs 23 94 [(0, .ref 10), (1, .int v1), (2, .int v2), (3, .int s.1)] [] LY70 s.2 R := by
  refine loop_B (fun s => Jcs_tryThirds_L94 v1 v2 s.1 s.2) (fun s : Int32 × Hp => Bg L xs 23 94 [(0, .ref 10), (1, .int v1), (2, .int v2), (3, .int s.1)] [] LY70 s.2 R) C (fun s o e => ?_) n s o e hC
  intro hK
  refine BJcs_tryThirds_L94_s L xs v1 v2 R s.1 s.2 o (fun s q => by subst q; exact hK) (fun t q => by subst q; exact hE t hK) e
set_option maxRecDepth 100000 in
theorem BJcs_tryThirds (L : Nat) (xs : Nat → Int32) (v1 : Int32) (v2 : Int32) (h : Hp) (o : Hp) (e : Jcs_tryThirds v1 v2 h = some o) : Bg L xs 23 0 [(0, .ref 10), (1, .int v1), (2, .int v2)] [] LY70 h ([], LY70, o) := by
  obtain ⟨R, hR⟩ : ∃ R : List Value × Lay × Hp, R = ([], LY70, o) := ⟨_, rfl⟩
  rw [← hR]
  refine seg_Bg (pc' := (if (h 10 11) < (v2 - v1) then 10 else 88)) (lv' := [(0, .ref 10), (1, .int v1), (2, .int v2)]) (st' := []) (lay' := LY70) (h' := h) 6 rfl ?_
  refine pc_ite e (fun e => ?_) (fun e => ?_)
  · refine seg_Bg (pc' := 12) (lv' := [(0, .ref 10), (1, .int v1), (2, .int v2), (3, .int 0)]) (st' := []) (lay' := LY70) (h' := h) 2 rfl ?_
    obtain ⟨t5o, et5o, e⟩ := bd_s e
    refine BJcs_tryThirds_L12 L xs v1 v2 R (fun (t5 : Int32 × Hp) => (some t5.2) = some o) (fun t5 e => ?_) 1000000 (0, h) _ et5o e
    rw [hR, ← Option.some.inj e]; exact ret_Bg rfl
  · refine seg_Bg (pc' := 94) (lv' := [(0, .ref 10), (1, .int v1), (2, .int v2), (3, .int (if v1 < 0 then 0 else v1))]) (st' := []) (lay' := LY70) (h' := h) 4 rfl ?_
    obtain ⟨t8o, et8o, e⟩ := bd_s e
    refine BJcs_tryThirds_L94 L xs v1 v2 R (fun (t8 : Int32 × Hp) => (some t8.2) = some o) (fun t8 e => ?_) 1000000 (if v1 < 0 then 0 else v1, h) _ et8o e
    rw [hR, ← Option.some.inj e]; exact ret_Bg rfl

set_option maxRecDepth 100000 in
theorem BJcs_trySeconds_L89_s (L : Nat) (xs : Nat → Int32) (v1 v2 v3 v4 v5 v6 : Int32) (R : List Value × Lay × Hp) (v7 : Int32) (h : Hp) (o : ((Int32 × Hp) ⊕ (Int32 × Hp))) (hH : ∀ s : Int32 × Hp, o = .inl s → Bg L xs 22 89 [(0, .ref 10), (1, .int v1), (2, .int v2), (3, .int v3), (4, .int v4), (5, .int v5), (6, .int v6), (7, .int s.1)] [] LY70 s.2 R) (hE : ∀ t : Int32 × Hp, o = .inr t → Bg L xs 22 132 [(0, .ref 10), (1, .int v1), (2, .int v2), (3, .int v3), (4, .int v4), (5, .int v5), (6, .int v6), (7, .int t.1)] [] LY70 t.2 R) (e : Jcs_trySeconds_L89 v1 v2 v3 v4 v5 v6 v7 h = some o) : Bg L xs 22 89 [(0, .ref 10), (1, .int v1), (2, .int v2), (3, .int v3), (4, .int v4), (5, .int v5), (6, .int v6), (7, .int v7)] [] LY70 h R := by
  refine seg_Bg (pc' := (if v7 < v6 then 96 else 132)) (lv' := [(0, .ref 10), (1, .int v1), (2, .int v2), (3, .int v3), (4, .int v4), (5, .int v5), (6, .int v6), (7, .int v7)]) (st' := []) (lay' := LY70) (h' := h) 3 rfl ?_
  refine pc_ite e (fun e => ?_) (fun e => ?_)
  · refine seg_Bg (pc' := (if v7 < 256 then 104 else 132)) (lv' := [(0, .ref 10), (1, .int v1), (2, .int v2), (3, .int v3), (4, .int v4), (5, .int v5), (6, .int v6), (7, .int v7)]) (st' := []) (lay' := LY70) (h' := h) 3 rfl ?_
    refine pc_ite e (fun e => ?_) (fun e => ?_)
    · refine seg_Bg (pc' := 114) (lv' := [(0, .ref 10), (1, .int v1), (2, .int v2), (3, .int v3), (4, .int v4), (5, .int v5), (6, .int v6), (7, .int v7)]) (st' := [.int v7, .ref 13, .ref 18]) (lay' := LY70) (h' := h) 5 rfl ?_
      refine gd_Bg (pc' := 115) (lv' := [(0, .ref 10), (1, .int v1), (2, .int v2), (3, .int v3), (4, .int v4), (5, .int v5), (6, .int v6), (7, .int v7)]) (st' := [.int (h 13 (Int32.toNatClampNeg v7)), .ref 18]) (lay' := LY70) (h' := h) (g := ibB v7 256) rfl e fun e => ?_
      refine call_Bg (a := 68) (la := [(0, .ref 18), (1, .int (h 13 (Int32.toNatClampNeg v7)))]) (np := 118) (lv' := [(0, .ref 10), (1, .int v1), (2, .int v2), (3, .int v3), (4, .int v4), (5, .int v5), (6, .int v6), (7, .int v7)]) (rest := []) (res := fun r => ([], LY70, r)) rfl e (fun r e => BJpu_second L xs (h 13 (Int32.toNatClampNeg v7)) h r e) (fun c8 e => ?_)
      show Bg L xs 22 118 [(0, .ref 10), (1, .int v1), (2, .int v2), (3, .int v3), (4, .int v4), (5, .int v5), (6, .int v6), (7, .int v7)] [] LY70 c8 R
      refine seg_Bg (pc' := 123) (lv' := [(0, .ref 10), (1, .int v1), (2, .int v2), (3, .int v3), (4, .int v4), (5, .int v5), (6, .int v6), (7, .int v7)]) (st' := [.int v5, .int v4, .ref 10]) (lay' := LY70) (h' := c8) 3 rfl ?_
      refine call_Bg (a := 23) (la := [(0, .ref 10), (1, .int v4), (2, .int v5)]) (np := 126) (lv' := [(0, .ref 10), (1, .int v1), (2, .int v2), (3, .int v3), (4, .int v4), (5, .int v5), (6, .int v6), (7, .int v7)]) (rest := []) (res := fun r => ([], LY70, r)) rfl e (fun r e => BJcs_tryThirds L xs v4 v5 c8 r e) (fun c9 e => ?_)
      show Bg L xs 22 126 [(0, .ref 10), (1, .int v1), (2, .int v2), (3, .int v3), (4, .int v4), (5, .int v5), (6, .int v6), (7, .int v7)] [] LY70 c9 R
      refine seg_Bg (pc' := 89) (lv' := [(0, .ref 10), (1, .int v1), (2, .int v2), (3, .int v3), (4, .int v4), (5, .int v5), (6, .int v6), (7, .int (v7 + 1))]) (st' := []) (lay' := LY70) (h' := c9) 2 rfl ?_
      exact hH (v7 + 1, c9) (Option.some.inj e).symm
    · exact hE (v7, h) (Option.some.inj e).symm
  · exact hE (v7, h) (Option.some.inj e).symm
theorem BJcs_trySeconds_L89 (L : Nat) (xs : Nat → Int32) (v1 v2 v3 v4 v5 v6 : Int32) (R : List Value × Lay × Hp) (C : (Int32 × Hp) → Prop) (hE : ∀ t : Int32 × Hp, C t → Bg L xs 22 132 [(0, .ref 10), (1, .int v1), (2, .int v2), (3, .int v3), (4, .int v4), (5, .int v5), (6, .int v6), (7, .int t.1)] [] LY70 t.2 R) (n : Nat) (s : Int32 × Hp) (o : (Int32 × Hp)) (e : loopN n (fun s => Jcs_trySeconds_L89 v1 v2 v3 v4 v5 v6 s.1 s.2) s = some o) (hC : C o) : Bg L xs 22 89 [(0, .ref 10), (1, .int v1), (2, .int v2), (3, .int v3), (4, .int v4), (5, .int v5), (6, .int v6), (7, .int s.1)] [] LY70 s.2 R := by
  refine loop_B (fun s => Jcs_trySeconds_L89 v1 v2 v3 v4 v5 v6 s.1 s.2) (fun s : Int32 × Hp => Bg L xs 22 89 [(0, .ref 10), (1, .int v1), (2, .int v2), (3, .int v3), (4, .int v4), (5, .int v5), (6, .int v6), (7, .int s.1)] [] LY70 s.2 R) C (fun s o e => ?_) n s o e hC
  intro hK
  refine BJcs_trySeconds_L89_s L xs v1 v2 v3 v4 v5 v6 R s.1 s.2 o (fun s q => by subst q; exact hK) (fun t q => by subst q; exact hE t hK) e
set_option maxRecDepth 100000 in
theorem BJcs_trySeconds_J75 (L : Nat) (xs : Nat → Int32) (v1 v2 v3 v4 v5 s0 : Int32) (h : Hp) (o : ((Int32 × Hp) ⊕ (Int32 × Hp))) (e : Jcs_trySeconds_J75 v1 v2 v3 v4 v5 s0 h = some o) (R : List Value × Lay × Hp) (hH : ∀ s : Int32 × Hp, o = .inl s → Bg L xs 22 11 [(0, .ref 10), (1, .int v1), (2, .int v2), (3, .int s.1)] [] LY70 s.2 R) (hE : ∀ t : Int32 × Hp, o = .inr t → Bg L xs 22 138 [(0, .ref 10), (1, .int v1), (2, .int v2), (3, .int t.1)] [] LY70 t.2 R) : Bg L xs 22 75 [(0, .ref 10), (1, .int v1), (2, .int v2), (3, .int v3), (4, .int v4), (5, .int v5)] [.int s0] LY70 h R := by
  refine seg_Bg (pc' := 80) (lv' := [(0, .ref 10), (1, .int v1), (2, .int v2), (3, .int v3), (4, .int v4), (5, .int v5), (6, .int s0)]) (st' := [.int v2, .int v3, .ref 10]) (lay' := LY70) (h' := h) 4 rfl ?_
  refine call_Bg (a := 26) (la := [(0, .ref 10), (1, .int v3), (2, .int v2)]) (np := 83) (lv' := [(0, .ref 10), (1, .int v1), (2, .int v2), (3, .int v3), (4, .int v4), (5, .int v5), (6, .int s0)]) (rest := []) (res := fun r => ([.int r], LY70, h)) rfl e (fun r e => BJcs_partsFrom L xs v3 v2 h r e) (fun c7 e => ?_)
  show Bg L xs 22 83 [(0, .ref 10), (1, .int v1), (2, .int v2), (3, .int v3), (4, .int v4), (5, .int v5), (6, .int s0)] [.int c7] LY70 h R
  refine seg_Bg (pc' := 89) (lv' := [(0, .ref 10), (1, .int v1), (2, .int v2), (3, .int v3), (4, .int v4), (5, .int v5), (6, .int s0), (7, .int (if c7 < 0 then 0 else c7))]) (st' := []) (lay' := LY70) (h' := h) 3 rfl ?_
  obtain ⟨t10o, et10o, e⟩ := bd_s e
  refine BJcs_trySeconds_L89 L xs v1 v2 v3 v4 v5 s0 R (fun (t10 : Int32 × Hp) => (some (.inl (v3 + 1, t10.2))) = some o) (fun t10 e => ?_) 1000000 (if c7 < 0 then 0 else c7, h) _ et10o e
  refine seg_Bg (pc' := 11) (lv' := [(0, .ref 10), (1, .int v1), (2, .int v2), (3, .int (v3 + 1)), (4, .int v4), (5, .int v5), (6, .int s0), (7, .int t10.1)]) (st' := []) (lay' := LY70) (h' := t10.2) 2 rfl ?_
  refine kp_Bg (lv' := [(0, .ref 10), (1, .int v1), (2, .int v2), (3, .int (v3 + 1))]) rfl rfl ?_
  exact hH (v3 + 1, t10.2) (Option.some.inj e).symm
set_option maxRecDepth 100000 in
theorem BJcs_trySeconds_L11_s (L : Nat) (xs : Nat → Int32) (v1 v2 : Int32) (R : List Value × Lay × Hp) (v3 : Int32) (h : Hp) (o : ((Int32 × Hp) ⊕ (Int32 × Hp))) (hH : ∀ s : Int32 × Hp, o = .inl s → Bg L xs 22 11 [(0, .ref 10), (1, .int v1), (2, .int v2), (3, .int s.1)] [] LY70 s.2 R) (hE : ∀ t : Int32 × Hp, o = .inr t → Bg L xs 22 138 [(0, .ref 10), (1, .int v1), (2, .int v2), (3, .int t.1)] [] LY70 t.2 R) (e : Jcs_trySeconds_L11 v1 v2 v3 h = some o) : Bg L xs 22 11 [(0, .ref 10), (1, .int v1), (2, .int v2), (3, .int v3)] [] LY70 h R := by
  refine seg_Bg (pc' := (if v1 < v3 then 138 else 16)) (lv' := [(0, .ref 10), (1, .int v1), (2, .int v2), (3, .int v3)]) (st' := []) (lay' := LY70) (h' := h) 3 rfl ?_
  refine pc_ite e (fun e => ?_) (fun e => ?_)
  · exact hE (v3, h) (Option.some.inj e).symm
  · refine seg_Bg (pc' := (if v3 = 0 then 24 else 20)) (lv' := [(0, .ref 10), (1, .int v1), (2, .int v2), (3, .int v3)]) (st' := []) (lay' := LY70) (h' := h) 2 rfl ?_
    refine pc_ite e (fun e => ?_) (fun e => ?_)
    · refine seg_Bg (pc' := 33) (lv' := [(0, .ref 10), (1, .int v1), (2, .int v2), (3, .int v3)]) (st' := [.int 2, .ref 18, .int (v1 - v3), .ref 10]) (lay' := LY70) (h' := h) 7 rfl ?_
      refine call_Bg (a := 65) (la := [(0, .ref 18), (1, .int 2)]) (np := 36) (lv' := [(0, .ref 10), (1, .int v1), (2, .int v2), (3, .int v3)]) (rest := [.int (v1 - v3), .ref 10]) (res := fun r => ([.int r], LY70, h)) rfl e (fun r e => BJpu_hangsOn L xs 2 h r e) (fun c2 e => ?_)
      show Bg L xs 22 36 [(0, .ref 10), (1, .int v1), (2, .int v2), (3, .int v3)] [.int c2, .int (v1 - v3), .ref 10] LY70 h R
      refine call_Bg (a := 26) (la := [(0, .ref 10), (1, .int (v1 - v3)), (2, .int c2)]) (np := 39) (lv' := [(0, .ref 10), (1, .int v1), (2, .int v2), (3, .int v3)]) (rest := []) (res := fun r => ([.int r], LY70, h)) rfl e (fun r e => BJcs_partsFrom L xs (v1 - v3) c2 h r e) (fun c3 e => ?_)
      show Bg L xs 22 39 [(0, .ref 10), (1, .int v1), (2, .int v2), (3, .int v3)] [.int c3] LY70 h R
      refine seg_Bg (pc' := 50) (lv' := [(0, .ref 10), (1, .int v1), (2, .int v2), (3, .int v3), (4, .int c3)]) (st' := [.int 2, .ref 18, .int (v1 - v3), .ref 10]) (lay' := LY70) (h' := h) 8 rfl ?_
      refine call_Bg (a := 65) (la := [(0, .ref 18), (1, .int 2)]) (np := 53) (lv' := [(0, .ref 10), (1, .int v1), (2, .int v2), (3, .int v3), (4, .int c3)]) (rest := [.int (v1 - v3), .ref 10]) (res := fun r => ([.int r], LY70, h)) rfl e (fun r e => BJpu_hangsOn L xs 2 h r e) (fun c4 e => ?_)
      show Bg L xs 22 53 [(0, .ref 10), (1, .int v1), (2, .int v2), (3, .int v3), (4, .int c3)] [.int c4, .int (v1 - v3), .ref 10] LY70 h R
      refine call_Bg (a := 27) (la := [(0, .ref 10), (1, .int (v1 - v3)), (2, .int c4)]) (np := 56) (lv' := [(0, .ref 10), (1, .int v1), (2, .int v2), (3, .int v3), (4, .int c3)]) (rest := []) (res := fun r => ([.int r], LY70, h)) rfl e (fun r e => BJcs_partsTo L xs (v1 - v3) c4 h r e) (fun c5 e => ?_)
      show Bg L xs 22 56 [(0, .ref 10), (1, .int v1), (2, .int v2), (3, .int v3), (4, .int c3)] [.int c5] LY70 h R
      refine seg_Bg (pc' := (if c3 < c5 then 65 else 74)) (lv' := [(0, .ref 10), (1, .int v1), (2, .int v2), (3, .int v3), (4, .int c3), (5, .int c5)]) (st' := []) (lay' := LY70) (h' := h) 4 rfl ?_
      refine pc_ite e (fun e => ?_) (fun e => ?_)
      · refine seg_Bg (pc' := 68) (lv' := [(0, .ref 10), (1, .int v1), (2, .int v2), (3, .int v3), (4, .int c3), (5, .int c5)]) (st' := [.int v2, .int v3, .ref 10]) (lay' := LY70) (h' := h) 3 rfl ?_
        refine call_Bg (a := 27) (la := [(0, .ref 10), (1, .int v3), (2, .int v2)]) (np := 71) (lv' := [(0, .ref 10), (1, .int v1), (2, .int v2), (3, .int v3), (4, .int c3), (5, .int c5)]) (rest := []) (res := fun r => ([.int r], LY70, h)) rfl e (fun r e => BJcs_partsTo L xs v3 v2 h r e) (fun c6 e => ?_)
        show Bg L xs 22 71 [(0, .ref 10), (1, .int v1), (2, .int v2), (3, .int v3), (4, .int c3), (5, .int c5)] [.int c6] LY70 h R
        refine seg_Bg (pc' := 75) (lv' := [(0, .ref 10), (1, .int v1), (2, .int v2), (3, .int v3), (4, .int c3), (5, .int c5)]) (st' := [.int c6]) (lay' := LY70) (h' := h) 1 rfl ?_
        exact BJcs_trySeconds_J75 L xs v1 v2 v3 c3 c5 c6 h o e R hH hE
      · refine seg_Bg (pc' := 75) (lv' := [(0, .ref 10), (1, .int v1), (2, .int v2), (3, .int v3), (4, .int c3), (5, .int c5)]) (st' := [.int 0]) (lay' := LY70) (h' := h) 1 rfl ?_
        exact BJcs_trySeconds_J75 L xs v1 v2 v3 c3 c5 0 h o e R hH hE
    · refine seg_Bg (pc' := (if v2 = 0 then 138 else 24)) (lv' := [(0, .ref 10), (1, .int v1), (2, .int v2), (3, .int v3)]) (st' := []) (lay' := LY70) (h' := h) 2 rfl ?_
      refine pc_ite e (fun e => ?_) (fun e => ?_)
      · exact hE (v3, h) (Option.some.inj e).symm
      · refine seg_Bg (pc' := 33) (lv' := [(0, .ref 10), (1, .int v1), (2, .int v2), (3, .int v3)]) (st' := [.int 2, .ref 18, .int (v1 - v3), .ref 10]) (lay' := LY70) (h' := h) 7 rfl ?_
        refine call_Bg (a := 65) (la := [(0, .ref 18), (1, .int 2)]) (np := 36) (lv' := [(0, .ref 10), (1, .int v1), (2, .int v2), (3, .int v3)]) (rest := [.int (v1 - v3), .ref 10]) (res := fun r => ([.int r], LY70, h)) rfl e (fun r e => BJpu_hangsOn L xs 2 h r e) (fun c11 e => ?_)
        show Bg L xs 22 36 [(0, .ref 10), (1, .int v1), (2, .int v2), (3, .int v3)] [.int c11, .int (v1 - v3), .ref 10] LY70 h R
        refine call_Bg (a := 26) (la := [(0, .ref 10), (1, .int (v1 - v3)), (2, .int c11)]) (np := 39) (lv' := [(0, .ref 10), (1, .int v1), (2, .int v2), (3, .int v3)]) (rest := []) (res := fun r => ([.int r], LY70, h)) rfl e (fun r e => BJcs_partsFrom L xs (v1 - v3) c11 h r e) (fun c12 e => ?_)
        show Bg L xs 22 39 [(0, .ref 10), (1, .int v1), (2, .int v2), (3, .int v3)] [.int c12] LY70 h R
        refine seg_Bg (pc' := 50) (lv' := [(0, .ref 10), (1, .int v1), (2, .int v2), (3, .int v3), (4, .int c12)]) (st' := [.int 2, .ref 18, .int (v1 - v3), .ref 10]) (lay' := LY70) (h' := h) 8 rfl ?_
        refine call_Bg (a := 65) (la := [(0, .ref 18), (1, .int 2)]) (np := 53) (lv' := [(0, .ref 10), (1, .int v1), (2, .int v2), (3, .int v3), (4, .int c12)]) (rest := [.int (v1 - v3), .ref 10]) (res := fun r => ([.int r], LY70, h)) rfl e (fun r e => BJpu_hangsOn L xs 2 h r e) (fun c13 e => ?_)
        show Bg L xs 22 53 [(0, .ref 10), (1, .int v1), (2, .int v2), (3, .int v3), (4, .int c12)] [.int c13, .int (v1 - v3), .ref 10] LY70 h R
        refine call_Bg (a := 27) (la := [(0, .ref 10), (1, .int (v1 - v3)), (2, .int c13)]) (np := 56) (lv' := [(0, .ref 10), (1, .int v1), (2, .int v2), (3, .int v3), (4, .int c12)]) (rest := []) (res := fun r => ([.int r], LY70, h)) rfl e (fun r e => BJcs_partsTo L xs (v1 - v3) c13 h r e) (fun c14 e => ?_)
        show Bg L xs 22 56 [(0, .ref 10), (1, .int v1), (2, .int v2), (3, .int v3), (4, .int c12)] [.int c14] LY70 h R
        refine seg_Bg (pc' := (if c12 < c14 then 65 else 74)) (lv' := [(0, .ref 10), (1, .int v1), (2, .int v2), (3, .int v3), (4, .int c12), (5, .int c14)]) (st' := []) (lay' := LY70) (h' := h) 4 rfl ?_
        refine pc_ite e (fun e => ?_) (fun e => ?_)
        · refine seg_Bg (pc' := 68) (lv' := [(0, .ref 10), (1, .int v1), (2, .int v2), (3, .int v3), (4, .int c12), (5, .int c14)]) (st' := [.int v2, .int v3, .ref 10]) (lay' := LY70) (h' := h) 3 rfl ?_
          refine call_Bg (a := 27) (la := [(0, .ref 10), (1, .int v3), (2, .int v2)]) (np := 71) (lv' := [(0, .ref 10), (1, .int v1), (2, .int v2), (3, .int v3), (4, .int c12), (5, .int c14)]) (rest := []) (res := fun r => ([.int r], LY70, h)) rfl e (fun r e => BJcs_partsTo L xs v3 v2 h r e) (fun c15 e => ?_)
          show Bg L xs 22 71 [(0, .ref 10), (1, .int v1), (2, .int v2), (3, .int v3), (4, .int c12), (5, .int c14)] [.int c15] LY70 h R
          refine seg_Bg (pc' := 75) (lv' := [(0, .ref 10), (1, .int v1), (2, .int v2), (3, .int v3), (4, .int c12), (5, .int c14)]) (st' := [.int c15]) (lay' := LY70) (h' := h) 1 rfl ?_
          exact BJcs_trySeconds_J75 L xs v1 v2 v3 c12 c14 c15 h o e R hH hE
        · refine seg_Bg (pc' := 75) (lv' := [(0, .ref 10), (1, .int v1), (2, .int v2), (3, .int v3), (4, .int c12), (5, .int c14)]) (st' := [.int 0]) (lay' := LY70) (h' := h) 1 rfl ?_
          exact BJcs_trySeconds_J75 L xs v1 v2 v3 c12 c14 0 h o e R hH hE
theorem BJcs_trySeconds_L11 (L : Nat) (xs : Nat → Int32) (v1 v2 : Int32) (R : List Value × Lay × Hp) (C : (Int32 × Hp) → Prop) (hE : ∀ t : Int32 × Hp, C t → Bg L xs 22 138 [(0, .ref 10), (1, .int v1), (2, .int v2), (3, .int t.1)] [] LY70 t.2 R) (n : Nat) (s : Int32 × Hp) (o : (Int32 × Hp)) (e : loopN n (fun s => Jcs_trySeconds_L11 v1 v2 s.1 s.2) s = some o) (hC : C o) : Bg L xs 22 11 [(0, .ref 10), (1, .int v1), (2, .int v2), (3, .int s.1)] [] LY70 s.2 R := by
  refine loop_B (fun s => Jcs_trySeconds_L11 v1 v2 s.1 s.2) (fun s : Int32 × Hp => Bg L xs 22 11 [(0, .ref 10), (1, .int v1), (2, .int v2), (3, .int s.1)] [] LY70 s.2 R) C (fun s o e => ?_) n s o e hC
  intro hK
  refine BJcs_trySeconds_L11_s L xs v1 v2 R s.1 s.2 o (fun s q => by subst q; exact hK) (fun t q => by subst q; exact hE t hK) e
set_option maxRecDepth 100000 in
theorem BJcs_trySeconds (L : Nat) (xs : Nat → Int32) (v1 : Int32) (h : Hp) (o : Hp) (e : Jcs_trySeconds v1 h = some o) : Bg L xs 22 0 [(0, .ref 10), (1, .int v1)] [] LY70 h ([], LY70, o) := by
  obtain ⟨R, hR⟩ : ∃ R : List Value × Lay × Hp, R = ([], LY70, o) := ⟨_, rfl⟩
  rw [← hR]
  refine seg_Bg (pc' := 5) (lv' := [(0, .ref 10), (1, .int v1)]) (st' := [.int 1, .ref 18]) (lay' := LY70) (h' := h) 3 rfl ?_
  refine call_Bg (a := 65) (la := [(0, .ref 18), (1, .int 1)]) (np := 8) (lv' := [(0, .ref 10), (1, .int v1)]) (rest := []) (res := fun r => ([.int r], LY70, h)) rfl e (fun r e => BJpu_hangsOn L xs 1 h r e) (fun c1 e => ?_)
  show Bg L xs 22 8 [(0, .ref 10), (1, .int v1)] [.int c1] LY70 h R
  refine seg_Bg (pc' := 11) (lv' := [(0, .ref 10), (1, .int v1), (2, .int c1), (3, .int 0)]) (st' := []) (lay' := LY70) (h' := h) 3 rfl ?_
  obtain ⟨t16o, et16o, e⟩ := bd_s e
  refine BJcs_trySeconds_L11 L xs v1 c1 R (fun (t16 : Int32 × Hp) => (some t16.2) = some o) (fun t16 e => ?_) 1000000 (0, h) _ et16o e
  rw [hR, ← Option.some.inj e]; exact ret_Bg rfl

set_option maxRecDepth 100000 in
theorem BJcs_tryTop_L65_s (L : Nat) (xs : Nat → Int32) (v1 v2 v3 v4 v5 : Int32) (R : List Value × Lay × Hp) (v6 : Int32) (h : Hp) (o : ((Int32 × Hp) ⊕ (Int32 × Hp))) (hH : ∀ s : Int32 × Hp, o = .inl s → Bg L xs 20 65 [(0, .ref 10), (1, .int v1), (2, .int v2), (3, .int v3), (4, .int v4), (5, .int v5), (6, .int s.1)] [] LY70 s.2 R) (hE : ∀ t : Int32 × Hp, o = .inr t → Bg L xs 20 124 [(0, .ref 10), (1, .int v1), (2, .int v2), (3, .int v3), (4, .int v4), (5, .int v5), (6, .int t.1)] [] LY70 t.2 R) (e : Jcs_tryTop_L65 v1 v2 v3 v4 v5 v6 h = some o) : Bg L xs 20 65 [(0, .ref 10), (1, .int v1), (2, .int v2), (3, .int v3), (4, .int v4), (5, .int v5), (6, .int v6)] [] LY70 h R := by
  refine seg_Bg (pc' := (if v6 < v5 then 72 else 124)) (lv' := [(0, .ref 10), (1, .int v1), (2, .int v2), (3, .int v3), (4, .int v4), (5, .int v5), (6, .int v6)]) (st' := []) (lay' := LY70) (h' := h) 3 rfl ?_
  refine pc_ite e (fun e => ?_) (fun e => ?_)
  · refine seg_Bg (pc' := (if v6 < 256 then 80 else 124)) (lv' := [(0, .ref 10), (1, .int v1), (2, .int v2), (3, .int v3), (4, .int v4), (5, .int v5), (6, .int v6)]) (st' := []) (lay' := LY70) (h' := h) 3 rfl ?_
    refine pc_ite e (fun e => ?_) (fun e => ?_)
    · refine seg_Bg (pc' := 90) (lv' := [(0, .ref 10), (1, .int v1), (2, .int v2), (3, .int v3), (4, .int v4), (5, .int v5), (6, .int v6)]) (st' := [.int v6, .ref 13, .ref 18]) (lay' := LY70) (h' := h) 5 rfl ?_
      refine gd_Bg (pc' := 91) (lv' := [(0, .ref 10), (1, .int v1), (2, .int v2), (3, .int v3), (4, .int v4), (5, .int v5), (6, .int v6)]) (st' := [.int (h 13 (Int32.toNatClampNeg v6)), .ref 18]) (lay' := LY70) (h' := h) (g := ibB v6 256) rfl e fun e => ?_
      refine call_Bg (a := 66) (la := [(0, .ref 18), (1, .int (h 13 (Int32.toNatClampNeg v6)))]) (np := 94) (lv' := [(0, .ref 10), (1, .int v1), (2, .int v2), (3, .int v3), (4, .int v4), (5, .int v5), (6, .int v6)]) (rest := []) (res := fun r => ([], LY70, r)) rfl e (fun r e => BJpu_first L xs (h 13 (Int32.toNatClampNeg v6)) h r e) (fun c6 e => ?_)
      show Bg L xs 20 94 [(0, .ref 10), (1, .int v1), (2, .int v2), (3, .int v3), (4, .int v4), (5, .int v5), (6, .int v6)] [] LY70 c6 R
      refine seg_Bg (pc' := 95) (lv' := [(0, .ref 10), (1, .int v1), (2, .int v2), (3, .int v3), (4, .int v4), (5, .int v5), (6, .int v6)]) (st' := [.ref 10]) (lay' := LY70) (h' := c6) 1 rfl ?_
      refine call_Bg (a := 21) (la := [(0, .ref 10)]) (np := 98) (lv' := [(0, .ref 10), (1, .int v1), (2, .int v2), (3, .int v3), (4, .int v4), (5, .int v5), (6, .int v6)]) (rest := []) (res := fun r => ([], LY70, r)) rfl e (fun r e => BJcs_aim L xs c6 r e) (fun c7 e => ?_)
      show Bg L xs 20 98 [(0, .ref 10), (1, .int v1), (2, .int v2), (3, .int v3), (4, .int v4), (5, .int v5), (6, .int v6)] [] LY70 c7 R
      refine seg_Bg (pc' := (if 0 < (c7 10 11) then 105 else 118)) (lv' := [(0, .ref 10), (1, .int v1), (2, .int v2), (3, .int v3), (4, .int v4), (5, .int v5), (6, .int v6)]) (st' := []) (lay' := LY70) (h' := c7) 3 rfl ?_
      refine pc_ite e (fun e => ?_) (fun e => ?_)
      · refine seg_Bg (pc' := 115) (lv' := [(0, .ref 10), (1, .int v1), (2, .int v2), (3, .int v3), (4, .int v4), (5, .int v5), (6, .int v6)]) (st' := [.int (((c7 10 12) - (1 : Int32)) - v4), .ref 10]) (lay' := LY70) (h' := c7) 7 rfl ?_
        refine call_Bg (a := 22) (la := [(0, .ref 10), (1, .int (((c7 10 12) - (1 : Int32)) - v4))]) (np := 118) (lv' := [(0, .ref 10), (1, .int v1), (2, .int v2), (3, .int v3), (4, .int v4), (5, .int v5), (6, .int v6)]) (rest := []) (res := fun r => ([], LY70, r)) rfl e (fun r e => BJcs_trySeconds L xs (((c7 10 12) - (1 : Int32)) - v4) c7 r e) (fun c8 e => ?_)
        show Bg L xs 20 118 [(0, .ref 10), (1, .int v1), (2, .int v2), (3, .int v3), (4, .int v4), (5, .int v5), (6, .int v6)] [] LY70 c8 R
        refine seg_Bg (pc' := 65) (lv' := [(0, .ref 10), (1, .int v1), (2, .int v2), (3, .int v3), (4, .int v4), (5, .int v5), (6, .int (v6 + 1))]) (st' := []) (lay' := LY70) (h' := c8) 2 rfl ?_
        exact hH (v6 + 1, c8) (Option.some.inj e).symm
      · refine seg_Bg (pc' := 65) (lv' := [(0, .ref 10), (1, .int v1), (2, .int v2), (3, .int v3), (4, .int v4), (5, .int v5), (6, .int (v6 + 1))]) (st' := []) (lay' := LY70) (h' := c7) 2 rfl ?_
        exact hH (v6 + 1, c7) (Option.some.inj e).symm
    · exact hE (v6, h) (Option.some.inj e).symm
  · exact hE (v6, h) (Option.some.inj e).symm
theorem BJcs_tryTop_L65 (L : Nat) (xs : Nat → Int32) (v1 v2 v3 v4 v5 : Int32) (R : List Value × Lay × Hp) (C : (Int32 × Hp) → Prop) (hE : ∀ t : Int32 × Hp, C t → Bg L xs 20 124 [(0, .ref 10), (1, .int v1), (2, .int v2), (3, .int v3), (4, .int v4), (5, .int v5), (6, .int t.1)] [] LY70 t.2 R) (n : Nat) (s : Int32 × Hp) (o : (Int32 × Hp)) (e : loopN n (fun s => Jcs_tryTop_L65 v1 v2 v3 v4 v5 s.1 s.2) s = some o) (hC : C o) : Bg L xs 20 65 [(0, .ref 10), (1, .int v1), (2, .int v2), (3, .int v3), (4, .int v4), (5, .int v5), (6, .int s.1)] [] LY70 s.2 R := by
  refine loop_B (fun s => Jcs_tryTop_L65 v1 v2 v3 v4 v5 s.1 s.2) (fun s : Int32 × Hp => Bg L xs 20 65 [(0, .ref 10), (1, .int v1), (2, .int v2), (3, .int v3), (4, .int v4), (5, .int v5), (6, .int s.1)] [] LY70 s.2 R) C (fun s o e => ?_) n s o e hC
  intro hK
  refine BJcs_tryTop_L65_s L xs v1 v2 v3 v4 v5 R s.1 s.2 o (fun s q => by subst q; exact hK) (fun t q => by subst q; exact hE t hK) e
set_option maxRecDepth 100000 in
theorem BJcs_tryTop_L25_s (L : Nat) (xs : Nat → Int32) (v1 v2 v3 : Int32) (R : List Value × Lay × Hp) (v4 : Int32) (h : Hp) (o : ((Int32 × Hp) ⊕ (Int32 × Hp))) (hH : ∀ s : Int32 × Hp, o = .inl s → Bg L xs 20 25 [(0, .ref 10), (1, .int v1), (2, .int v2), (3, .int v3), (4, .int s.1)] [] LY70 s.2 R) (hE : ∀ t : Int32 × Hp, o = .inr t → Bg L xs 20 130 [(0, .ref 10), (1, .int v1), (2, .int v2), (3, .int v3), (4, .int t.1)] [] LY70 t.2 R) (e : Jcs_tryTop_L25 v1 v2 v3 v4 h = some o) : Bg L xs 20 25 [(0, .ref 10), (1, .int v1), (2, .int v2), (3, .int v3), (4, .int v4)] [] LY70 h R := by
  refine seg_Bg (pc' := (if v4 < (h 10 12) then 34 else 130)) (lv' := [(0, .ref 10), (1, .int v1), (2, .int v2), (3, .int v3), (4, .int v4)]) (st' := []) (lay' := LY70) (h' := h) 4 rfl ?_
  refine pc_ite e (fun e => ?_) (fun e => ?_)
  · refine seg_Bg (pc' := (if v4 = 0 then 43 else 39)) (lv' := [(0, .ref 10), (1, .int v1), (2, .int v2), (3, .int v3), (4, .int v4)]) (st' := []) (lay' := LY70) (h' := h) 2 rfl ?_
    refine pc_ite e (fun e => ?_) (fun e => ?_)
    · refine seg_Bg (pc' := 47) (lv' := [(0, .ref 10), (1, .int v1), (2, .int v2), (3, .int v3), (4, .int v4)]) (st' := [.int v3, .int v4, .ref 10]) (lay' := LY70) (h' := h) 3 rfl ?_
      refine call_Bg (a := 27) (la := [(0, .ref 10), (1, .int v4), (2, .int v3)]) (np := 50) (lv' := [(0, .ref 10), (1, .int v1), (2, .int v2), (3, .int v3), (4, .int v4)]) (rest := []) (res := fun r => ([.int r], LY70, h)) rfl e (fun r e => BJcs_partsTo L xs v4 v3 h r e) (fun c4 e => ?_)
      show Bg L xs 20 50 [(0, .ref 10), (1, .int v1), (2, .int v2), (3, .int v3), (4, .int v4)] [.int c4] LY70 h R
      refine seg_Bg (pc' := 56) (lv' := [(0, .ref 10), (1, .int v1), (2, .int v2), (3, .int v3), (4, .int v4), (5, .int c4)]) (st' := [.int v3, .int v4, .ref 10]) (lay' := LY70) (h' := h) 4 rfl ?_
      refine call_Bg (a := 26) (la := [(0, .ref 10), (1, .int v4), (2, .int v3)]) (np := 59) (lv' := [(0, .ref 10), (1, .int v1), (2, .int v2), (3, .int v3), (4, .int v4), (5, .int c4)]) (rest := []) (res := fun r => ([.int r], LY70, h)) rfl e (fun r e => BJcs_partsFrom L xs v4 v3 h r e) (fun c5 e => ?_)
      show Bg L xs 20 59 [(0, .ref 10), (1, .int v1), (2, .int v2), (3, .int v3), (4, .int v4), (5, .int c4)] [.int c5] LY70 h R
      refine seg_Bg (pc' := 65) (lv' := [(0, .ref 10), (1, .int v1), (2, .int v2), (3, .int v3), (4, .int v4), (5, .int c4), (6, .int (if c5 < 0 then 0 else c5))]) (st' := []) (lay' := LY70) (h' := h) 3 rfl ?_
      obtain ⟨t9o, et9o, e⟩ := bd_s e
      refine BJcs_tryTop_L65 L xs v1 v2 v3 v4 c4 R (fun (t9 : Int32 × Hp) => (some (.inl (v4 + 1, t9.2))) = some o) (fun t9 e => ?_) 1000000 (if c5 < 0 then 0 else c5, h) _ et9o e
      refine seg_Bg (pc' := 25) (lv' := [(0, .ref 10), (1, .int v1), (2, .int v2), (3, .int v3), (4, .int (v4 + 1)), (5, .int c4), (6, .int t9.1)]) (st' := []) (lay' := LY70) (h' := t9.2) 2 rfl ?_
      refine kp_Bg (lv' := [(0, .ref 10), (1, .int v1), (2, .int v2), (3, .int v3), (4, .int (v4 + 1))]) rfl rfl ?_
      exact hH (v4 + 1, t9.2) (Option.some.inj e).symm
    · refine seg_Bg (pc' := (if v3 = 0 then 130 else 43)) (lv' := [(0, .ref 10), (1, .int v1), (2, .int v2), (3, .int v3), (4, .int v4)]) (st' := []) (lay' := LY70) (h' := h) 2 rfl ?_
      refine pc_ite e (fun e => ?_) (fun e => ?_)
      · exact hE (v4, h) (Option.some.inj e).symm
      · refine seg_Bg (pc' := 47) (lv' := [(0, .ref 10), (1, .int v1), (2, .int v2), (3, .int v3), (4, .int v4)]) (st' := [.int v3, .int v4, .ref 10]) (lay' := LY70) (h' := h) 3 rfl ?_
        refine call_Bg (a := 27) (la := [(0, .ref 10), (1, .int v4), (2, .int v3)]) (np := 50) (lv' := [(0, .ref 10), (1, .int v1), (2, .int v2), (3, .int v3), (4, .int v4)]) (rest := []) (res := fun r => ([.int r], LY70, h)) rfl e (fun r e => BJcs_partsTo L xs v4 v3 h r e) (fun c10 e => ?_)
        show Bg L xs 20 50 [(0, .ref 10), (1, .int v1), (2, .int v2), (3, .int v3), (4, .int v4)] [.int c10] LY70 h R
        refine seg_Bg (pc' := 56) (lv' := [(0, .ref 10), (1, .int v1), (2, .int v2), (3, .int v3), (4, .int v4), (5, .int c10)]) (st' := [.int v3, .int v4, .ref 10]) (lay' := LY70) (h' := h) 4 rfl ?_
        refine call_Bg (a := 26) (la := [(0, .ref 10), (1, .int v4), (2, .int v3)]) (np := 59) (lv' := [(0, .ref 10), (1, .int v1), (2, .int v2), (3, .int v3), (4, .int v4), (5, .int c10)]) (rest := []) (res := fun r => ([.int r], LY70, h)) rfl e (fun r e => BJcs_partsFrom L xs v4 v3 h r e) (fun c11 e => ?_)
        show Bg L xs 20 59 [(0, .ref 10), (1, .int v1), (2, .int v2), (3, .int v3), (4, .int v4), (5, .int c10)] [.int c11] LY70 h R
        refine seg_Bg (pc' := 65) (lv' := [(0, .ref 10), (1, .int v1), (2, .int v2), (3, .int v3), (4, .int v4), (5, .int c10), (6, .int (if c11 < 0 then 0 else c11))]) (st' := []) (lay' := LY70) (h' := h) 3 rfl ?_
        obtain ⟨t12o, et12o, e⟩ := bd_s e
        refine BJcs_tryTop_L65 L xs v1 v2 v3 v4 c10 R (fun (t12 : Int32 × Hp) => (some (.inl (v4 + 1, t12.2))) = some o) (fun t12 e => ?_) 1000000 (if c11 < 0 then 0 else c11, h) _ et12o e
        refine seg_Bg (pc' := 25) (lv' := [(0, .ref 10), (1, .int v1), (2, .int v2), (3, .int v3), (4, .int (v4 + 1)), (5, .int c10), (6, .int t12.1)]) (st' := []) (lay' := LY70) (h' := t12.2) 2 rfl ?_
        refine kp_Bg (lv' := [(0, .ref 10), (1, .int v1), (2, .int v2), (3, .int v3), (4, .int (v4 + 1))]) rfl rfl ?_
        exact hH (v4 + 1, t12.2) (Option.some.inj e).symm
  · exact hE (v4, h) (Option.some.inj e).symm
theorem BJcs_tryTop_L25 (L : Nat) (xs : Nat → Int32) (v1 v2 v3 : Int32) (R : List Value × Lay × Hp) (C : (Int32 × Hp) → Prop) (hE : ∀ t : Int32 × Hp, C t → Bg L xs 20 130 [(0, .ref 10), (1, .int v1), (2, .int v2), (3, .int v3), (4, .int t.1)] [] LY70 t.2 R) (n : Nat) (s : Int32 × Hp) (o : (Int32 × Hp)) (e : loopN n (fun s => Jcs_tryTop_L25 v1 v2 v3 s.1 s.2) s = some o) (hC : C o) : Bg L xs 20 25 [(0, .ref 10), (1, .int v1), (2, .int v2), (3, .int v3), (4, .int s.1)] [] LY70 s.2 R := by
  refine loop_B (fun s => Jcs_tryTop_L25 v1 v2 v3 s.1 s.2) (fun s : Int32 × Hp => Bg L xs 20 25 [(0, .ref 10), (1, .int v1), (2, .int v2), (3, .int v3), (4, .int s.1)] [] LY70 s.2 R) C (fun s o e => ?_) n s o e hC
  intro hK
  refine BJcs_tryTop_L25_s L xs v1 v2 v3 R s.1 s.2 o (fun s q => by subst q; exact hK) (fun t q => by subst q; exact hE t hK) e
set_option maxRecDepth 100000 in
theorem BJcs_tryTop (L : Nat) (xs : Nat → Int32) (v1 : Int32) (v2 : Int32) (h : Hp) (o : Hp) (e : Jcs_tryTop v1 v2 h = some o) : Bg L xs 20 0 [(0, .ref 10), (1, .int v1), (2, .int v2)] [] LY70 h ([], LY70, o) := by
  obtain ⟨R, hR⟩ : ∃ R : List Value × Lay × Hp, R = ([], LY70, o) := ⟨_, rfl⟩
  rw [← hR]
  refine seg_Bg (pc' := 2) (lv' := [(0, .ref 10), (1, .int v1), (2, .int v2)]) (st' := [.int v1, .ref 10]) (lay' := LY70) (h' := h) 2 rfl ?_
  refine put_Bg (pc' := 5) (lv' := [(0, .ref 10), (1, .int v1), (2, .int v2)]) (st' := []) (lay' := LY70) (x := hset h 10 14 v1) rfl e fun h1 e => ?_
  refine seg_Bg (pc' := 10) (lv' := [(0, .ref 10), (1, .int v1), (2, .int v2)]) (st' := [.int v2, .ref 18]) (lay' := LY70) (h' := h1) 3 rfl ?_
  refine call_Bg (a := 63) (la := [(0, .ref 18), (1, .int v2)]) (np := 13) (lv' := [(0, .ref 10), (1, .int v1), (2, .int v2)]) (rest := []) (res := fun r => ([], LY70, r)) rfl e (fun r e => BJpu_begin L xs v2 h1 r e) (fun c2 e => ?_)
  show Bg L xs 20 13 [(0, .ref 10), (1, .int v1), (2, .int v2)] [] LY70 c2 R
  refine seg_Bg (pc' := 18) (lv' := [(0, .ref 10), (1, .int v1), (2, .int v2)]) (st' := [.int 0, .ref 18]) (lay' := LY70) (h' := c2) 3 rfl ?_
  refine call_Bg (a := 65) (la := [(0, .ref 18), (1, .int 0)]) (np := 21) (lv' := [(0, .ref 10), (1, .int v1), (2, .int v2)]) (rest := []) (res := fun r => ([.int r], LY70, c2)) rfl e (fun r e => BJpu_hangsOn L xs 0 c2 r e) (fun c3 e => ?_)
  show Bg L xs 20 21 [(0, .ref 10), (1, .int v1), (2, .int v2)] [.int c3] LY70 c2 R
  refine seg_Bg (pc' := 25) (lv' := [(0, .ref 10), (1, .int v1), (2, .int v2), (3, .int c3), (4, .int 0)]) (st' := []) (lay' := LY70) (h' := c2) 3 rfl ?_
  obtain ⟨t13o, et13o, e⟩ := bd_s e
  refine BJcs_tryTop_L25 L xs v1 v2 c3 R (fun (t13 : Int32 × Hp) => (some t13.2) = some o) (fun t13 e => ?_) 1000000 (0, c2) _ et13o e
  rw [hR, ← Option.some.inj e]; exact ret_Bg rfl

set_option maxRecDepth 100000 in
theorem BJcs_dropMade_L4_s (L : Nat) (xs : Nat → Int32) (R : List Value × Lay × Hp) (v1 v2 : Int32) (h : Hp) (o : ((Int32 × Int32 × Hp) ⊕ (Int32 × Int32 × Hp))) (hH : ∀ s : Int32 × Int32 × Hp, o = .inl s → Bg L xs 18 4 [(0, .ref 10), (1, .int s.1), (2, .int s.2.1)] [] LY70 s.2.2 R) (hE : ∀ t : Int32 × Int32 × Hp, o = .inr t → Bg L xs 18 53 [(0, .ref 10), (1, .int t.1), (2, .int t.2.1)] [] LY70 t.2.2 R) (e : Jcs_dropMade_L4 v1 v2 h = some o) : Bg L xs 18 4 [(0, .ref 10), (1, .int v1), (2, .int v2)] [] LY70 h R := by
  refine seg_Bg (pc' := (if v2 < (h 10 10) then 12 else 53)) (lv' := [(0, .ref 10), (1, .int v1), (2, .int v2)]) (st' := []) (lay' := LY70) (h' := h) 4 rfl ?_
  refine pc_ite e (fun e => ?_) (fun e => ?_)
  · refine seg_Bg (pc' := (if v2 < 256 then 19 else 53)) (lv' := [(0, .ref 10), (1, .int v1), (2, .int v2)]) (st' := []) (lay' := LY70) (h' := h) 3 rfl ?_
    refine pc_ite e (fun e => ?_) (fun e => ?_)
    · refine seg_Bg (pc' := 25) (lv' := [(0, .ref 10), (1, .int v1), (2, .int v2)]) (st' := [.int v2, .ref 15, .ref 10]) (lay' := LY70) (h' := h) 4 rfl ?_
      refine gd_Bg (pc' := 26) (lv' := [(0, .ref 10), (1, .int v1), (2, .int v2)]) (st' := [.int (h 15 (Int32.toNatClampNeg v2)), .ref 10]) (lay' := LY70) (h' := h) (g := ibB v2 256) rfl e fun e => ?_
      refine call_Bg (a := 32) (la := [(0, .ref 10), (1, .int (h 15 (Int32.toNatClampNeg v2)))]) (np := 29) (lv' := [(0, .ref 10), (1, .int v1), (2, .int v2)]) (rest := []) (res := fun r => ([.int r], LY70, h)) rfl e (fun r e => BJcs_isMade L xs (h 15 (Int32.toNatClampNeg v2)) h r e) (fun c1 e => ?_)
      show Bg L xs 18 29 [(0, .ref 10), (1, .int v1), (2, .int v2)] [.int c1] LY70 h R
      refine seg_Bg (pc' := (if c1 = 0 then 32 else 47)) (lv' := [(0, .ref 10), (1, .int v1), (2, .int v2)]) (st' := []) (lay' := LY70) (h' := h) 1 rfl ?_
      refine pc_ite e (fun e => ?_) (fun e => ?_)
      · refine seg_Bg (pc' := 42) (lv' := [(0, .ref 10), (1, .int v1), (2, .int v2)]) (st' := [.int v2, .ref 15, .int v1, .ref 15]) (lay' := LY70) (h' := h) 6 rfl ?_
        refine gd_Bg (pc' := 43) (lv' := [(0, .ref 10), (1, .int v1), (2, .int v2)]) (st' := [.int (h 15 (Int32.toNatClampNeg v2)), .int v1, .ref 15]) (lay' := LY70) (h' := h) (g := ibB v2 256) rfl e fun e => ?_
        refine gp_Bg (pc' := 44) (lv' := [(0, .ref 10), (1, .int v1), (2, .int v2)]) (st' := []) (lay' := LY70) (x := hset h 15 (Int32.toNatClampNeg v1) (h 15 (Int32.toNatClampNeg v2))) (g := ibB v1 256) rfl e fun h2 e => ?_
        refine seg_Bg (pc' := 4) (lv' := [(0, .ref 10), (1, .int (v1 + 1)), (2, .int (v2 + 1))]) (st' := []) (lay' := LY70) (h' := h2) 3 rfl ?_
        exact hH (v1 + 1, v2 + 1, h2) (Option.some.inj e).symm
      · refine seg_Bg (pc' := 4) (lv' := [(0, .ref 10), (1, .int v1), (2, .int (v2 + 1))]) (st' := []) (lay' := LY70) (h' := h) 2 rfl ?_
        exact hH (v1, v2 + 1, h) (Option.some.inj e).symm
    · exact hE (v1, v2, h) (Option.some.inj e).symm
  · exact hE (v1, v2, h) (Option.some.inj e).symm
theorem BJcs_dropMade_L4 (L : Nat) (xs : Nat → Int32) (R : List Value × Lay × Hp) (C : (Int32 × Int32 × Hp) → Prop) (hE : ∀ t : Int32 × Int32 × Hp, C t → Bg L xs 18 53 [(0, .ref 10), (1, .int t.1), (2, .int t.2.1)] [] LY70 t.2.2 R) (n : Nat) (s : Int32 × Int32 × Hp) (o : (Int32 × Int32 × Hp)) (e : loopN n (fun s => Jcs_dropMade_L4 s.1 s.2.1 s.2.2) s = some o) (hC : C o) : Bg L xs 18 4 [(0, .ref 10), (1, .int s.1), (2, .int s.2.1)] [] LY70 s.2.2 R := by
  refine loop_B (fun s => Jcs_dropMade_L4 s.1 s.2.1 s.2.2) (fun s : Int32 × Int32 × Hp => Bg L xs 18 4 [(0, .ref 10), (1, .int s.1), (2, .int s.2.1)] [] LY70 s.2.2 R) C (fun s o e => ?_) n s o e hC
  intro hK
  refine BJcs_dropMade_L4_s L xs R s.1 s.2.1 s.2.2 o (fun s q => by subst q; exact hK) (fun t q => by subst q; exact hE t hK) e
set_option maxRecDepth 100000 in
theorem BJcs_dropMade (L : Nat) (xs : Nat → Int32) (h : Hp) (o : Hp) (e : Jcs_dropMade h = some o) : Bg L xs 18 0 [(0, .ref 10)] [] LY70 h ([], LY70, o) := by
  obtain ⟨R, hR⟩ : ∃ R : List Value × Lay × Hp, R = ([], LY70, o) := ⟨_, rfl⟩
  rw [← hR]
  refine seg_Bg (pc' := 4) (lv' := [(0, .ref 10), (1, .int 0), (2, .int 0)]) (st' := []) (lay' := LY70) (h' := h) 4 rfl ?_
  obtain ⟨t3o, et3o, e⟩ := bd_s e
  refine BJcs_dropMade_L4 L xs R (fun (t3 : Int32 × Int32 × Hp) => (lt (hset t3.2.2 10 10 t3.1) fun h4 => some h4) = some o) (fun t3 e => ?_) 1000000 (0, 0, h) _ et3o e
  refine seg_Bg (pc' := 55) (lv' := [(0, .ref 10), (1, .int t3.1), (2, .int t3.2.1)]) (st' := [.int t3.1, .ref 10]) (lay' := LY70) (h' := t3.2.2) 2 rfl ?_
  refine put_Bg (pc' := 58) (lv' := [(0, .ref 10), (1, .int t3.1), (2, .int t3.2.1)]) (st' := []) (lay' := LY70) (x := hset t3.2.2 10 10 t3.1) rfl e fun h4 e => ?_
  rw [hR, ← Option.some.inj e]; exact ret_Bg rfl

set_option maxRecDepth 100000 in
theorem BJcs_reckon_L55_s (L : Nat) (xs : Nat → Int32) (v3 v4 : Int32) (R : List Value × Lay × Hp) (v5 : Int32) (h : Hp) (o : ((Int32 × Hp) ⊕ (Int32 × Hp))) (hH : ∀ s : Int32 × Hp, o = .inl s → Bg L xs 15 55 [(0, .ref 10), (1, .ref 29), (2, .ref 4), (3, .int v3), (4, .int v4), (5, .int s.1)] [] LY70 s.2 R) (hE : ∀ t : Int32 × Hp, o = .inr t → Bg L xs 15 93 [(0, .ref 10), (1, .ref 29), (2, .ref 4), (3, .int v3), (4, .int v4), (5, .int t.1)] [] LY70 t.2 R) (e : Jcs_reckon_L55 v3 v4 v5 h = some o) : Bg L xs 15 55 [(0, .ref 10), (1, .ref 29), (2, .ref 4), (3, .int v3), (4, .int v4), (5, .int v5)] [] LY70 h R := by
  refine seg_Bg (pc' := (if v5 < 6 then 62 else 93)) (lv' := [(0, .ref 10), (1, .ref 29), (2, .ref 4), (3, .int v3), (4, .int v4), (5, .int v5)]) (st' := []) (lay' := LY70) (h' := h) 3 rfl ?_
  refine pc_ite e (fun e => ?_) (fun e => ?_)
  · refine seg_Bg (pc' := 65) (lv' := [(0, .ref 10), (1, .ref 29), (2, .ref 4), (3, .int v3), (4, .int v4), (5, .int v5)]) (st' := [.int v5, .ref 29]) (lay' := LY70) (h' := h) 2 rfl ?_
    refine call_Bg (a := 79) (la := [(0, .ref 29), (1, .int v5)]) (np := 68) (lv' := [(0, .ref 10), (1, .ref 29), (2, .ref 4), (3, .int v3), (4, .int v4), (5, .int v5)]) (rest := []) (res := fun r => ([.int r], LY70, h)) rfl e (fun r e => BJsh_isChosen L xs v5 h r e) (fun c5 e => ?_)
    show Bg L xs 15 68 [(0, .ref 10), (1, .ref 29), (2, .ref 4), (3, .int v3), (4, .int v4), (5, .int v5)] [.int c5] LY70 h R
    refine seg_Bg (pc' := (if c5 = 0 then 87 else 71)) (lv' := [(0, .ref 10), (1, .ref 29), (2, .ref 4), (3, .int v3), (4, .int v4), (5, .int v5)]) (st' := []) (lay' := LY70) (h' := h) 1 rfl ?_
    refine pc_ite e (fun e => ?_) (fun e => ?_)
    · refine seg_Bg (pc' := 55) (lv' := [(0, .ref 10), (1, .ref 29), (2, .ref 4), (3, .int v3), (4, .int v4), (5, .int (v5 + 1))]) (st' := []) (lay' := LY70) (h' := h) 2 rfl ?_
      exact hH (v5 + 1, h) (Option.some.inj e).symm
    · refine seg_Bg (pc' := 77) (lv' := [(0, .ref 10), (1, .ref 29), (2, .ref 4), (3, .int v3), (4, .int v4), (5, .int v5)]) (st' := [.int v5, .ref 29, .int v5, .ref 10]) (lay' := LY70) (h' := h) 4 rfl ?_
      refine call_Bg (a := 77) (la := [(0, .ref 29), (1, .int v5)]) (np := 80) (lv' := [(0, .ref 10), (1, .ref 29), (2, .ref 4), (3, .int v3), (4, .int v4), (5, .int v5)]) (rest := [.int v5, .ref 10]) (res := fun r => ([.int r], LY70, h)) rfl e (fun r e => BJsh_codeAt L xs v5 h r e) (fun c6 e => ?_)
      show Bg L xs 15 80 [(0, .ref 10), (1, .ref 29), (2, .ref 4), (3, .int v3), (4, .int v4), (5, .int v5)] [.int c6, .int v5, .ref 10] LY70 h R
      refine call_Bg (a := 20) (la := [(0, .ref 10), (1, .int v5), (2, .int c6)]) (np := 83) (lv' := [(0, .ref 10), (1, .ref 29), (2, .ref 4), (3, .int v3), (4, .int v4), (5, .int v5)]) (rest := []) (res := fun r => ([], LY70, r)) rfl e (fun r e => BJcs_tryTop L xs v5 c6 h r e) (fun c7 e => ?_)
      show Bg L xs 15 83 [(0, .ref 10), (1, .ref 29), (2, .ref 4), (3, .int v3), (4, .int v4), (5, .int v5)] [] LY70 c7 R
      refine seg_Bg (pc' := 84) (lv' := [(0, .ref 10), (1, .ref 29), (2, .ref 4), (3, .int v3), (4, .int v4), (5, .int v5)]) (st' := [.ref 10]) (lay' := LY70) (h' := c7) 1 rfl ?_
      refine call_Bg (a := 18) (la := [(0, .ref 10)]) (np := 87) (lv' := [(0, .ref 10), (1, .ref 29), (2, .ref 4), (3, .int v3), (4, .int v4), (5, .int v5)]) (rest := []) (res := fun r => ([], LY70, r)) rfl e (fun r e => BJcs_dropMade L xs c7 r e) (fun c8 e => ?_)
      show Bg L xs 15 87 [(0, .ref 10), (1, .ref 29), (2, .ref 4), (3, .int v3), (4, .int v4), (5, .int v5)] [] LY70 c8 R
      refine seg_Bg (pc' := 55) (lv' := [(0, .ref 10), (1, .ref 29), (2, .ref 4), (3, .int v3), (4, .int v4), (5, .int (v5 + 1))]) (st' := []) (lay' := LY70) (h' := c8) 2 rfl ?_
      exact hH (v5 + 1, c8) (Option.some.inj e).symm
  · exact hE (v5, h) (Option.some.inj e).symm
theorem BJcs_reckon_L55 (L : Nat) (xs : Nat → Int32) (v3 v4 : Int32) (R : List Value × Lay × Hp) (C : (Int32 × Hp) → Prop) (hE : ∀ t : Int32 × Hp, C t → Bg L xs 15 93 [(0, .ref 10), (1, .ref 29), (2, .ref 4), (3, .int v3), (4, .int v4), (5, .int t.1)] [] LY70 t.2 R) (n : Nat) (s : Int32 × Hp) (o : (Int32 × Hp)) (e : loopN n (fun s => Jcs_reckon_L55 v3 v4 s.1 s.2) s = some o) (hC : C o) : Bg L xs 15 55 [(0, .ref 10), (1, .ref 29), (2, .ref 4), (3, .int v3), (4, .int v4), (5, .int s.1)] [] LY70 s.2 R := by
  refine loop_B (fun s => Jcs_reckon_L55 v3 v4 s.1 s.2) (fun s : Int32 × Hp => Bg L xs 15 55 [(0, .ref 10), (1, .ref 29), (2, .ref 4), (3, .int v3), (4, .int v4), (5, .int s.1)] [] LY70 s.2 R) C (fun s o e => ?_) n s o e hC
  intro hK
  refine BJcs_reckon_L55_s L xs v3 v4 R s.1 s.2 o (fun s q => by subst q; exact hK) (fun t q => by subst q; exact hE t hK) e
set_option maxRecDepth 100000 in
theorem BJcs_reckon_L18_s (L : Nat) (xs : Nat → Int32) (v3 : Int32) (R : List Value × Lay × Hp) (v4 : Int32) (h : Hp) (o : ((Int32 × Hp) ⊕ (Int32 × Hp))) (hH : ∀ s : Int32 × Hp, o = .inl s → Bg L xs 15 18 [(0, .ref 10), (1, .ref 29), (2, .ref 4), (3, .int v3), (4, .int s.1)] [] LY70 s.2 R) (hE : ∀ t : Int32 × Hp, o = .inr t → Bg L xs 15 103 [(0, .ref 10), (1, .ref 29), (2, .ref 4), (3, .int v3), (4, .int t.1)] [] LY70 t.2 R) (e : Jcs_reckon_L18 v3 v4 h = some o) : Bg L xs 15 18 [(0, .ref 10), (1, .ref 29), (2, .ref 4), (3, .int v3), (4, .int v4)] [] LY70 h R := by
  refine seg_Bg (pc' := (if 9999 < v4 then 103 else 26)) (lv' := [(0, .ref 10), (1, .ref 29), (2, .ref 4), (3, .int v3), (4, .int v4)]) (st' := []) (lay' := LY70) (h' := h) 3 rfl ?_
  refine pc_ite e (fun e => ?_) (fun e => ?_)
  · exact hE (v4, h) (Option.some.inj e).symm
  · refine seg_Bg (pc' := (if (((3 : Int32) * (h 10 13)) + (1 : Int32)) < v4 then 103 else 39)) (lv' := [(0, .ref 10), (1, .ref 29), (2, .ref 4), (3, .int v3), (4, .int v4)]) (st' := []) (lay' := LY70) (h' := h) 8 rfl ?_
    refine pc_ite e (fun e => ?_) (fun e => ?_)
    · exact hE (v4, h) (Option.some.inj e).symm
    · refine seg_Bg (pc' := (if 0 < (h 10 10) then 46 else 103)) (lv' := [(0, .ref 10), (1, .ref 29), (2, .ref 4), (3, .int v3), (4, .int v4)]) (st' := []) (lay' := LY70) (h' := h) 3 rfl ?_
      refine pc_ite e (fun e => ?_) (fun e => ?_)
      · refine seg_Bg (pc' := 49) (lv' := [(0, .ref 10), (1, .ref 29), (2, .ref 4), (3, .int v3), (4, .int v4)]) (st' := [.int v4, .ref 10]) (lay' := LY70) (h' := h) 2 rfl ?_
        refine put_Bg (pc' := 52) (lv' := [(0, .ref 10), (1, .ref 29), (2, .ref 4), (3, .int v3), (4, .int v4)]) (st' := []) (lay' := LY70) (x := hset h 10 12 v4) rfl e fun h4 e => ?_
        refine seg_Bg (pc' := 55) (lv' := [(0, .ref 10), (1, .ref 29), (2, .ref 4), (3, .int v3), (4, .int v4), (5, .int 0)]) (st' := []) (lay' := LY70) (h' := h4) 2 rfl ?_
        obtain ⟨t9o, et9o, e⟩ := bd_s e
        refine BJcs_reckon_L55 L xs v3 v4 R (fun (t9 : Int32 × Hp) => (bd (Jcs_settle t9.2) fun c10 => some (.inl (v4 + 1, c10))) = some o) (fun t9 e => ?_) 1000000 (0, h4) _ et9o e
        refine seg_Bg (pc' := 94) (lv' := [(0, .ref 10), (1, .ref 29), (2, .ref 4), (3, .int v3), (4, .int v4), (5, .int t9.1)]) (st' := [.ref 10]) (lay' := LY70) (h' := t9.2) 1 rfl ?_
        refine call_Bg (a := 19) (la := [(0, .ref 10)]) (np := 97) (lv' := [(0, .ref 10), (1, .ref 29), (2, .ref 4), (3, .int v3), (4, .int v4), (5, .int t9.1)]) (rest := []) (res := fun r => ([], LY70, r)) rfl e (fun r e => BJcs_settle L xs t9.2 r e) (fun c10 e => ?_)
        show Bg L xs 15 97 [(0, .ref 10), (1, .ref 29), (2, .ref 4), (3, .int v3), (4, .int v4), (5, .int t9.1)] [] LY70 c10 R
        refine seg_Bg (pc' := 18) (lv' := [(0, .ref 10), (1, .ref 29), (2, .ref 4), (3, .int v3), (4, .int (v4 + 1)), (5, .int t9.1)]) (st' := []) (lay' := LY70) (h' := c10) 2 rfl ?_
        refine kp_Bg (lv' := [(0, .ref 10), (1, .ref 29), (2, .ref 4), (3, .int v3), (4, .int (v4 + 1))]) rfl rfl ?_
        exact hH (v4 + 1, c10) (Option.some.inj e).symm
      · exact hE (v4, h) (Option.some.inj e).symm
theorem BJcs_reckon_L18 (L : Nat) (xs : Nat → Int32) (v3 : Int32) (R : List Value × Lay × Hp) (C : (Int32 × Hp) → Prop) (hE : ∀ t : Int32 × Hp, C t → Bg L xs 15 103 [(0, .ref 10), (1, .ref 29), (2, .ref 4), (3, .int v3), (4, .int t.1)] [] LY70 t.2 R) (n : Nat) (s : Int32 × Hp) (o : (Int32 × Hp)) (e : loopN n (fun s => Jcs_reckon_L18 v3 s.1 s.2) s = some o) (hC : C o) : Bg L xs 15 18 [(0, .ref 10), (1, .ref 29), (2, .ref 4), (3, .int v3), (4, .int s.1)] [] LY70 s.2 R := by
  refine loop_B (fun s => Jcs_reckon_L18 v3 s.1 s.2) (fun s : Int32 × Hp => Bg L xs 15 18 [(0, .ref 10), (1, .ref 29), (2, .ref 4), (3, .int v3), (4, .int s.1)] [] LY70 s.2 R) C (fun s o e => ?_) n s o e hC
  intro hK
  refine BJcs_reckon_L18_s L xs v3 R s.1 s.2 o (fun s q => by subst q; exact hK) (fun t q => by subst q; exact hE t hK) e
set_option maxRecDepth 100000 in
theorem BJcs_reckon (L : Nat) (xs : Nat → Int32) (v3 : Int32) (h : Hp) (o : Hp) (e : Jcs_reckon v3 h = some o) : Bg L xs 15 0 [(0, .ref 10), (1, .ref 29), (2, .ref 4), (3, .int v3)] [] LY70 h ([], LY70, o) := by
  obtain ⟨R, hR⟩ : ∃ R : List Value × Lay × Hp, R = ([], LY70, o) := ⟨_, rfl⟩
  rw [← hR]
  refine seg_Bg (pc' := 2) (lv' := [(0, .ref 10), (1, .ref 29), (2, .ref 4), (3, .int v3)]) (st' := [.ref 29, .ref 10]) (lay' := LY70) (h' := h) 2 rfl ?_
  refine call_Bg (a := 16) (la := [(0, .ref 10), (1, .ref 29)]) (np := 5) (lv' := [(0, .ref 10), (1, .ref 29), (2, .ref 4), (3, .int v3)]) (rest := []) (res := fun r => ([], LY70, r)) rfl e (fun r e => BJcs_start L xs h r e) (fun c1 e => ?_)
  show Bg L xs 15 5 [(0, .ref 10), (1, .ref 29), (2, .ref 4), (3, .int v3)] [] LY70 c1 R
  refine seg_Bg (pc' := 8) (lv' := [(0, .ref 10), (1, .ref 29), (2, .ref 4), (3, .int v3)]) (st' := [.int v3, .ref 4, .ref 10]) (lay' := LY70) (h' := c1) 3 rfl ?_
  refine call_Bg (a := 17) (la := [(0, .ref 10), (1, .ref 4), (2, .int v3)]) (np := 11) (lv' := [(0, .ref 10), (1, .ref 29), (2, .ref 4), (3, .int v3)]) (rest := []) (res := fun r => ([], LY70, r)) rfl e (fun r e => BJcs_miss L xs v3 c1 r e) (fun c2 e => ?_)
  show Bg L xs 15 11 [(0, .ref 10), (1, .ref 29), (2, .ref 4), (3, .int v3)] [] LY70 c2 R
  refine seg_Bg (pc' := 12) (lv' := [(0, .ref 10), (1, .ref 29), (2, .ref 4), (3, .int v3)]) (st' := [.ref 10]) (lay' := LY70) (h' := c2) 1 rfl ?_
  refine call_Bg (a := 19) (la := [(0, .ref 10)]) (np := 15) (lv' := [(0, .ref 10), (1, .ref 29), (2, .ref 4), (3, .int v3)]) (rest := []) (res := fun r => ([], LY70, r)) rfl e (fun r e => BJcs_settle L xs c2 r e) (fun c3 e => ?_)
  show Bg L xs 15 15 [(0, .ref 10), (1, .ref 29), (2, .ref 4), (3, .int v3)] [] LY70 c3 R
  refine seg_Bg (pc' := 18) (lv' := [(0, .ref 10), (1, .ref 29), (2, .ref 4), (3, .int v3), (4, .int 1)]) (st' := []) (lay' := LY70) (h' := c3) 2 rfl ?_
  obtain ⟨t11o, et11o, e⟩ := bd_s e
  refine BJcs_reckon_L18 L xs v3 R (fun (t11 : Int32 × Hp) => (some t11.2) = some o) (fun t11 e => ?_) 1000000 (1, c3) _ et11o e
  rw [hR, ← Option.some.inj e]; exact ret_Bg rfl

set_option maxRecDepth 100000 in
theorem BJwy_forget_L2_s (L : Nat) (xs : Nat → Int32) (R : List Value × Lay × Hp) (v1 : Int32) (h : Hp) (o : ((Int32 × Hp) ⊕ (Int32 × Hp))) (hH : ∀ s : Int32 × Hp, o = .inl s → Bg L xs 97 2 [(0, .ref 9), (1, .int s.1)] [] LY70 s.2 R) (hE : ∀ t : Int32 × Hp, o = .inr t → Bg L xs 97 29 [(0, .ref 9), (1, .int t.1)] [] LY70 t.2 R) (e : Jwy_forget_L2 v1 h = some o) : Bg L xs 97 2 [(0, .ref 9), (1, .int v1)] [] LY70 h R := by
  refine seg_Bg (pc' := (if v1 < 256 then 9 else 29)) (lv' := [(0, .ref 9), (1, .int v1)]) (st' := []) (lay' := LY70) (h' := h) 3 rfl ?_
  refine pc_ite e (fun e => ?_) (fun e => ?_)
  · refine seg_Bg (pc' := 15) (lv' := [(0, .ref 9), (1, .int v1)]) (st' := [.int 0, .int v1, .ref 23]) (lay' := LY70) (h' := h) 4 rfl ?_
    refine gp_Bg (pc' := 16) (lv' := [(0, .ref 9), (1, .int v1)]) (st' := []) (lay' := LY70) (x := hset h 23 (Int32.toNatClampNeg v1) (vp_nar .boolean 0)) (g := ibB v1 256) rfl e fun h1 e => ?_
    refine seg_Bg (pc' := 22) (lv' := [(0, .ref 9), (1, .int v1)]) (st' := [.int 0, .int v1, .ref 25]) (lay' := LY70) (h' := h1) 4 rfl ?_
    refine gp_Bg (pc' := 23) (lv' := [(0, .ref 9), (1, .int v1)]) (st' := []) (lay' := LY70) (x := hset h1 25 (Int32.toNatClampNeg v1) 0) (g := ibB v1 256) rfl e fun h2 e => ?_
    refine seg_Bg (pc' := 2) (lv' := [(0, .ref 9), (1, .int (v1 + 1))]) (st' := []) (lay' := LY70) (h' := h2) 2 rfl ?_
    exact hH (v1 + 1, h2) (Option.some.inj e).symm
  · exact hE (v1, h) (Option.some.inj e).symm
theorem BJwy_forget_L2 (L : Nat) (xs : Nat → Int32) (R : List Value × Lay × Hp) (C : (Int32 × Hp) → Prop) (hE : ∀ t : Int32 × Hp, C t → Bg L xs 97 29 [(0, .ref 9), (1, .int t.1)] [] LY70 t.2 R) (n : Nat) (s : Int32 × Hp) (o : (Int32 × Hp)) (e : loopN n (fun s => Jwy_forget_L2 s.1 s.2) s = some o) (hC : C o) : Bg L xs 97 2 [(0, .ref 9), (1, .int s.1)] [] LY70 s.2 R := by
  refine loop_B (fun s => Jwy_forget_L2 s.1 s.2) (fun s : Int32 × Hp => Bg L xs 97 2 [(0, .ref 9), (1, .int s.1)] [] LY70 s.2 R) C (fun s o e => ?_) n s o e hC
  intro hK
  refine BJwy_forget_L2_s L xs R s.1 s.2 o (fun s q => by subst q; exact hK) (fun t q => by subst q; exact hE t hK) e
set_option maxRecDepth 100000 in
theorem BJwy_forget (L : Nat) (xs : Nat → Int32) (h : Hp) (o : Hp) (e : Jwy_forget h = some o) : Bg L xs 97 0 [(0, .ref 9)] [] LY70 h ([], LY70, o) := by
  obtain ⟨R, hR⟩ : ∃ R : List Value × Lay × Hp, R = ([], LY70, o) := ⟨_, rfl⟩
  rw [← hR]
  refine seg_Bg (pc' := 2) (lv' := [(0, .ref 9), (1, .int 0)]) (st' := []) (lay' := LY70) (h' := h) 2 rfl ?_
  obtain ⟨t3o, et3o, e⟩ := bd_s e
  refine BJwy_forget_L2 L xs R (fun (t3 : Int32 × Hp) => (some t3.2) = some o) (fun t3 e => ?_) 1000000 (0, h) _ et3o e
  rw [hR, ← Option.some.inj e]; exact ret_Bg rfl

set_option maxRecDepth 100000 in
theorem BJyn_reckoned (L : Nat) (xs : Nat → Int32) (h : Hp) (o : Hp) (e : Jyn_reckoned h = some o) : Bg L xs 126 0 [(0, .ref 0)] [] LY70 h ([.ref 10], LY70, o) := by
  obtain ⟨R, hR⟩ : ∃ R : List Value × Lay × Hp, R = ([.ref 10], LY70, o) := ⟨_, rfl⟩
  rw [← hR]
  refine seg_Bg (pc' := 4) (lv' := [(0, .ref 0)]) (st' := [.ref 9]) (lay' := LY70) (h' := h) 2 rfl ?_
  refine call_Bg (a := 96) (la := [(0, .ref 9)]) (np := 7) (lv' := [(0, .ref 0)]) (rest := []) (res := fun r => ([.ref 10], LY70, h)) rfl e (fun r e => BJwy_costs L xs h r e) (fun c1 e => ?_)
  show Bg L xs 126 7 [(0, .ref 0)] [.ref 10] LY70 h R
  refine seg_Bg (pc' := 13) (lv' := [(0, .ref 0), (1, .ref 10)]) (st' := [.ref 29, .ref 10]) (lay' := LY70) (h' := h) 4 rfl ?_
  refine call_Bg (a := 14) (la := [(0, .ref 10), (1, .ref 29)]) (np := 16) (lv' := [(0, .ref 0), (1, .ref 10)]) (rest := []) (res := fun r => ([.int r], LY70, h)) rfl e (fun r e => BJcs_areOf L xs h r e) (fun c2 e => ?_)
  show Bg L xs 126 16 [(0, .ref 0), (1, .ref 10)] [.int c2] LY70 h R
  refine seg_Bg (pc' := (if c2 = 0 then 19 else 42)) (lv' := [(0, .ref 0), (1, .ref 10)]) (st' := []) (lay' := LY70) (h' := h) 1 rfl ?_
  refine pc_ite e (fun e => ?_) (fun e => ?_)
  · refine seg_Bg (pc' := 29) (lv' := [(0, .ref 0), (1, .ref 10)]) (st' := [.ref 0, .ref 4, .ref 29, .ref 10]) (lay' := LY70) (h' := h) 6 rfl ?_
    refine call_Bg (a := 123) (la := [(0, .ref 0)]) (np := 32) (lv' := [(0, .ref 0), (1, .ref 10)]) (rest := [.ref 4, .ref 29, .ref 10]) (res := fun r => ([.int r], LY70, h)) rfl e (fun r e => BJyn_common L xs h r e) (fun c3 e => ?_)
    show Bg L xs 126 32 [(0, .ref 0), (1, .ref 10)] [.int c3, .ref 4, .ref 29, .ref 10] LY70 h R
    refine call_Bg (a := 15) (la := [(0, .ref 10), (1, .ref 29), (2, .ref 4), (3, .int c3)]) (np := 35) (lv' := [(0, .ref 0), (1, .ref 10)]) (rest := []) (res := fun r => ([], LY70, r)) rfl e (fun r e => BJcs_reckon L xs c3 h r e) (fun c4 e => ?_)
    show Bg L xs 126 35 [(0, .ref 0), (1, .ref 10)] [] LY70 c4 R
    refine seg_Bg (pc' := 39) (lv' := [(0, .ref 0), (1, .ref 10)]) (st' := [.ref 9]) (lay' := LY70) (h' := c4) 2 rfl ?_
    refine call_Bg (a := 97) (la := [(0, .ref 9)]) (np := 42) (lv' := [(0, .ref 0), (1, .ref 10)]) (rest := []) (res := fun r => ([], LY70, r)) rfl e (fun r e => BJwy_forget L xs c4 r e) (fun c5 e => ?_)
    show Bg L xs 126 42 [(0, .ref 0), (1, .ref 10)] [] LY70 c5 R
    refine seg_Bg (pc' := 43) (lv' := [(0, .ref 0), (1, .ref 10)]) (st' := [.ref 10]) (lay' := LY70) (h' := c5) 1 rfl ?_
    rw [hR, ← Option.some.inj e]; exact ret_Bg rfl
  · refine seg_Bg (pc' := 43) (lv' := [(0, .ref 0), (1, .ref 10)]) (st' := [.ref 10]) (lay' := LY70) (h' := h) 1 rfl ?_
    rw [hR, ← Option.some.inj e]; exact ret_Bg rfl

set_option maxRecDepth 100000 in
theorem BJcs_madeCount (L : Nat) (xs : Nat → Int32) (h : Hp) (o : Int32) (e : Jcs_madeCount h = some o) : Bg L xs 29 0 [(0, .ref 10)] [] LY70 h ([.int o], LY70, h) := by
  obtain ⟨R, hR⟩ : ∃ R : List Value × Lay × Hp, R = ([.int o], LY70, h) := ⟨_, rfl⟩
  rw [← hR]
  refine seg_Bg (pc' := 4) (lv' := [(0, .ref 10)]) (st' := [.int (h 10 9)]) (lay' := LY70) (h' := h) 2 rfl ?_
  rw [hR, ← Option.some.inj e]; exact ret_Bg rfl

set_option maxRecDepth 100000 in
theorem BJcs_greatestCost (L : Nat) (xs : Nat → Int32) (h : Hp) (o : Int32) (e : Jcs_greatestCost h = some o) : Bg L xs 30 0 [(0, .ref 10)] [] LY70 h ([.int o], LY70, h) := by
  obtain ⟨R, hR⟩ : ∃ R : List Value × Lay × Hp, R = ([.int o], LY70, h) := ⟨_, rfl⟩
  rw [← hR]
  refine seg_Bg (pc' := 4) (lv' := [(0, .ref 10)]) (st' := [.int (h 10 13)]) (lay' := LY70) (h' := h) 2 rfl ?_
  rw [hR, ← Option.some.inj e]; exact ret_Bg rfl

set_option maxRecDepth 100000 in
theorem BJcs_madeAt (L : Nat) (xs : Nat → Int32) (v1 : Int32) (h : Hp) (o : Int32) (e : Jcs_madeAt v1 h = some o) : Bg L xs 28 0 [(0, .ref 10), (1, .int v1)] [] LY70 h ([.int o], LY70, h) := by
  obtain ⟨R, hR⟩ : ∃ R : List Value × Lay × Hp, R = ([.int o], LY70, h) := ⟨_, rfl⟩
  rw [← hR]
  refine seg_Bg (pc' := (if v1 < 0 then 28 else 4)) (lv' := [(0, .ref 10), (1, .int v1)]) (st' := []) (lay' := LY70) (h' := h) 2 rfl ?_
  refine pc_ite e (fun e => ?_) (fun e => ?_)
  · refine seg_Bg (pc' := 29) (lv' := [(0, .ref 10), (1, .int v1)]) (st' := [.int (-1)]) (lay' := LY70) (h' := h) 1 rfl ?_
    rw [hR, ← Option.some.inj e]; exact ret_Bg rfl
  · refine seg_Bg (pc' := (if v1 < (h 10 9) then 12 else 28)) (lv' := [(0, .ref 10), (1, .int v1)]) (st' := []) (lay' := LY70) (h' := h) 4 rfl ?_
    refine pc_ite e (fun e => ?_) (fun e => ?_)
    · refine seg_Bg (pc' := (if v1 < 256 then 19 else 28)) (lv' := [(0, .ref 10), (1, .int v1)]) (st' := []) (lay' := LY70) (h' := h) 3 rfl ?_
      refine pc_ite e (fun e => ?_) (fun e => ?_)
      · refine seg_Bg (pc' := 24) (lv' := [(0, .ref 10), (1, .int v1)]) (st' := [.int v1, .ref 13]) (lay' := LY70) (h' := h) 3 rfl ?_
        refine gd_Bg (pc' := 25) (lv' := [(0, .ref 10), (1, .int v1)]) (st' := [.int (h 13 (Int32.toNatClampNeg v1))]) (lay' := LY70) (h' := h) (g := ibB v1 256) rfl e fun e => ?_
        refine seg_Bg (pc' := 29) (lv' := [(0, .ref 10), (1, .int v1)]) (st' := [.int (h 13 (Int32.toNatClampNeg v1))]) (lay' := LY70) (h' := h) 1 rfl ?_
        rw [hR, ← Option.some.inj e]; exact ret_Bg rfl
      · refine seg_Bg (pc' := 29) (lv' := [(0, .ref 10), (1, .int v1)]) (st' := [.int (-1)]) (lay' := LY70) (h' := h) 1 rfl ?_
        rw [hR, ← Option.some.inj e]; exact ret_Bg rfl
    · refine seg_Bg (pc' := 29) (lv' := [(0, .ref 10), (1, .int v1)]) (st' := [.int (-1)]) (lay' := LY70) (h' := h) 1 rfl ?_
      rw [hR, ← Option.some.inj e]; exact ret_Bg rfl

set_option maxRecDepth 100000 in
theorem BJcs_leastCodeCosting (L : Nat) (xs : Nat → Int32) (v1 : Int32) (h : Hp) (o : Int32) (e : Jcs_leastCodeCosting v1 h = some o) : Bg L xs 31 0 [(0, .ref 10), (1, .int v1)] [] LY70 h ([.int o], LY70, h) := by
  obtain ⟨R, hR⟩ : ∃ R : List Value × Lay × Hp, R = ([.int o], LY70, h) := ⟨_, rfl⟩
  rw [← hR]
  refine seg_Bg (pc' := 4) (lv' := [(0, .ref 10), (1, .int v1)]) (st' := [.int 1, .int v1, .ref 10, .ref 10]) (lay' := LY70) (h' := h) 4 rfl ?_
  refine call_Bg (a := 26) (la := [(0, .ref 10), (1, .int v1), (2, .int 1)]) (np := 7) (lv' := [(0, .ref 10), (1, .int v1)]) (rest := [.ref 10]) (res := fun r => ([.int r], LY70, h)) rfl e (fun r e => BJcs_partsFrom L xs v1 1 h r e) (fun c1 e => ?_)
  show Bg L xs 31 7 [(0, .ref 10), (1, .int v1)] [.int c1, .ref 10] LY70 h R
  refine call_Bg (a := 28) (la := [(0, .ref 10), (1, .int c1)]) (np := 10) (lv' := [(0, .ref 10), (1, .int v1)]) (rest := []) (res := fun r => ([.int r], LY70, h)) rfl e (fun r e => BJcs_madeAt L xs c1 h r e) (fun c2 e => ?_)
  show Bg L xs 31 10 [(0, .ref 10), (1, .int v1)] [.int c2] LY70 h R
  rw [hR, ← Option.some.inj e]; exact ret_Bg rfl

set_option maxRecDepth 100000 in
theorem BJyn_spare_L18_s (L : Nat) (xs : Nat → Int32) (v1 v2 : Int32) (h : Hp) (R : List Value × Lay × Hp) (v3 v4 : Int32) (o : ((Int32 × Int32) ⊕ (Int32 × Int32))) (hH : ∀ s : Int32 × Int32, o = .inl s → Bg L xs 125 18 [(0, .ref 0), (1, .int v1), (2, .int v2), (3, .int s.1), (4, .int s.2)] [] LY70 h R) (hE : ∀ t : Int32 × Int32, o = .inr t → Bg L xs 125 68 [(0, .ref 0), (1, .int v1), (2, .int v2), (3, .int t.1), (4, .int t.2)] [] LY70 h R) (e : Jyn_spare_L18 v1 v2 h v3 v4 = some o) : Bg L xs 125 18 [(0, .ref 0), (1, .int v1), (2, .int v2), (3, .int v3), (4, .int v4)] [] LY70 h R := by
  refine seg_Bg (pc' := 24) (lv' := [(0, .ref 0), (1, .int v1), (2, .int v2), (3, .int v3), (4, .int v4)]) (st' := [.ref 29, .int v4]) (lay' := LY70) (h' := h) 3 rfl ?_
  refine call_Bg (a := 74) (la := [(0, .ref 29)]) (np := 27) (lv' := [(0, .ref 0), (1, .int v1), (2, .int v2), (3, .int v3), (4, .int v4)]) (rest := [.int v4]) (res := fun r => ([.int r], LY70, h)) rfl e (fun r e => BJsh_size L xs h r e) (fun c3 e => ?_)
  show Bg L xs 125 27 [(0, .ref 0), (1, .int v1), (2, .int v2), (3, .int v3), (4, .int v4)] [.int c3, .int v4] LY70 h R
  refine seg_Bg (pc' := (if v4 < c3 then 30 else 68)) (lv' := [(0, .ref 0), (1, .int v1), (2, .int v2), (3, .int v3), (4, .int v4)]) (st' := []) (lay' := LY70) (h' := h) 1 rfl ?_
  refine pc_ite e (fun e => ?_) (fun e => ?_)
  · refine seg_Bg (pc' := (if ((v1 >>> (v4 &&& 31) : Int32) &&& (1 : Int32)) = 0 then 62 else 39)) (lv' := [(0, .ref 0), (1, .int v1), (2, .int v2), (3, .int v3), (4, .int v4)]) (st' := []) (lay' := LY70) (h' := h) 6 rfl ?_
    refine pc_ite e (fun e => ?_) (fun e => ?_)
    · refine seg_Bg (pc' := 18) (lv' := [(0, .ref 0), (1, .int v1), (2, .int v2), (3, .int v3), (4, .int (v4 + 1))]) (st' := []) (lay' := LY70) (h' := h) 2 rfl ?_
      exact hH (v3, v4 + 1) (Option.some.inj e).symm
    · refine seg_Bg (pc' := 48) (lv' := [(0, .ref 0), (1, .int v1), (2, .int v2), (3, .int v3), (4, .int v4)]) (st' := [.int (v1 &&& (((1 : Int32) <<< (v4 &&& 31) : Int32) ^^^ (-1 : Int32))), .ref 0]) (lay' := LY70) (h' := h) 8 rfl ?_
      refine call_Bg (a := 124) (la := [(0, .ref 0), (1, .int (v1 &&& (((1 : Int32) <<< (v4 &&& 31) : Int32) ^^^ (-1 : Int32))))]) (np := 51) (lv' := [(0, .ref 0), (1, .int v1), (2, .int v2), (3, .int v3), (4, .int v4)]) (rest := []) (res := fun r => ([.int r], LY70, h)) rfl e (fun r e => BJyn_commonOf L xs (v1 &&& (((1 : Int32) <<< (v4 &&& 31) : Int32) ^^^ (-1 : Int32))) h r e) (fun c4 e => ?_)
      show Bg L xs 125 51 [(0, .ref 0), (1, .int v1), (2, .int v2), (3, .int v3), (4, .int v4)] [.int c4] LY70 h R
      refine seg_Bg (pc' := (if c4 = v2 then 55 else 62)) (lv' := [(0, .ref 0), (1, .int v1), (2, .int v2), (3, .int v3), (4, .int v4)]) (st' := []) (lay' := LY70) (h' := h) 2 rfl ?_
      refine pc_ite e (fun e => ?_) (fun e => ?_)
      · refine seg_Bg (pc' := 18) (lv' := [(0, .ref 0), (1, .int v1), (2, .int v2), (3, .int (v3 ||| ((1 : Int32) <<< (v4 &&& 31) : Int32))), (4, .int (v4 + 1))]) (st' := []) (lay' := LY70) (h' := h) 8 rfl ?_
        exact hH (v3 ||| ((1 : Int32) <<< (v4 &&& 31) : Int32), v4 + 1) (Option.some.inj e).symm
      · refine seg_Bg (pc' := 18) (lv' := [(0, .ref 0), (1, .int v1), (2, .int v2), (3, .int v3), (4, .int (v4 + 1))]) (st' := []) (lay' := LY70) (h' := h) 2 rfl ?_
        exact hH (v3, v4 + 1) (Option.some.inj e).symm
  · exact hE (v3, v4) (Option.some.inj e).symm
theorem BJyn_spare_L18 (L : Nat) (xs : Nat → Int32) (v1 v2 : Int32) (h : Hp) (R : List Value × Lay × Hp) (C : (Int32 × Int32) → Prop) (hE : ∀ t : Int32 × Int32, C t → Bg L xs 125 68 [(0, .ref 0), (1, .int v1), (2, .int v2), (3, .int t.1), (4, .int t.2)] [] LY70 h R) (n : Nat) (s : Int32 × Int32) (o : (Int32 × Int32)) (e : loopN n (fun s => Jyn_spare_L18 v1 v2 h s.1 s.2) s = some o) (hC : C o) : Bg L xs 125 18 [(0, .ref 0), (1, .int v1), (2, .int v2), (3, .int s.1), (4, .int s.2)] [] LY70 h R := by
  refine loop_B (fun s => Jyn_spare_L18 v1 v2 h s.1 s.2) (fun s : Int32 × Int32 => Bg L xs 125 18 [(0, .ref 0), (1, .int v1), (2, .int v2), (3, .int s.1), (4, .int s.2)] [] LY70 h R) C (fun s o e => ?_) n s o e hC
  intro hK
  refine BJyn_spare_L18_s L xs v1 v2 h R s.1 s.2 o (fun s q => by subst q; exact hK) (fun t q => by subst q; exact hE t hK) e
set_option maxRecDepth 100000 in
theorem BJyn_spare (L : Nat) (xs : Nat → Int32) (h : Hp) (o : Int32) (e : Jyn_spare h = some o) : Bg L xs 125 0 [(0, .ref 0)] [] LY70 h ([.int o], LY70, h) := by
  obtain ⟨R, hR⟩ : ∃ R : List Value × Lay × Hp, R = ([.int o], LY70, h) := ⟨_, rfl⟩
  rw [← hR]
  refine seg_Bg (pc' := 4) (lv' := [(0, .ref 0)]) (st' := [.ref 29]) (lay' := LY70) (h' := h) 2 rfl ?_
  refine call_Bg (a := 78) (la := [(0, .ref 29)]) (np := 7) (lv' := [(0, .ref 0)]) (rest := []) (res := fun r => ([.int r], LY70, h)) rfl e (fun r e => BJsh_chosenSet L xs h r e) (fun c1 e => ?_)
  show Bg L xs 125 7 [(0, .ref 0)] [.int c1] LY70 h R
  refine seg_Bg (pc' := 9) (lv' := [(0, .ref 0), (1, .int c1)]) (st' := [.ref 0]) (lay' := LY70) (h' := h) 2 rfl ?_
  refine call_Bg (a := 123) (la := [(0, .ref 0)]) (np := 12) (lv' := [(0, .ref 0), (1, .int c1)]) (rest := []) (res := fun r => ([.int r], LY70, h)) rfl e (fun r e => BJyn_common L xs h r e) (fun c2 e => ?_)
  show Bg L xs 125 12 [(0, .ref 0), (1, .int c1)] [.int c2] LY70 h R
  refine seg_Bg (pc' := 18) (lv' := [(0, .ref 0), (1, .int c1), (2, .int c2), (3, .int 0), (4, .int 0)]) (st' := []) (lay' := LY70) (h' := h) 5 rfl ?_
  obtain ⟨t5o, et5o, e⟩ := bd_s e
  refine BJyn_spare_L18 L xs c1 c2 h R (fun (t5 : Int32 × Int32) => (some t5.1) = some o) (fun t5 e => ?_) 1000000 (0, 0) _ et5o e
  refine seg_Bg (pc' := 69) (lv' := [(0, .ref 0), (1, .int c1), (2, .int c2), (3, .int t5.1), (4, .int t5.2)]) (st' := [.int t5.1]) (lay' := LY70) (h' := h) 1 rfl ?_
  rw [hR, ← Option.some.inj e]; exact ret_Bg rfl

set_option maxRecDepth 100000 in
theorem BJpl_count (L : Nat) (xs : Nat → Int32) (h : Hp) (o : Int32) (e : Jpl_count h = some o) : Bg L xs 58 0 [(0, .ref 4)] [] LY70 h ([.int o], LY70, h) := by
  obtain ⟨R, hR⟩ : ∃ R : List Value × Lay × Hp, R = ([.int o], LY70, h) := ⟨_, rfl⟩
  rw [← hR]
  refine seg_Bg (pc' := 4) (lv' := [(0, .ref 4)]) (st' := [.int (h 4 4)]) (lay' := LY70) (h' := h) 2 rfl ?_
  rw [hR, ← Option.some.inj e]; exact ret_Bg rfl

set_option maxRecDepth 100000 in
theorem BJbk_size (L : Nat) (xs : Nat → Int32) (h : Hp) (o : Int32) (e : Jbk_size h = some o) : Bg L xs 1 0 [(0, .ref 26)] [] LY70 h ([.int o], LY70, h) := by
  obtain ⟨R, hR⟩ : ∃ R : List Value × Lay × Hp, R = ([.int o], LY70, h) := ⟨_, rfl⟩
  rw [← hR]
  refine seg_Bg (pc' := 4) (lv' := [(0, .ref 26)]) (st' := [.int (h 26 2)]) (lay' := LY70) (h' := h) 2 rfl ?_
  rw [hR, ← Option.some.inj e]; exact ret_Bg rfl

set_option maxRecDepth 100000 in
theorem BJcs_costOf (L : Nat) (xs : Nat → Int32) (v1 : Int32) (h : Hp) (o : Int32) (e : Jcs_costOf v1 h = some o) : Bg L xs 33 0 [(0, .ref 10), (1, .int v1)] [] LY70 h ([.int o], LY70, h) := by
  obtain ⟨R, hR⟩ : ∃ R : List Value × Lay × Hp, R = ([.int o], LY70, h) := ⟨_, rfl⟩
  rw [← hR]
  refine seg_Bg (pc' := 1) (lv' := [(0, .ref 10), (1, .int v1)]) (st' := [.int v1]) (lay' := LY70) (h' := h) 1 rfl ?_
  refine call_Bg (a := 122) (la := [(0, .int v1)]) (np := 4) (lv' := [(0, .ref 10), (1, .int v1)]) (rest := []) (res := fun r => ([.int r], LY70, h)) rfl e (fun r e => BJyn_isCode L xs v1 LY70 h r e) (fun c1 e => ?_)
  show Bg L xs 33 4 [(0, .ref 10), (1, .int v1)] [.int c1] LY70 h R
  refine seg_Bg (pc' := (if c1 = 0 then 16 else 7)) (lv' := [(0, .ref 10), (1, .int v1)]) (st' := []) (lay' := LY70) (h' := h) 1 rfl ?_
  refine pc_ite e (fun e => ?_) (fun e => ?_)
  · refine seg_Bg (pc' := 17) (lv' := [(0, .ref 10), (1, .int v1)]) (st' := [.int (-1)]) (lay' := LY70) (h' := h) 1 rfl ?_
    rw [hR, ← Option.some.inj e]; exact ret_Bg rfl
  · refine seg_Bg (pc' := 12) (lv' := [(0, .ref 10), (1, .int v1)]) (st' := [.int v1, .ref 11]) (lay' := LY70) (h' := h) 3 rfl ?_
    refine gd_Bg (pc' := 13) (lv' := [(0, .ref 10), (1, .int v1)]) (st' := [.int (h 11 (Int32.toNatClampNeg v1))]) (lay' := LY70) (h' := h) (g := ibB v1 256) rfl e fun e => ?_
    refine seg_Bg (pc' := 17) (lv' := [(0, .ref 10), (1, .int v1)]) (st' := [.int (h 11 (Int32.toNatClampNeg v1))]) (lay' := LY70) (h' := h) 1 rfl ?_
    rw [hR, ← Option.some.inj e]; exact ret_Bg rfl

set_option maxRecDepth 100000 in
theorem BJbk_firstWrong_L2_s (L : Nat) (xs : Nat → Int32) (h : Hp) (R : List Value × Lay × Hp) (v2 : Int32) (o : ((Int32) ⊕ ((Int32) ⊕ (Int32)))) (hH : ∀ s : Int32, o = .inl s → Bg L xs 2 2 [(0, .ref 26), (1, .ref 10), (2, .int s)] [] LY70 h R) (hE : ∀ t : Int32, o = .inr (.inl t) → Bg L xs 2 43 [(0, .ref 26), (1, .ref 10), (2, .int t)] [] LY70 h R) (hR : ∀ r : Int32, o = .inr (.inr r) → R = ([.int r], LY70, h)) (e : Jbk_firstWrong_L2 h v2 = some o) : Bg L xs 2 2 [(0, .ref 26), (1, .ref 10), (2, .int v2)] [] LY70 h R := by
  refine seg_Bg (pc' := (if v2 < (h 26 2) then 10 else 43)) (lv' := [(0, .ref 26), (1, .ref 10), (2, .int v2)]) (st' := []) (lay' := LY70) (h' := h) 4 rfl ?_
  refine pc_ite e (fun e => ?_) (fun e => ?_)
  · refine seg_Bg (pc' := (if v2 < 20 then 16 else 43)) (lv' := [(0, .ref 26), (1, .ref 10), (2, .int v2)]) (st' := []) (lay' := LY70) (h' := h) 3 rfl ?_
    refine pc_ite e (fun e => ?_) (fun e => ?_)
    · refine seg_Bg (pc' := 22) (lv' := [(0, .ref 26), (1, .ref 10), (2, .int v2)]) (st' := [.int v2, .ref 27, .ref 10]) (lay' := LY70) (h' := h) 4 rfl ?_
      refine gd_Bg (pc' := 23) (lv' := [(0, .ref 26), (1, .ref 10), (2, .int v2)]) (st' := [.int (h 27 (Int32.toNatClampNeg v2)), .ref 10]) (lay' := LY70) (h' := h) (g := ibB v2 20) rfl e fun e => ?_
      refine call_Bg (a := 33) (la := [(0, .ref 10), (1, .int (h 27 (Int32.toNatClampNeg v2)))]) (np := 26) (lv' := [(0, .ref 26), (1, .ref 10), (2, .int v2)]) (rest := []) (res := fun r => ([.int r], LY70, h)) rfl e (fun r e => BJcs_costOf L xs (h 27 (Int32.toNatClampNeg v2)) h r e) (fun c1 e => ?_)
      show Bg L xs 2 26 [(0, .ref 26), (1, .ref 10), (2, .int v2)] [.int c1] LY70 h R
      refine seg_Bg (pc' := 31) (lv' := [(0, .ref 26), (1, .ref 10), (2, .int v2)]) (st' := [.int v2, .ref 28, .int c1]) (lay' := LY70) (h' := h) 3 rfl ?_
      refine gd_Bg (pc' := 32) (lv' := [(0, .ref 26), (1, .ref 10), (2, .int v2)]) (st' := [.int (h 28 (Int32.toNatClampNeg v2)), .int c1]) (lay' := LY70) (h' := h) (g := ibB v2 20) rfl e fun e => ?_
      refine seg_Bg (pc' := (if c1 = (h 28 (Int32.toNatClampNeg v2)) then 37 else 35)) (lv' := [(0, .ref 26), (1, .ref 10), (2, .int v2)]) (st' := []) (lay' := LY70) (h' := h) 1 rfl ?_
      refine pc_ite e (fun e => ?_) (fun e => ?_)
      · refine seg_Bg (pc' := 2) (lv' := [(0, .ref 26), (1, .ref 10), (2, .int (v2 + 1))]) (st' := []) (lay' := LY70) (h' := h) 2 rfl ?_
        exact hH (v2 + 1) (Option.some.inj e).symm
      · refine seg_Bg (pc' := 36) (lv' := [(0, .ref 26), (1, .ref 10), (2, .int v2)]) (st' := [.int v2]) (lay' := LY70) (h' := h) 1 rfl ?_
        rw [hR v2 (Option.some.inj e).symm]; exact ret_Bg rfl
    · exact hE v2 (Option.some.inj e).symm
  · exact hE v2 (Option.some.inj e).symm
theorem BJbk_firstWrong_L2 (L : Nat) (xs : Nat → Int32) (h : Hp) (R : List Value × Lay × Hp) (C : ((Int32) ⊕ (Int32)) → Prop) (hE : ∀ t : Int32, C (.inl t) → Bg L xs 2 43 [(0, .ref 26), (1, .ref 10), (2, .int t)] [] LY70 h R) (hR : ∀ r : Int32, C (.inr r) → R = ([.int r], LY70, h)) (n : Nat) (s : Int32) (o : ((Int32) ⊕ (Int32))) (e : loopN n (fun s => Jbk_firstWrong_L2 h s) s = some o) (hC : C o) : Bg L xs 2 2 [(0, .ref 26), (1, .ref 10), (2, .int s)] [] LY70 h R := by
  refine loop_B (fun s => Jbk_firstWrong_L2 h s) (fun s : Int32 => Bg L xs 2 2 [(0, .ref 26), (1, .ref 10), (2, .int s)] [] LY70 h R) C (fun s o e => ?_) n s o e hC
  intro hK
  refine BJbk_firstWrong_L2_s L xs h R s o (fun s q => by subst q; exact hK) (fun t q => by subst q; exact hE t hK) (fun r q => by subst q; exact hR r hK) e
set_option maxRecDepth 100000 in
theorem BJbk_firstWrong (L : Nat) (xs : Nat → Int32) (h : Hp) (o : Int32) (e : Jbk_firstWrong h = some o) : Bg L xs 2 0 [(0, .ref 26), (1, .ref 10)] [] LY70 h ([.int o], LY70, h) := by
  obtain ⟨R, hR⟩ : ∃ R : List Value × Lay × Hp, R = ([.int o], LY70, h) := ⟨_, rfl⟩
  rw [← hR]
  refine seg_Bg (pc' := 2) (lv' := [(0, .ref 26), (1, .ref 10), (2, .int 0)]) (st' := []) (lay' := LY70) (h' := h) 2 rfl ?_
  obtain ⟨t2o, et2o, e⟩ := bd_s e
  refine BJbk_firstWrong_L2 L xs h R (fun (t2x : (Int32) ⊕ (Int32)) => (sm t2x (fun t2 => some (-1)) (fun r2 => some r2)) = some o) (fun t2 e => ?_) (fun r2 e => ?_) 1000000 0 _ et2o e
  · refine seg_Bg (pc' := 44) (lv' := [(0, .ref 26), (1, .ref 10), (2, .int t2)]) (st' := [.int (-1)]) (lay' := LY70) (h' := h) 1 rfl ?_
    rw [hR, ← Option.some.inj e]; exact ret_Bg rfl
  · rw [hR]; exact congrArg (fun r => (([.int r], LY70, h) : List Value × Lay × Hp)) (Option.some.inj e).symm

set_option maxRecDepth 100000 in
theorem BJpa_size (L : Nat) (xs : Nat → Int32) (h : Hp) (o : Int32) (e : Jpa_size h = some o) : Bg L xs 50 0 [(0, .ref 31)] [] LY70 h ([.int o], LY70, h) := by
  obtain ⟨R, hR⟩ : ∃ R : List Value × Lay × Hp, R = ([.int o], LY70, h) := ⟨_, rfl⟩
  rw [← hR]
  refine seg_Bg (pc' := 4) (lv' := [(0, .ref 31)]) (st' := [.int (h 31 3)]) (lay' := LY70) (h' := h) 2 rfl ?_
  rw [hR, ← Option.some.inj e]; exact ret_Bg rfl

set_option maxRecDepth 100000 in
theorem BJyn_told (L : Nat) (xs : Nat → Int32) (v1 : Int32) (h : Hp) (o : Int32 × Hp) (e : Jyn_told v1 h = some o) : Bg L xs 114 0 [(0, .ref 0), (1, .int v1)] [] LY70 h ([.int o.1], LY70, o.2) := by
  obtain ⟨R, hR⟩ : ∃ R : List Value × Lay × Hp, R = ([.int o.1], LY70, o.2) := ⟨_, rfl⟩
  rw [← hR]
  refine seg_Bg (pc' := (if v1 = 0 then 68 else if v1 = 1 then 76 else if v1 = 2 then 84 else if v1 = 3 then 92 else if v1 = 4 then 97 else if v1 = 5 then 109 else if v1 = 6 then 117 else if v1 = 7 then 125 else if v1 = 8 then 140 else if v1 = 9 then 145 else if v1 = 10 then 153 else if v1 = 11 then 161 else if v1 = 12 then 173 else 181)) (lv' := [(0, .ref 0), (1, .int v1)]) (st' := []) (lay' := LY70) (h' := h) 2 rfl ?_
  refine pc_ite e (fun e => ?_) (fun e => ?_)
  · refine seg_Bg (pc' := 72) (lv' := [(0, .ref 0), (1, .int v1)]) (st' := [.ref 29]) (lay' := LY70) (h' := h) 2 rfl ?_
    refine call_Bg (a := 74) (la := [(0, .ref 29)]) (np := 75) (lv' := [(0, .ref 0), (1, .int v1)]) (rest := []) (res := fun r => ([.int r], LY70, h)) rfl e (fun r e => BJsh_size L xs h r e) (fun c1 e => ?_)
    show Bg L xs 114 75 [(0, .ref 0), (1, .int v1)] [.int c1] LY70 h R
    rw [hR, ← Option.some.inj e]; exact ret_Bg rfl
  · refine pc_ite e (fun e => ?_) (fun e => ?_)
    · refine seg_Bg (pc' := 80) (lv' := [(0, .ref 0), (1, .int v1)]) (st' := [.ref 1]) (lay' := LY70) (h' := h) 2 rfl ?_
      refine call_Bg (a := 37) (la := [(0, .ref 1)]) (np := 83) (lv' := [(0, .ref 0), (1, .int v1)]) (rest := []) (res := fun r => ([.int r], LY70, h)) rfl e (fun r e => BJfm_size L xs h r e) (fun c2 e => ?_)
      show Bg L xs 114 83 [(0, .ref 0), (1, .int v1)] [.int c2] LY70 h R
      rw [hR, ← Option.some.inj e]; exact ret_Bg rfl
    · refine pc_ite e (fun e => ?_) (fun e => ?_)
      · refine seg_Bg (pc' := 88) (lv' := [(0, .ref 0), (1, .int v1)]) (st' := [.ref 29]) (lay' := LY70) (h' := h) 2 rfl ?_
        refine call_Bg (a := 78) (la := [(0, .ref 29)]) (np := 91) (lv' := [(0, .ref 0), (1, .int v1)]) (rest := []) (res := fun r => ([.int r], LY70, h)) rfl e (fun r e => BJsh_chosenSet L xs h r e) (fun c3 e => ?_)
        show Bg L xs 114 91 [(0, .ref 0), (1, .int v1)] [.int c3] LY70 h R
        rw [hR, ← Option.some.inj e]; exact ret_Bg rfl
      · refine pc_ite e (fun e => ?_) (fun e => ?_)
        · refine seg_Bg (pc' := 93) (lv' := [(0, .ref 0), (1, .int v1)]) (st' := [.ref 0]) (lay' := LY70) (h' := h) 1 rfl ?_
          refine call_Bg (a := 123) (la := [(0, .ref 0)]) (np := 96) (lv' := [(0, .ref 0), (1, .int v1)]) (rest := []) (res := fun r => ([.int r], LY70, h)) rfl e (fun r e => BJyn_common L xs h r e) (fun c4 e => ?_)
          show Bg L xs 114 96 [(0, .ref 0), (1, .int v1)] [.int c4] LY70 h R
          rw [hR, ← Option.some.inj e]; exact ret_Bg rfl
        · refine pc_ite e (fun e => ?_) (fun e => ?_)
          · refine seg_Bg (pc' := 102) (lv' := [(0, .ref 0), (1, .int v1)]) (st' := [.ref 0, .ref 4]) (lay' := LY70) (h' := h) 3 rfl ?_
            refine call_Bg (a := 123) (la := [(0, .ref 0)]) (np := 105) (lv' := [(0, .ref 0), (1, .int v1)]) (rest := [.ref 4]) (res := fun r => ([.int r], LY70, h)) rfl e (fun r e => BJyn_common L xs h r e) (fun c5 e => ?_)
            show Bg L xs 114 105 [(0, .ref 0), (1, .int v1)] [.int c5, .ref 4] LY70 h R
            refine call_Bg (a := 60) (la := [(0, .ref 4), (1, .int c5)]) (np := 108) (lv' := [(0, .ref 0), (1, .int v1)]) (rest := []) (res := fun r => ([.int r], LY70, h)) rfl e (fun r e => BJpl_numberOf L xs c5 h r e) (fun c6 e => ?_)
            show Bg L xs 114 108 [(0, .ref 0), (1, .int v1)] [.int c6] LY70 h R
            rw [hR, ← Option.some.inj e]; exact ret_Bg rfl
          · refine pc_ite e (fun e => ?_) (fun e => ?_)
            · refine seg_Bg (pc' := 110) (lv' := [(0, .ref 0), (1, .int v1)]) (st' := [.ref 0]) (lay' := LY70) (h' := h) 1 rfl ?_
              refine call_Bg (a := 126) (la := [(0, .ref 0)]) (np := 113) (lv' := [(0, .ref 0), (1, .int v1)]) (rest := []) (res := fun r => ([.ref 10], LY70, r)) rfl e (fun r e => BJyn_reckoned L xs h r e) (fun c7 e => ?_)
              show Bg L xs 114 113 [(0, .ref 0), (1, .int v1)] [.ref 10] LY70 c7 R
              refine call_Bg (a := 29) (la := [(0, .ref 10)]) (np := 116) (lv' := [(0, .ref 0), (1, .int v1)]) (rest := []) (res := fun r => ([.int r], LY70, c7)) rfl e (fun r e => BJcs_madeCount L xs c7 r e) (fun c8 e => ?_)
              show Bg L xs 114 116 [(0, .ref 0), (1, .int v1)] [.int c8] LY70 c7 R
              rw [hR, ← Option.some.inj e]; exact ret_Bg rfl
            · refine pc_ite e (fun e => ?_) (fun e => ?_)
              · refine seg_Bg (pc' := 118) (lv' := [(0, .ref 0), (1, .int v1)]) (st' := [.ref 0]) (lay' := LY70) (h' := h) 1 rfl ?_
                refine call_Bg (a := 126) (la := [(0, .ref 0)]) (np := 121) (lv' := [(0, .ref 0), (1, .int v1)]) (rest := []) (res := fun r => ([.ref 10], LY70, r)) rfl e (fun r e => BJyn_reckoned L xs h r e) (fun c9 e => ?_)
                show Bg L xs 114 121 [(0, .ref 0), (1, .int v1)] [.ref 10] LY70 c9 R
                refine call_Bg (a := 30) (la := [(0, .ref 10)]) (np := 124) (lv' := [(0, .ref 0), (1, .int v1)]) (rest := []) (res := fun r => ([.int r], LY70, c9)) rfl e (fun r e => BJcs_greatestCost L xs c9 r e) (fun c10 e => ?_)
                show Bg L xs 114 124 [(0, .ref 0), (1, .int v1)] [.int c10] LY70 c9 R
                rw [hR, ← Option.some.inj e]; exact ret_Bg rfl
              · refine pc_ite e (fun e => ?_) (fun e => ?_)
                · refine seg_Bg (pc' := 126) (lv' := [(0, .ref 0), (1, .int v1)]) (st' := [.ref 0]) (lay' := LY70) (h' := h) 1 rfl ?_
                  refine call_Bg (a := 126) (la := [(0, .ref 0)]) (np := 129) (lv' := [(0, .ref 0), (1, .int v1)]) (rest := []) (res := fun r => ([.ref 10], LY70, r)) rfl e (fun r e => BJyn_reckoned L xs h r e) (fun c11 e => ?_)
                  show Bg L xs 114 129 [(0, .ref 0), (1, .int v1)] [.ref 10] LY70 c11 R
                  refine seg_Bg (pc' := 130) (lv' := [(0, .ref 0), (1, .int v1)]) (st' := [.ref 0, .ref 10]) (lay' := LY70) (h' := c11) 1 rfl ?_
                  refine call_Bg (a := 126) (la := [(0, .ref 0)]) (np := 133) (lv' := [(0, .ref 0), (1, .int v1)]) (rest := [.ref 10]) (res := fun r => ([.ref 10], LY70, r)) rfl e (fun r e => BJyn_reckoned L xs c11 r e) (fun c12 e => ?_)
                  show Bg L xs 114 133 [(0, .ref 0), (1, .int v1)] [.ref 10, .ref 10] LY70 c12 R
                  refine call_Bg (a := 30) (la := [(0, .ref 10)]) (np := 136) (lv' := [(0, .ref 0), (1, .int v1)]) (rest := [.ref 10]) (res := fun r => ([.int r], LY70, c12)) rfl e (fun r e => BJcs_greatestCost L xs c12 r e) (fun c13 e => ?_)
                  show Bg L xs 114 136 [(0, .ref 0), (1, .int v1)] [.int c13, .ref 10] LY70 c12 R
                  refine call_Bg (a := 31) (la := [(0, .ref 10), (1, .int c13)]) (np := 139) (lv' := [(0, .ref 0), (1, .int v1)]) (rest := []) (res := fun r => ([.int r], LY70, c12)) rfl e (fun r e => BJcs_leastCodeCosting L xs c13 c12 r e) (fun c14 e => ?_)
                  show Bg L xs 114 139 [(0, .ref 0), (1, .int v1)] [.int c14] LY70 c12 R
                  rw [hR, ← Option.some.inj e]; exact ret_Bg rfl
                · refine pc_ite e (fun e => ?_) (fun e => ?_)
                  · refine seg_Bg (pc' := 141) (lv' := [(0, .ref 0), (1, .int v1)]) (st' := [.ref 0]) (lay' := LY70) (h' := h) 1 rfl ?_
                    refine call_Bg (a := 125) (la := [(0, .ref 0)]) (np := 144) (lv' := [(0, .ref 0), (1, .int v1)]) (rest := []) (res := fun r => ([.int r], LY70, h)) rfl e (fun r e => BJyn_spare L xs h r e) (fun c15 e => ?_)
                    show Bg L xs 114 144 [(0, .ref 0), (1, .int v1)] [.int c15] LY70 h R
                    rw [hR, ← Option.some.inj e]; exact ret_Bg rfl
                  · refine pc_ite e (fun e => ?_) (fun e => ?_)
                    · refine seg_Bg (pc' := 149) (lv' := [(0, .ref 0), (1, .int v1)]) (st' := [.ref 4]) (lay' := LY70) (h' := h) 2 rfl ?_
                      refine call_Bg (a := 58) (la := [(0, .ref 4)]) (np := 152) (lv' := [(0, .ref 0), (1, .int v1)]) (rest := []) (res := fun r => ([.int r], LY70, h)) rfl e (fun r e => BJpl_count L xs h r e) (fun c16 e => ?_)
                      show Bg L xs 114 152 [(0, .ref 0), (1, .int v1)] [.int c16] LY70 h R
                      rw [hR, ← Option.some.inj e]; exact ret_Bg rfl
                    · refine pc_ite e (fun e => ?_) (fun e => ?_)
                      · refine seg_Bg (pc' := 157) (lv' := [(0, .ref 0), (1, .int v1)]) (st' := [.ref 26]) (lay' := LY70) (h' := h) 2 rfl ?_
                        refine call_Bg (a := 1) (la := [(0, .ref 26)]) (np := 160) (lv' := [(0, .ref 0), (1, .int v1)]) (rest := []) (res := fun r => ([.int r], LY70, h)) rfl e (fun r e => BJbk_size L xs h r e) (fun c17 e => ?_)
                        show Bg L xs 114 160 [(0, .ref 0), (1, .int v1)] [.int c17] LY70 h R
                        rw [hR, ← Option.some.inj e]; exact ret_Bg rfl
                      · refine pc_ite e (fun e => ?_) (fun e => ?_)
                        · refine seg_Bg (pc' := 166) (lv' := [(0, .ref 0), (1, .int v1)]) (st' := [.ref 0, .ref 26]) (lay' := LY70) (h' := h) 3 rfl ?_
                          refine call_Bg (a := 126) (la := [(0, .ref 0)]) (np := 169) (lv' := [(0, .ref 0), (1, .int v1)]) (rest := [.ref 26]) (res := fun r => ([.ref 10], LY70, r)) rfl e (fun r e => BJyn_reckoned L xs h r e) (fun c18 e => ?_)
                          show Bg L xs 114 169 [(0, .ref 0), (1, .int v1)] [.ref 10, .ref 26] LY70 c18 R
                          refine call_Bg (a := 2) (la := [(0, .ref 26), (1, .ref 10)]) (np := 172) (lv' := [(0, .ref 0), (1, .int v1)]) (rest := []) (res := fun r => ([.int r], LY70, c18)) rfl e (fun r e => BJbk_firstWrong L xs c18 r e) (fun c19 e => ?_)
                          show Bg L xs 114 172 [(0, .ref 0), (1, .int v1)] [.int c19] LY70 c18 R
                          rw [hR, ← Option.some.inj e]; exact ret_Bg rfl
                        · refine pc_ite e (fun e => ?_) (fun e => ?_)
                          · refine seg_Bg (pc' := 177) (lv' := [(0, .ref 0), (1, .int v1)]) (st' := [.ref 31]) (lay' := LY70) (h' := h) 2 rfl ?_
                            refine call_Bg (a := 50) (la := [(0, .ref 31)]) (np := 180) (lv' := [(0, .ref 0), (1, .int v1)]) (rest := []) (res := fun r => ([.int r], LY70, h)) rfl e (fun r e => BJpa_size L xs h r e) (fun c20 e => ?_)
                            show Bg L xs 114 180 [(0, .ref 0), (1, .int v1)] [.int c20] LY70 h R
                            rw [hR, ← Option.some.inj e]; exact ret_Bg rfl
                          · refine seg_Bg (pc' := 183) (lv' := [(0, .ref 0), (1, .int v1)]) (st' := [.int (-1000000002)]) (lay' := LY70) (h' := h) 1 rfl ?_
                            rw [hR, ← Option.some.inj e]; exact ret_Bg rfl

