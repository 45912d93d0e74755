/-! Runs of the small machine are the functions of the methods. (Written by wip/whole/gen3.py.) -/
set_option maxRecDepth 100000 in
theorem BJm_copyRow_L2_s (L : Nat) (xs : Nat → Int32) (v1 v2 : Int32) (R : List Value × Lay × Hp) (v3 : Int32) (h : Hp) (o : ((Int32 × Hp) ⊕ (Int32 × Hp))) (hH : ∀ s : Int32 × Hp, o = .inl s → Bg L xs 168 2 [(0, .ref 37), (1, .int v1), (2, .int v2), (3, .int s.1)] [] LY88 s.2 R) (hE : ∀ t : Int32 × Hp, o = .inr t → Bg L xs 168 30 [(0, .ref 37), (1, .int v1), (2, .int v2), (3, .int t.1)] [] LY88 t.2 R) (e : Jm_copyRow_L2 v1 v2 v3 h = some o) : Bg L xs 168 2 [(0, .ref 37), (1, .int v1), (2, .int v2), (3, .int v3)] [] LY88 h R := by
  refine seg_Bg (pc' := (if v3 < 8 then 8 else 30)) (lv' := [(0, .ref 37), (1, .int v1), (2, .int v2), (3, .int v3)]) (st' := []) (lay' := LY88) (h' := h) 3 rfl ?_
  refine pc_ite e (fun e => ?_) (fun e => ?_)
  · refine seg_Bg (pc' := 22) (lv' := [(0, .ref 37), (1, .int v1), (2, .int v2), (3, .int v3)]) (st' := [.int (v1 + v3), .ref 38, .int (v2 + v3), .ref 38]) (lay' := LY88) (h' := h) 10 rfl ?_
    refine gd_Bg (pc' := 23) (lv' := [(0, .ref 37), (1, .int v1), (2, .int v2), (3, .int v3)]) (st' := [.int (h 38 (Int32.toNatClampNeg (v1 + v3))), .int (v2 + v3), .ref 38]) (lay' := LY88) (h' := h) (g := ibB (v1 + v3) 152) rfl e fun e => ?_
    refine gp_Bg (pc' := 24) (lv' := [(0, .ref 37), (1, .int v1), (2, .int v2), (3, .int v3)]) (st' := []) (lay' := LY88) (x := hset h 38 (Int32.toNatClampNeg (v2 + v3)) (h 38 (Int32.toNatClampNeg (v1 + v3)))) (g := ibB (v2 + v3) 152) rfl e fun h1 e => ?_
    refine seg_Bg (pc' := 2) (lv' := [(0, .ref 37), (1, .int v1), (2, .int v2), (3, .int (v3 + 1))]) (st' := []) (lay' := LY88) (h' := h1) 2 rfl ?_
    exact hH (v3 + 1, h1) (Option.some.inj e).symm
  · exact hE (v3, h) (Option.some.inj e).symm
theorem BJm_copyRow_L2 (L : Nat) (xs : Nat → Int32) (v1 v2 : Int32) (R : List Value × Lay × Hp) (C : (Int32 × Hp) → Prop) (hE : ∀ t : Int32 × Hp, C t → Bg L xs 168 30 [(0, .ref 37), (1, .int v1), (2, .int v2), (3, .int t.1)] [] LY88 t.2 R) (n : Nat) (s : Int32 × Hp) (o : (Int32 × Hp)) (e : loopN n (fun s => Jm_copyRow_L2 v1 v2 s.1 s.2) s = some o) (hC : C o) : Bg L xs 168 2 [(0, .ref 37), (1, .int v1), (2, .int v2), (3, .int s.1)] [] LY88 s.2 R := by
  refine loop_B (fun s => Jm_copyRow_L2 v1 v2 s.1 s.2) (fun s : Int32 × Hp => Bg L xs 168 2 [(0, .ref 37), (1, .int v1), (2, .int v2), (3, .int s.1)] [] LY88 s.2 R) C (fun s o e => ?_) n s o e hC
  intro hK
  refine BJm_copyRow_L2_s L xs v1 v2 R s.1 s.2 o (fun s q => by subst q; exact hK) (fun t q => by subst q; exact hE t hK) e
set_option maxRecDepth 100000 in
theorem BJm_copyRow (L : Nat) (xs : Nat → Int32) (v1 : Int32) (v2 : Int32) (h : Hp) (o : Hp) (e : Jm_copyRow v1 v2 h = some o) : Bg L xs 168 0 [(0, .ref 37), (1, .int v1), (2, .int v2)] [] LY88 h ([], LY88, o) := by
  obtain ⟨R, hR⟩ : ∃ R : List Value × Lay × Hp, R = ([], LY88, o) := ⟨_, rfl⟩
  rw [← hR]
  refine seg_Bg (pc' := 2) (lv' := [(0, .ref 37), (1, .int v1), (2, .int v2), (3, .int 0)]) (st' := []) (lay' := LY88) (h' := h) 2 rfl ?_
  obtain ⟨t2o, et2o, e⟩ := bd_s e
  refine BJm_copyRow_L2 L xs v1 v2 R (fun (t2 : Int32 × Hp) => (some t2.2) = some o) (fun t2 e => ?_) 1000000 (0, h) _ et2o e
  rw [hR, ← Option.some.inj e]; exact ret_Bg rfl

set_option maxRecDepth 100000 in
theorem BJm_remember_L3_s (L : Nat) (xs : Nat → Int32) (R : List Value × Lay × Hp) (v1 : Int32) (h : Hp) (o : ((Int32 × Hp) ⊕ (Int32 × Hp))) (hH : ∀ s : Int32 × Hp, o = .inl s → Bg L xs 169 3 [(0, .ref 37), (1, .int s.1)] [] LY88 s.2 R) (hE : ∀ t : Int32 × Hp, o = .inr t → Bg L xs 169 27 [(0, .ref 37), (1, .int t.1)] [] LY88 t.2 R) (e : Jm_remember_L3 v1 h = some o) : Bg L xs 169 3 [(0, .ref 37), (1, .int v1)] [] LY88 h R := by
  refine seg_Bg (pc' := (if 0 < v1 then 7 else 27)) (lv' := [(0, .ref 37), (1, .int v1)]) (st' := []) (lay' := LY88) (h' := h) 2 rfl ?_
  refine pc_ite e (fun e => ?_) (fun e => ?_)
  · refine seg_Bg (pc' := 18) (lv' := [(0, .ref 37), (1, .int v1)]) (st' := [.int ((8 : Int32) * v1), .int ((8 : Int32) * (v1 - (1 : Int32))), .ref 37]) (lay' := LY88) (h' := h) 9 rfl ?_
    refine call_Bg (a := 168) (la := [(0, .ref 37), (1, .int ((8 : Int32) * (v1 - (1 : Int32)))), (2, .int ((8 : Int32) * v1))]) (np := 21) (lv' := [(0, .ref 37), (1, .int v1)]) (rest := []) (res := fun r => ([], LY88, r)) rfl e (fun r e => BJm_copyRow L xs ((8 : Int32) * (v1 - (1 : Int32))) ((8 : Int32) * v1) h r e) (fun c1 e => ?_)
    show Bg L xs 169 21 [(0, .ref 37), (1, .int v1)] [] LY88 c1 R
    refine seg_Bg (pc' := 3) (lv' := [(0, .ref 37), (1, .int (v1 + (-1)))]) (st' := []) (lay' := LY88) (h' := c1) 2 rfl ?_
    exact hH (v1 + (-1), c1) (Option.some.inj e).symm
  · exact hE (v1, h) (Option.some.inj e).symm
theorem BJm_remember_L3 (L : Nat) (xs : Nat → Int32) (R : List Value × Lay × Hp) (C : (Int32 × Hp) → Prop) (hE : ∀ t : Int32 × Hp, C t → Bg L xs 169 27 [(0, .ref 37), (1, .int t.1)] [] LY88 t.2 R) (n : Nat) (s : Int32 × Hp) (o : (Int32 × Hp)) (e : loopN n (fun s => Jm_remember_L3 s.1 s.2) s = some o) (hC : C o) : Bg L xs 169 3 [(0, .ref 37), (1, .int s.1)] [] LY88 s.2 R := by
  refine loop_B (fun s => Jm_remember_L3 s.1 s.2) (fun s : Int32 × Hp => Bg L xs 169 3 [(0, .ref 37), (1, .int s.1)] [] LY88 s.2 R) C (fun s o e => ?_) n s o e hC
  intro hK
  refine BJm_remember_L3_s L xs R s.1 s.2 o (fun s q => by subst q; exact hK) (fun t q => by subst q; exact hE t hK) e
set_option maxRecDepth 100000 in
theorem BJm_remember (L : Nat) (xs : Nat → Int32) (h : Hp) (o : Hp) (e : Jm_remember h = some o) : Bg L xs 169 0 [(0, .ref 37)] [] LY88 h ([], LY88, o) := by
  obtain ⟨R, hR⟩ : ∃ R : List Value × Lay × Hp, R = ([], LY88, o) := ⟨_, rfl⟩
  rw [← hR]
  refine seg_Bg (pc' := 3) (lv' := [(0, .ref 37), (1, .int 16)]) (st' := []) (lay' := LY88) (h' := h) 2 rfl ?_
  obtain ⟨t2o, et2o, e⟩ := bd_s e
  refine BJm_remember_L3 L xs R (fun (t2 : Int32 × Hp) => (if (t2.2 37 1) < 16 then lt (hset t2.2 37 1 ((t2.2 37 1) + (1 : Int32))) fun h3 => lt (hset h3 37 23 0) fun h4 => some h4 else lt (hset t2.2 37 1 16) fun h5 => lt (hset h5 37 23 0) fun h6 => some h6) = some o) (fun t2 e => ?_) 1000000 (16, h) _ et2o e
  refine seg_Bg (pc' := (if (t2.2 37 1) < 16 then 37 else 46)) (lv' := [(0, .ref 37), (1, .int t2.1)]) (st' := [.ref 37]) (lay' := LY88) (h' := t2.2) 5 rfl ?_
  refine pc_ite e (fun e => ?_) (fun e => ?_)
  · refine seg_Bg (pc' := 48) (lv' := [(0, .ref 37), (1, .int t2.1)]) (st' := [.int ((t2.2 37 1) + (1 : Int32)), .ref 37]) (lay' := LY88) (h' := t2.2) 5 rfl ?_
    refine put_Bg (pc' := 51) (lv' := [(0, .ref 37), (1, .int t2.1)]) (st' := []) (lay' := LY88) (x := hset t2.2 37 1 ((t2.2 37 1) + (1 : Int32))) rfl e fun h3 e => ?_
    refine seg_Bg (pc' := 53) (lv' := [(0, .ref 37), (1, .int t2.1)]) (st' := [.int 0, .ref 37]) (lay' := LY88) (h' := h3) 2 rfl ?_
    refine put_Bg (pc' := 56) (lv' := [(0, .ref 37), (1, .int t2.1)]) (st' := []) (lay' := LY88) (x := hset h3 37 23 0) rfl e fun h4 e => ?_
    rw [hR, ← Option.some.inj e]; exact ret_Bg rfl
  · refine seg_Bg (pc' := 48) (lv' := [(0, .ref 37), (1, .int t2.1)]) (st' := [.int 16, .ref 37]) (lay' := LY88) (h' := t2.2) 1 rfl ?_
    refine put_Bg (pc' := 51) (lv' := [(0, .ref 37), (1, .int t2.1)]) (st' := []) (lay' := LY88) (x := hset t2.2 37 1 16) rfl e fun h5 e => ?_
    refine seg_Bg (pc' := 53) (lv' := [(0, .ref 37), (1, .int t2.1)]) (st' := [.int 0, .ref 37]) (lay' := LY88) (h' := h5) 2 rfl ?_
    refine put_Bg (pc' := 56) (lv' := [(0, .ref 37), (1, .int t2.1)]) (st' := []) (lay' := LY88) (x := hset h5 37 23 0) rfl e fun h6 e => ?_
    rw [hR, ← Option.some.inj e]; exact ret_Bg rfl

set_option maxRecDepth 100000 in
theorem BJm_add (L : Nat) (xs : Nat → Int32) (v1 : Int32) (h : Hp) (o : Int32 × Hp) (e : Jm_add v1 h = some o) : Bg L xs 217 0 [(0, .ref 37), (1, .int v1)] [] LY88 h ([.int o.1], LY88, o.2) := by
  obtain ⟨R, hR⟩ : ∃ R : List Value × Lay × Hp, R = ([.int o.1], LY88, o.2) := ⟨_, rfl⟩
  rw [← hR]
  refine seg_Bg (pc' := 1) (lv' := [(0, .ref 37), (1, .int v1)]) (st' := [.ref 37]) (lay' := LY88) (h' := h) 1 rfl ?_
  refine call_Bg (a := 169) (la := [(0, .ref 37)]) (np := 4) (lv' := [(0, .ref 37), (1, .int v1)]) (rest := []) (res := fun r => ([], LY88, r)) rfl e (fun r e => BJm_remember L xs h r e) (fun c1 e => ?_)
  show Bg L xs 217 4 [(0, .ref 37), (1, .int v1)] [] LY88 c1 R
  refine seg_Bg (pc' := 13) (lv' := [(0, .ref 37), (1, .int v1)]) (st' := [.int ((c1 38 0) + (1 : Int32)), .int 0, .ref 38]) (lay' := LY88) (h' := c1) 7 rfl ?_
  refine put_Bg (pc' := 14) (lv' := [(0, .ref 37), (1, .int v1)]) (st' := []) (lay' := LY88) (x := hset c1 38 0 ((c1 38 0) + (1 : Int32))) rfl e fun h2 e => ?_
  refine seg_Bg (pc' := 25) (lv' := [(0, .ref 37), (1, .int v1)]) (st' := [.int v1, .int (h2 38 0), .ref 38]) (lay' := LY88) (h' := h2) 7 rfl ?_
  refine gp_Bg (pc' := 26) (lv' := [(0, .ref 37), (1, .int v1)]) (st' := []) (lay' := LY88) (x := hset h2 38 (Int32.toNatClampNeg (h2 38 0)) v1) (g := ibB (h2 38 0) 152) rfl e fun h3 e => ?_
  refine seg_Bg (pc' := 34) (lv' := [(0, .ref 37), (1, .int v1)]) (st' := [.int ((h3 38 0) - (1 : Int32))]) (lay' := LY88) (h' := h3) 6 rfl ?_
  rw [hR, ← Option.some.inj e]; exact ret_Bg rfl

set_option maxRecDepth 100000 in
theorem BJm_tell_J31 (L : Nat) (xs : Nat → Int32) (v1 s0 : Int32) (h : Hp) (o : (Int32 × Hp)) (e : Jm_tell_J31 v1 s0 h = some o) (R : List Value × Lay × Hp) (hR : R = ([.int o.1], LY88, o.2)) : Bg L xs 218 31 [(0, .ref 37), (1, .int v1)] [.int s0] LY88 h R := by
  refine seg_Bg (pc' := 34) (lv' := [(0, .ref 37), (1, .int v1), (2, .int s0)]) (st' := [.int 0, .ref 37]) (lay' := LY88) (h' := h) 3 rfl ?_
  refine put_Bg (pc' := 37) (lv' := [(0, .ref 37), (1, .int v1), (2, .int s0)]) (st' := []) (lay' := LY88) (x := hset h 37 6 0) rfl e fun h3 e => ?_
  refine seg_Bg (pc' := (if 0 < v1 then 41 else 48)) (lv' := [(0, .ref 37), (1, .int v1), (2, .int s0)]) (st' := []) (lay' := LY88) (h' := h3) 2 rfl ?_
  refine pc_ite e (fun e => ?_) (fun e => ?_)
  · refine seg_Bg (pc' := 53) (lv' := [(0, .ref 37), (1, .int v1), (2, .int s0)]) (st' := [.int ((-10 : Int32) - v1)]) (lay' := LY88) (h' := h3) 4 rfl ?_
    rw [hR, ← Option.some.inj e]; exact ret_Bg rfl
  · refine seg_Bg (pc' := 50) (lv' := [(0, .ref 37), (1, .int v1), (2, .int s0)]) (st' := [.int s0, .ref 37]) (lay' := LY88) (h' := h3) 2 rfl ?_
    refine call_Bg (a := 217) (la := [(0, .ref 37), (1, .int s0)]) (np := 53) (lv' := [(0, .ref 37), (1, .int v1), (2, .int s0)]) (rest := []) (res := fun r => ([.int r.1], LY88, r.2)) rfl e (fun r e => BJm_add L xs s0 h3 r e) (fun c4 e => ?_)
    show Bg L xs 218 53 [(0, .ref 37), (1, .int v1), (2, .int s0)] [.int c4.1] LY88 c4.2 R
    rw [hR, ← Option.some.inj e]; exact ret_Bg rfl
set_option maxRecDepth 100000 in
theorem BJm_tell (L : Nat) (xs : Nat → Int32) (h : Hp) (o : Int32 × Hp) (e : Jm_tell h = some o) : Bg L xs 218 0 [(0, .ref 37)] [] LY88 h ([.int o.1], LY88, o.2) := by
  obtain ⟨R, hR⟩ : ∃ R : List Value × Lay × Hp, R = ([.int o.1], LY88, o.2) := ⟨_, rfl⟩
  rw [← hR]
  refine seg_Bg (pc' := (if (h 38 0) = 6 then 11 else 14)) (lv' := [(0, .ref 37)]) (st' := []) (lay' := LY88) (h' := h) 6 rfl ?_
  refine pc_ite e (fun e => ?_) (fun e => ?_)
  · refine seg_Bg (pc' := 13) (lv' := [(0, .ref 37)]) (st' := [.int (-1000000004)]) (lay' := LY88) (h' := h) 1 rfl ?_
    rw [hR, ← Option.some.inj e]; exact ret_Bg rfl
  · refine seg_Bg (pc' := 15) (lv' := [(0, .ref 37)]) (st' := [.ref 37]) (lay' := LY88) (h' := h) 1 rfl ?_
    refine call_Bg (a := 211) (la := [(0, .ref 37)]) (np := 18) (lv' := [(0, .ref 37)]) (rest := []) (res := fun r => ([.int r.1], LY88, r.2)) rfl e (fun r e => BJm_faultOf L xs h r e) (fun c1 e => ?_)
    show Bg L xs 218 18 [(0, .ref 37)] [.int c1.1] LY88 c1.2 R
    refine seg_Bg (pc' := (if c1.1 = 0 then 23 else 30)) (lv' := [(0, .ref 37), (1, .int c1.1)]) (st' := []) (lay' := LY88) (h' := c1.2) 3 rfl ?_
    refine pc_ite e (fun e => ?_) (fun e => ?_)
    · refine seg_Bg (pc' := 24) (lv' := [(0, .ref 37), (1, .int c1.1)]) (st' := [.ref 37]) (lay' := LY88) (h' := c1.2) 1 rfl ?_
      refine call_Bg (a := 215) (la := [(0, .ref 37)]) (np := 27) (lv' := [(0, .ref 37), (1, .int c1.1)]) (rest := []) (res := fun r => ([.int r.1], LY88, r.2)) rfl e (fun r e => BJm_worth L xs c1.2 r e) (fun c2 e => ?_)
      show Bg L xs 218 27 [(0, .ref 37), (1, .int c1.1)] [.int c2.1] LY88 c2.2 R
      refine seg_Bg (pc' := 31) (lv' := [(0, .ref 37), (1, .int c1.1)]) (st' := [.int c2.1]) (lay' := LY88) (h' := c2.2) 1 rfl ?_
      exact BJm_tell_J31 L xs c1.1 c2.1 c2.2 o e R hR
    · refine seg_Bg (pc' := 31) (lv' := [(0, .ref 37), (1, .int c1.1)]) (st' := [.int 0]) (lay' := LY88) (h' := c1.2) 1 rfl ?_
      exact BJm_tell_J31 L xs c1.1 0 c1.2 o e R hR

set_option maxRecDepth 100000 in
theorem BJyn_fault (L : Nat) (xs : Nat → Int32) (h : Hp) (o : Int32) (e : Jyn_fault h = some o) : Bg L xs 133 0 [(0, .ref 0)] [] LY88 h ([.int o], LY88, h) := by
  obtain ⟨R, hR⟩ : ∃ R : List Value × Lay × Hp, R = ([.int o], LY88, h) := ⟨_, rfl⟩
  rw [← hR]
  refine seg_Bg (pc' := 4) (lv' := [(0, .ref 0)]) (st' := [.int (h 0 9)]) (lay' := LY88) (h' := h) 2 rfl ?_
  rw [hR, ← Option.some.inj e]; exact ret_Bg rfl

set_option maxRecDepth 100000 in
theorem BJm_fault (L : Nat) (xs : Nat → Int32) (h : Hp) (o : Int32) (e : Jm_fault h = some o) : Bg L xs 219 0 [(0, .ref 37)] [] LY88 h ([.int o], LY88, h) := by
  obtain ⟨R, hR⟩ : ∃ R : List Value × Lay × Hp, R = ([.int o], LY88, h) := ⟨_, rfl⟩
  rw [← hR]
  refine seg_Bg (pc' := 4) (lv' := [(0, .ref 37)]) (st' := [.int (h 37 7)]) (lay' := LY88) (h' := h) 2 rfl ?_
  rw [hR, ← Option.some.inj e]; exact ret_Bg rfl

set_option maxRecDepth 100000 in
theorem BJpl_traitsOf (L : Nat) (xs : Nat → Int32) (v1 : Int32) (h : Hp) (o : Int32) (e : Jpl_traitsOf v1 h = some o) : Bg L xs 65 0 [(0, .ref 4), (1, .int v1)] [] LY88 h ([.int o], LY88, h) := by
  obtain ⟨R, hR⟩ : ∃ R : List Value × Lay × Hp, R = ([.int o], LY88, h) := ⟨_, rfl⟩
  rw [← hR]
  refine seg_Bg (pc' := 9) (lv' := [(0, .ref 4), (1, .int v1)]) (st' := [.int (v1 &&& (255 : Int32)), .ref 5]) (lay' := LY88) (h' := h) 5 rfl ?_
  refine gd_Bg (pc' := 10) (lv' := [(0, .ref 4), (1, .int v1)]) (st' := [.int (h 5 (Int32.toNatClampNeg (v1 &&& (255 : Int32))))]) (lay' := LY88) (h' := h) (g := ibB (v1 &&& (255 : Int32)) 256) rfl e fun e => ?_
  rw [hR, ← Option.some.inj e]; exact ret_Bg rfl

set_option maxRecDepth 100000 in
theorem BJyn_commonOf_L6_s (L : Nat) (xs : Nat → Int32) (v1 : Int32) (h : Hp) (R : List Value × Lay × Hp) (v2 v3 : Int32) (o : ((Int32 × Int32) ⊕ (Int32 × Int32))) (hH : ∀ s : Int32 × Int32, o = .inl s → Bg L xs 161 6 [(0, .ref 0), (1, .int v1), (2, .int s.1), (3, .int s.2)] [] LY88 h R) (hE : ∀ t : Int32 × Int32, o = .inr t → Bg L xs 161 49 [(0, .ref 0), (1, .int v1), (2, .int t.1), (3, .int t.2)] [] LY88 h R) (e : Jyn_commonOf_L6 v1 h v2 v3 = some o) : Bg L xs 161 6 [(0, .ref 0), (1, .int v1), (2, .int v2), (3, .int v3)] [] LY88 h R := by
  refine seg_Bg (pc' := 11) (lv' := [(0, .ref 0), (1, .int v1), (2, .int v2), (3, .int v3)]) (st' := [.ref 29, .int v3]) (lay' := LY88) (h' := h) 3 rfl ?_
  refine call_Bg (a := 92) (la := [(0, .ref 29)]) (np := 14) (lv' := [(0, .ref 0), (1, .int v1), (2, .int v2), (3, .int v3)]) (rest := [.int v3]) (res := fun r => ([.int r], LY88, h)) rfl e (fun r e => BJsh_size L xs h r e) (fun c1 e => ?_)
  show Bg L xs 161 14 [(0, .ref 0), (1, .int v1), (2, .int v2), (3, .int v3)] [.int c1, .int v3] LY88 h R
  refine seg_Bg (pc' := (if v3 < c1 then 17 else 49)) (lv' := [(0, .ref 0), (1, .int v1), (2, .int v2), (3, .int v3)]) (st' := []) (lay' := LY88) (h' := h) 1 rfl ?_
  refine pc_ite e (fun e => ?_) (fun e => ?_)
  · refine seg_Bg (pc' := (if ((v1 >>> (v3 &&& 31) : Int32) &&& (1 : Int32)) = 0 then 43 else 25)) (lv' := [(0, .ref 0), (1, .int v1), (2, .int v2), (3, .int v3)]) (st' := []) (lay' := LY88) (h' := h) 6 rfl ?_
    refine pc_ite e (fun e => ?_) (fun e => ?_)
    · refine seg_Bg (pc' := 6) (lv' := [(0, .ref 0), (1, .int v1), (2, .int v2), (3, .int (v3 + 1))]) (st' := []) (lay' := LY88) (h' := h) 2 rfl ?_
      exact hH (v2, v3 + 1) (Option.some.inj e).symm
    · refine seg_Bg (pc' := 35) (lv' := [(0, .ref 0), (1, .int v1), (2, .int v2), (3, .int v3)]) (st' := [.int v3, .ref 29, .ref 4, .int v2]) (lay' := LY88) (h' := h) 6 rfl ?_
      refine call_Bg (a := 95) (la := [(0, .ref 29), (1, .int v3)]) (np := 38) (lv' := [(0, .ref 0), (1, .int v1), (2, .int v2), (3, .int v3)]) (rest := [.ref 4, .int v2]) (res := fun r => ([.int r], LY88, h)) rfl e (fun r e => BJsh_codeAt L xs v3 h r e) (fun c2 e => ?_)
      show Bg L xs 161 38 [(0, .ref 0), (1, .int v1), (2, .int v2), (3, .int v3)] [.int c2, .ref 4, .int v2] LY88 h R
      refine call_Bg (a := 65) (la := [(0, .ref 4), (1, .int c2)]) (np := 41) (lv' := [(0, .ref 0), (1, .int v1), (2, .int v2), (3, .int v3)]) (rest := [.int v2]) (res := fun r => ([.int r], LY88, h)) rfl e (fun r e => BJpl_traitsOf L xs c2 h r e) (fun c3 e => ?_)
      show Bg L xs 161 41 [(0, .ref 0), (1, .int v1), (2, .int v2), (3, .int v3)] [.int c3, .int v2] LY88 h R
      refine seg_Bg (pc' := 6) (lv' := [(0, .ref 0), (1, .int v1), (2, .int (v2 &&& c3)), (3, .int (v3 + 1))]) (st' := []) (lay' := LY88) (h' := h) 4 rfl ?_
      exact hH (v2 &&& c3, v3 + 1) (Option.some.inj e).symm
  · exact hE (v2, v3) (Option.some.inj e).symm
theorem BJyn_commonOf_L6 (L : Nat) (xs : Nat → Int32) (v1 : Int32) (h : Hp) (R : List Value × Lay × Hp) (C : (Int32 × Int32) → Prop) (hE : ∀ t : Int32 × Int32, C t → Bg L xs 161 49 [(0, .ref 0), (1, .int v1), (2, .int t.1), (3, .int t.2)] [] LY88 h R) (n : Nat) (s : Int32 × Int32) (o : (Int32 × Int32)) (e : loopN n (fun s => Jyn_commonOf_L6 v1 h s.1 s.2) s = some o) (hC : C o) : Bg L xs 161 6 [(0, .ref 0), (1, .int v1), (2, .int s.1), (3, .int s.2)] [] LY88 h R := by
  refine loop_B (fun s => Jyn_commonOf_L6 v1 h s.1 s.2) (fun s : Int32 × Int32 => Bg L xs 161 6 [(0, .ref 0), (1, .int v1), (2, .int s.1), (3, .int s.2)] [] LY88 h R) C (fun s o e => ?_) n s o e hC
  intro hK
  refine BJyn_commonOf_L6_s L xs v1 h R s.1 s.2 o (fun s q => by subst q; exact hK) (fun t q => by subst q; exact hE t hK) e
set_option maxRecDepth 100000 in
theorem BJyn_commonOf (L : Nat) (xs : Nat → Int32) (v1 : Int32) (h : Hp) (o : Int32) (e : Jyn_commonOf v1 h = some o) : Bg L xs 161 0 [(0, .ref 0), (1, .int v1)] [] LY88 h ([.int o], LY88, h) := by
  obtain ⟨R, hR⟩ : ∃ R : List Value × Lay × Hp, R = ([.int o], LY88, h) := ⟨_, rfl⟩
  rw [← hR]
  refine seg_Bg (pc' := 6) (lv' := [(0, .ref 0), (1, .int v1), (2, .int 4095), (3, .int 0)]) (st' := []) (lay' := LY88) (h' := h) 4 rfl ?_
  obtain ⟨t4o, et4o, e⟩ := bd_s e
  refine BJyn_commonOf_L6 L xs v1 h R (fun (t4 : Int32 × Int32) => (some t4.1) = some o) (fun t4 e => ?_) 1000000 (4095, 0) _ et4o e
  refine seg_Bg (pc' := 50) (lv' := [(0, .ref 0), (1, .int v1), (2, .int t4.1), (3, .int t4.2)]) (st' := [.int t4.1]) (lay' := LY88) (h' := h) 1 rfl ?_
  rw [hR, ← Option.some.inj e]; exact ret_Bg rfl

set_option maxRecDepth 100000 in
theorem BJyn_common (L : Nat) (xs : Nat → Int32) (h : Hp) (o : Int32) (e : Jyn_common h = some o) : Bg L xs 160 0 [(0, .ref 0)] [] LY88 h ([.int o], LY88, h) := by
  obtain ⟨R, hR⟩ : ∃ R : List Value × Lay × Hp, R = ([.int o], LY88, h) := ⟨_, rfl⟩
  rw [← hR]
  refine seg_Bg (pc' := 5) (lv' := [(0, .ref 0)]) (st' := [.ref 29, .ref 0]) (lay' := LY88) (h' := h) 3 rfl ?_
  refine call_Bg (a := 96) (la := [(0, .ref 29)]) (np := 8) (lv' := [(0, .ref 0)]) (rest := [.ref 0]) (res := fun r => ([.int r], LY88, h)) rfl e (fun r e => BJsh_chosenSet L xs h r e) (fun c1 e => ?_)
  show Bg L xs 160 8 [(0, .ref 0)] [.int c1, .ref 0] LY88 h R
  refine call_Bg (a := 161) (la := [(0, .ref 0), (1, .int c1)]) (np := 11) (lv' := [(0, .ref 0)]) (rest := []) (res := fun r => ([.int r], LY88, h)) rfl e (fun r e => BJyn_commonOf L xs c1 h r e) (fun c2 e => ?_)
  show Bg L xs 160 11 [(0, .ref 0)] [.int c2] LY88 h R
  rw [hR, ← Option.some.inj e]; exact ret_Bg rfl

set_option maxRecDepth 100000 in
theorem BJpl_numberOf (L : Nat) (xs : Nat → Int32) (v1 : Int32) (h : Hp) (o : Int32) (e : Jpl_numberOf v1 h = some o) : Bg L xs 67 0 [(0, .ref 4), (1, .int v1)] [] LY88 h ([.int o], LY88, h) := by
  obtain ⟨R, hR⟩ : ∃ R : List Value × Lay × Hp, R = ([.int o], LY88, h) := ⟨_, rfl⟩
  rw [← hR]
  refine seg_Bg (pc' := 9) (lv' := [(0, .ref 4), (1, .int v1)]) (st' := [.int (v1 &&& (4095 : Int32)), .ref 7]) (lay' := LY88) (h' := h) 5 rfl ?_
  refine gd_Bg (pc' := 10) (lv' := [(0, .ref 4), (1, .int v1)]) (st' := [.int (h 7 (Int32.toNatClampNeg (v1 &&& (4095 : Int32))))]) (lay' := LY88) (h' := h) (g := ibB (v1 &&& (4095 : Int32)) 4096) rfl e fun e => ?_
  rw [hR, ← Option.some.inj e]; exact ret_Bg rfl

set_option maxRecDepth 100000 in
theorem BJwy_costs (L : Nat) (xs : Nat → Int32) (h : Hp) (o : Unit) (e : Jwy_costs h = some o) : Bg L xs 115 0 [(0, .ref 9)] [] LY88 h ([.ref 10], LY88, h) := by
  obtain ⟨R, hR⟩ : ∃ R : List Value × Lay × Hp, R = ([.ref 10], LY88, h) := ⟨_, rfl⟩
  rw [← hR]
  refine seg_Bg (pc' := 4) (lv' := [(0, .ref 9)]) (st' := [.ref 10]) (lay' := LY88) (h' := h) 2 rfl ?_
  rw [hR]; exact ret_Bg rfl

set_option maxRecDepth 100000 in
theorem BJsh_isChosen (L : Nat) (xs : Nat → Int32) (v1 : Int32) (h : Hp) (o : Int32) (e : Jsh_isChosen v1 h = some o) : Bg L xs 97 0 [(0, .ref 29), (1, .int v1)] [] LY88 h ([.int o], LY88, h) := by
  obtain ⟨R, hR⟩ : ∃ R : List Value × Lay × Hp, R = ([.int o], LY88, h) := ⟨_, rfl⟩
  rw [← hR]
  refine seg_Bg (pc' := 2) (lv' := [(0, .ref 29), (1, .int v1)]) (st' := [.int v1, .ref 29]) (lay' := LY88) (h' := h) 2 rfl ?_
  refine call_Bg (a := 94) (la := [(0, .ref 29), (1, .int v1)]) (np := 5) (lv' := [(0, .ref 29), (1, .int v1)]) (rest := []) (res := fun r => ([.int r], LY88, h)) rfl e (fun r e => BJsh_holds L xs v1 h r e) (fun c1 e => ?_)
  show Bg L xs 97 5 [(0, .ref 29), (1, .int v1)] [.int c1] LY88 h R
  refine seg_Bg (pc' := (if c1 = 0 then 23 else 8)) (lv' := [(0, .ref 29), (1, .int v1)]) (st' := []) (lay' := LY88) (h' := h) 1 rfl ?_
  refine pc_ite e (fun e => ?_) (fun e => ?_)
  · refine seg_Bg (pc' := 24) (lv' := [(0, .ref 29), (1, .int v1)]) (st' := [.int 0]) (lay' := LY88) (h' := h) 1 rfl ?_
    rw [hR, ← Option.some.inj e]; exact ret_Bg rfl
  · refine seg_Bg (pc' := (if (((h 29 2) >>> (v1 &&& 31) : Int32) &&& (1 : Int32)) = 0 then 23 else 19)) (lv' := [(0, .ref 29), (1, .int v1)]) (st' := []) (lay' := LY88) (h' := h) 7 rfl ?_
    refine pc_ite e (fun e => ?_) (fun e => ?_)
    · refine seg_Bg (pc' := 24) (lv' := [(0, .ref 29), (1, .int v1)]) (st' := [.int 0]) (lay' := LY88) (h' := h) 1 rfl ?_
      rw [hR, ← Option.some.inj e]; exact ret_Bg rfl
    · refine seg_Bg (pc' := 24) (lv' := [(0, .ref 29), (1, .int v1)]) (st' := [.int 1]) (lay' := LY88) (h' := h) 2 rfl ?_
      rw [hR, ← Option.some.inj e]; exact ret_Bg rfl

set_option maxRecDepth 100000 in
theorem BJcs_areOf_L15_s (L : Nat) (xs : Nat → Int32) (h : Hp) (R : List Value × Lay × Hp) (v2 : Int32) (o : ((Int32) ⊕ ((Int32) ⊕ (Int32)))) (hH : ∀ s : Int32, o = .inl s → Bg L xs 16 15 [(0, .ref 10), (1, .ref 29), (2, .int s)] [] LY88 h R) (hE : ∀ t : Int32, o = .inr (.inl t) → Bg L xs 16 51 [(0, .ref 10), (1, .ref 29), (2, .int t)] [] LY88 h R) (hR : ∀ r : Int32, o = .inr (.inr r) → R = ([.int r], LY88, h)) (e : Jcs_areOf_L15 h v2 = some o) : Bg L xs 16 15 [(0, .ref 10), (1, .ref 29), (2, .int v2)] [] LY88 h R := by
  refine seg_Bg (pc' := (if v2 < 6 then 21 else 51)) (lv' := [(0, .ref 10), (1, .ref 29), (2, .int v2)]) (st' := []) (lay' := LY88) (h' := h) 3 rfl ?_
  refine pc_ite e (fun e => ?_) (fun e => ?_)
  · refine seg_Bg (pc' := 23) (lv' := [(0, .ref 10), (1, .ref 29), (2, .int v2)]) (st' := [.int v2, .ref 29]) (lay' := LY88) (h' := h) 2 rfl ?_
    refine call_Bg (a := 97) (la := [(0, .ref 29), (1, .int v2)]) (np := 26) (lv' := [(0, .ref 10), (1, .ref 29), (2, .int v2)]) (rest := []) (res := fun r => ([.int r], LY88, h)) rfl e (fun r e => BJsh_isChosen L xs v2 h r e) (fun c2 e => ?_)
    show Bg L xs 16 26 [(0, .ref 10), (1, .ref 29), (2, .int v2)] [.int c2] LY88 h R
    refine seg_Bg (pc' := (if c2 = 0 then 45 else 29)) (lv' := [(0, .ref 10), (1, .ref 29), (2, .int v2)]) (st' := []) (lay' := LY88) (h' := h) 1 rfl ?_
    refine pc_ite e (fun e => ?_) (fun e => ?_)
    · refine seg_Bg (pc' := 15) (lv' := [(0, .ref 10), (1, .ref 29), (2, .int (v2 + 1))]) (st' := []) (lay' := LY88) (h' := h) 2 rfl ?_
      exact hH (v2 + 1) (Option.some.inj e).symm
    · refine seg_Bg (pc' := 31) (lv' := [(0, .ref 10), (1, .ref 29), (2, .int v2)]) (st' := [.int v2, .ref 29]) (lay' := LY88) (h' := h) 2 rfl ?_
      refine call_Bg (a := 95) (la := [(0, .ref 29), (1, .int v2)]) (np := 34) (lv' := [(0, .ref 10), (1, .ref 29), (2, .int v2)]) (rest := []) (res := fun r => ([.int r], LY88, h)) rfl e (fun r e => BJsh_codeAt L xs v2 h r e) (fun c3 e => ?_)
      show Bg L xs 16 34 [(0, .ref 10), (1, .ref 29), (2, .int v2)] [.int c3] LY88 h R
      refine seg_Bg (pc' := 39) (lv' := [(0, .ref 10), (1, .ref 29), (2, .int v2)]) (st' := [.int v2, .ref 17, .int c3]) (lay' := LY88) (h' := h) 3 rfl ?_
      refine gd_Bg (pc' := 40) (lv' := [(0, .ref 10), (1, .ref 29), (2, .int v2)]) (st' := [.int (h 17 (Int32.toNatClampNeg v2)), .int c3]) (lay' := LY88) (h' := h) (g := ibB v2 6) rfl e fun e => ?_
      refine seg_Bg (pc' := (if c3 = (h 17 (Int32.toNatClampNeg v2)) then 45 else 43)) (lv' := [(0, .ref 10), (1, .ref 29), (2, .int v2)]) (st' := []) (lay' := LY88) (h' := h) 1 rfl ?_
      refine pc_ite e (fun e => ?_) (fun e => ?_)
      · refine seg_Bg (pc' := 15) (lv' := [(0, .ref 10), (1, .ref 29), (2, .int (v2 + 1))]) (st' := []) (lay' := LY88) (h' := h) 2 rfl ?_
        exact hH (v2 + 1) (Option.some.inj e).symm
      · refine seg_Bg (pc' := 44) (lv' := [(0, .ref 10), (1, .ref 29), (2, .int v2)]) (st' := [.int 0]) (lay' := LY88) (h' := h) 1 rfl ?_
        rw [hR 0 (Option.some.inj e).symm]; exact ret_Bg rfl
  · exact hE v2 (Option.some.inj e).symm
theorem BJcs_areOf_L15 (L : Nat) (xs : Nat → Int32) (h : Hp) (R : List Value × Lay × Hp) (C : ((Int32) ⊕ (Int32)) → Prop) (hE : ∀ t : Int32, C (.inl t) → Bg L xs 16 51 [(0, .ref 10), (1, .ref 29), (2, .int t)] [] LY88 h R) (hR : ∀ r : Int32, C (.inr r) → R = ([.int r], LY88, h)) (n : Nat) (s : Int32) (o : ((Int32) ⊕ (Int32))) (e : loopN n (fun s => Jcs_areOf_L15 h s) s = some o) (hC : C o) : Bg L xs 16 15 [(0, .ref 10), (1, .ref 29), (2, .int s)] [] LY88 h R := by
  refine loop_B (fun s => Jcs_areOf_L15 h s) (fun s : Int32 => Bg L xs 16 15 [(0, .ref 10), (1, .ref 29), (2, .int s)] [] LY88 h R) C (fun s o e => ?_) n s o e hC
  intro hK
  refine BJcs_areOf_L15_s L xs h R s o (fun s q => by subst q; exact hK) (fun t q => by subst q; exact hE t hK) (fun r q => by subst q; exact hR r hK) e
set_option maxRecDepth 100000 in
theorem BJcs_areOf (L : Nat) (xs : Nat → Int32) (h : Hp) (o : Int32) (e : Jcs_areOf h = some o) : Bg L xs 16 0 [(0, .ref 10), (1, .ref 29)] [] LY88 h ([.int o], LY88, h) := by
  obtain ⟨R, hR⟩ : ∃ R : List Value × Lay × Hp, R = ([.int o], LY88, h) := ⟨_, rfl⟩
  rw [← hR]
  refine seg_Bg (pc' := 1) (lv' := [(0, .ref 10), (1, .ref 29)]) (st' := [.ref 29]) (lay' := LY88) (h' := h) 1 rfl ?_
  refine call_Bg (a := 96) (la := [(0, .ref 29)]) (np := 4) (lv' := [(0, .ref 10), (1, .ref 29)]) (rest := []) (res := fun r => ([.int r], LY88, h)) rfl e (fun r e => BJsh_chosenSet L xs h r e) (fun c1 e => ?_)
  show Bg L xs 16 4 [(0, .ref 10), (1, .ref 29)] [.int c1] LY88 h R
  refine seg_Bg (pc' := (if c1 = (h 10 8) then 13 else 11)) (lv' := [(0, .ref 10), (1, .ref 29)]) (st' := []) (lay' := LY88) (h' := h) 3 rfl ?_
  refine pc_ite e (fun e => ?_) (fun e => ?_)
  · refine seg_Bg (pc' := 15) (lv' := [(0, .ref 10), (1, .ref 29), (2, .int 0)]) (st' := []) (lay' := LY88) (h' := h) 2 rfl ?_
    obtain ⟨t4o, et4o, e⟩ := bd_s e
    refine BJcs_areOf_L15 L xs h R (fun (t4x : (Int32) ⊕ (Int32)) => (sm t4x (fun t4 => some 1) (fun r4 => some r4)) = some o) (fun t4 e => ?_) (fun r4 e => ?_) 1000000 0 _ et4o e
    · refine seg_Bg (pc' := 52) (lv' := [(0, .ref 10), (1, .ref 29), (2, .int t4)]) (st' := [.int 1]) (lay' := LY88) (h' := h) 1 rfl ?_
      rw [hR, ← Option.some.inj e]; exact ret_Bg rfl
    · rw [hR]; exact congrArg (fun r => (([.int r], LY88, h) : List Value × Lay × Hp)) (Option.some.inj e).symm
  · refine seg_Bg (pc' := 12) (lv' := [(0, .ref 10), (1, .ref 29)]) (st' := [.int 0]) (lay' := LY88) (h' := h) 1 rfl ?_
    rw [hR, ← Option.some.inj e]; exact ret_Bg rfl

set_option maxRecDepth 100000 in
theorem BJcs_start_L10_s (L : Nat) (xs : Nat → Int32) (R : List Value × Lay × Hp) (v2 : Int32) (h : Hp) (o : ((Int32 × Hp) ⊕ (Int32 × Hp))) (hH : ∀ s : Int32 × Hp, o = .inl s → Bg L xs 18 10 [(0, .ref 10), (1, .ref 29), (2, .int s.1)] [] LY88 s.2 R) (hE : ∀ t : Int32 × Hp, o = .inr t → Bg L xs 18 33 [(0, .ref 10), (1, .ref 29), (2, .int t.1)] [] LY88 t.2 R) (e : Jcs_start_L10 v2 h = some o) : Bg L xs 18 10 [(0, .ref 10), (1, .ref 29), (2, .int v2)] [] LY88 h R := by
  refine seg_Bg (pc' := (if v2 < 6 then 16 else 33)) (lv' := [(0, .ref 10), (1, .ref 29), (2, .int v2)]) (st' := []) (lay' := LY88) (h' := h) 3 rfl ?_
  refine pc_ite e (fun e => ?_) (fun e => ?_)
  · refine seg_Bg (pc' := 23) (lv' := [(0, .ref 10), (1, .ref 29), (2, .int v2)]) (st' := [.int v2, .ref 29, .int v2, .ref 17]) (lay' := LY88) (h' := h) 5 rfl ?_
    refine call_Bg (a := 95) (la := [(0, .ref 29), (1, .int v2)]) (np := 26) (lv' := [(0, .ref 10), (1, .ref 29), (2, .int v2)]) (rest := [.int v2, .ref 17]) (res := fun r => ([.int r], LY88, h)) rfl e (fun r e => BJsh_codeAt L xs v2 h r e) (fun c3 e => ?_)
    show Bg L xs 18 26 [(0, .ref 10), (1, .ref 29), (2, .int v2)] [.int c3, .int v2, .ref 17] LY88 h R
    refine gp_Bg (pc' := 27) (lv' := [(0, .ref 10), (1, .ref 29), (2, .int v2)]) (st' := []) (lay' := LY88) (x := hset h 17 (Int32.toNatClampNeg v2) c3) (g := ibB v2 6) rfl e fun h4 e => ?_
    refine seg_Bg (pc' := 10) (lv' := [(0, .ref 10), (1, .ref 29), (2, .int (v2 + 1))]) (st' := []) (lay' := LY88) (h' := h4) 2 rfl ?_
    exact hH (v2 + 1, h4) (Option.some.inj e).symm
  · exact hE (v2, h) (Option.some.inj e).symm
theorem BJcs_start_L10 (L : Nat) (xs : Nat → Int32) (R : List Value × Lay × Hp) (C : (Int32 × Hp) → Prop) (hE : ∀ t : Int32 × Hp, C t → Bg L xs 18 33 [(0, .ref 10), (1, .ref 29), (2, .int t.1)] [] LY88 t.2 R) (n : Nat) (s : Int32 × Hp) (o : (Int32 × Hp)) (e : loopN n (fun s => Jcs_start_L10 s.1 s.2) s = some o) (hC : C o) : Bg L xs 18 10 [(0, .ref 10), (1, .ref 29), (2, .int s.1)] [] LY88 s.2 R := by
  refine loop_B (fun s => Jcs_start_L10 s.1 s.2) (fun s : Int32 × Hp => Bg L xs 18 10 [(0, .ref 10), (1, .ref 29), (2, .int s.1)] [] LY88 s.2 R) C (fun s o e => ?_) n s o e hC
  intro hK
  refine BJcs_start_L10_s L xs R s.1 s.2 o (fun s q => by subst q; exact hK) (fun t q => by subst q; exact hE t hK) e
set_option maxRecDepth 100000 in
theorem BJcs_start_L35_s (L : Nat) (xs : Nat → Int32) (R : List Value × Lay × Hp) (v2 : Int32) (h : Hp) (o : ((Int32 × Hp) ⊕ (Int32 × Hp))) (hH : ∀ s : Int32 × Hp, o = .inl s → Bg L xs 18 35 [(0, .ref 10), (1, .ref 29), (2, .int s.1)] [] LY88 s.2 R) (hE : ∀ t : Int32 × Hp, o = .inr t → Bg L xs 18 62 [(0, .ref 10), (1, .ref 29), (2, .int t.1)] [] LY88 t.2 R) (e : Jcs_start_L35 v2 h = some o) : Bg L xs 18 35 [(0, .ref 10), (1, .ref 29), (2, .int v2)] [] LY88 h R := by
  refine seg_Bg (pc' := (if v2 < 256 then 42 else 62)) (lv' := [(0, .ref 10), (1, .ref 29), (2, .int v2)]) (st' := []) (lay' := LY88) (h' := h) 3 rfl ?_
  refine pc_ite e (fun e => ?_) (fun e => ?_)
  · refine seg_Bg (pc' := 48) (lv' := [(0, .ref 10), (1, .ref 29), (2, .int v2)]) (st' := [.int (-1), .int v2, .ref 11]) (lay' := LY88) (h' := h) 4 rfl ?_
    refine gp_Bg (pc' := 49) (lv' := [(0, .ref 10), (1, .ref 29), (2, .int v2)]) (st' := []) (lay' := LY88) (x := hset h 11 (Int32.toNatClampNeg v2) (-1)) (g := ibB v2 256) rfl e fun h6 e => ?_
    refine seg_Bg (pc' := 55) (lv' := [(0, .ref 10), (1, .ref 29), (2, .int v2)]) (st' := [.int (-1), .int v2, .ref 12]) (lay' := LY88) (h' := h6) 4 rfl ?_
    refine gp_Bg (pc' := 56) (lv' := [(0, .ref 10), (1, .ref 29), (2, .int v2)]) (st' := []) (lay' := LY88) (x := hset h6 12 (Int32.toNatClampNeg v2) (-1)) (g := ibB v2 256) rfl e fun h7 e => ?_
    refine seg_Bg (pc' := 35) (lv' := [(0, .ref 10), (1, .ref 29), (2, .int (v2 + 1))]) (st' := []) (lay' := LY88) (h' := h7) 2 rfl ?_
    exact hH (v2 + 1, h7) (Option.some.inj e).symm
  · exact hE (v2, h) (Option.some.inj e).symm
theorem BJcs_start_L35 (L : Nat) (xs : Nat → Int32) (R : List Value × Lay × Hp) (C : (Int32 × Hp) → Prop) (hE : ∀ t : Int32 × Hp, C t → Bg L xs 18 62 [(0, .ref 10), (1, .ref 29), (2, .int t.1)] [] LY88 t.2 R) (n : Nat) (s : Int32 × Hp) (o : (Int32 × Hp)) (e : loopN n (fun s => Jcs_start_L35 s.1 s.2) s = some o) (hC : C o) : Bg L xs 18 35 [(0, .ref 10), (1, .ref 29), (2, .int s.1)] [] LY88 s.2 R := by
  refine loop_B (fun s => Jcs_start_L35 s.1 s.2) (fun s : Int32 × Hp => Bg L xs 18 35 [(0, .ref 10), (1, .ref 29), (2, .int s.1)] [] LY88 s.2 R) C (fun s o e => ?_) n s o e hC
  intro hK
  refine BJcs_start_L35_s L xs R s.1 s.2 o (fun s q => by subst q; exact hK) (fun t q => by subst q; exact hE t hK) e
set_option maxRecDepth 100000 in
theorem BJcs_start (L : Nat) (xs : Nat → Int32) (h : Hp) (o : Hp) (e : Jcs_start h = some o) : Bg L xs 18 0 [(0, .ref 10), (1, .ref 29)] [] LY88 h ([], LY88, o) := by
  obtain ⟨R, hR⟩ : ∃ R : List Value × Lay × Hp, R = ([], LY88, o) := ⟨_, rfl⟩
  rw [← hR]
  refine seg_Bg (pc' := 2) (lv' := [(0, .ref 10), (1, .ref 29)]) (st' := [.ref 29, .ref 10]) (lay' := LY88) (h' := h) 2 rfl ?_
  refine call_Bg (a := 96) (la := [(0, .ref 29)]) (np := 5) (lv' := [(0, .ref 10), (1, .ref 29)]) (rest := [.ref 10]) (res := fun r => ([.int r], LY88, h)) rfl e (fun r e => BJsh_chosenSet L xs h r e) (fun c1 e => ?_)
  show Bg L xs 18 5 [(0, .ref 10), (1, .ref 29)] [.int c1, .ref 10] LY88 h R
  refine put_Bg (pc' := 8) (lv' := [(0, .ref 10), (1, .ref 29)]) (st' := []) (lay' := LY88) (x := hset h 10 8 c1) rfl e fun h2 e => ?_
  refine seg_Bg (pc' := 10) (lv' := [(0, .ref 10), (1, .ref 29), (2, .int 0)]) (st' := []) (lay' := LY88) (h' := h2) 2 rfl ?_
  obtain ⟨t5o, et5o, e⟩ := bd_s e
  refine BJcs_start_L10 L xs R (fun (t5 : Int32 × Hp) => (bd (loopN 1000000 (fun s => Jcs_start_L35 s.1 s.2) (0, t5.2)) fun (t8 : Int32 × Hp) => lt (hset t8.2 11 240 0) fun h9 => lt (hset h9 11 204 0) fun h10 => lt (hset h10 11 170 0) fun h11 => lt (hset h11 10 9 0) fun h12 => lt (hset h12 10 12 0) fun h13 => lt (hset h13 10 13 0) fun h14 => some h14) = some o) (fun t5 e => ?_) 1000000 (0, h2) _ et5o e
  refine seg_Bg (pc' := 35) (lv' := [(0, .ref 10), (1, .ref 29), (2, .int 0)]) (st' := []) (lay' := LY88) (h' := t5.2) 2 rfl ?_
  obtain ⟨t8o, et8o, e⟩ := bd_s e
  refine BJcs_start_L35 L xs R (fun (t8 : Int32 × Hp) => (lt (hset t8.2 11 240 0) fun h9 => lt (hset h9 11 204 0) fun h10 => lt (hset h10 11 170 0) fun h11 => lt (hset h11 10 9 0) fun h12 => lt (hset h12 10 12 0) fun h13 => lt (hset h13 10 13 0) fun h14 => some h14) = some o) (fun t8 e => ?_) 1000000 (0, t5.2) _ et8o e
  refine seg_Bg (pc' := 70) (lv' := [(0, .ref 10), (1, .ref 29), (2, .int t8.1)]) (st' := [.int 0, .int 240, .ref 11]) (lay' := LY88) (h' := t8.2) 4 rfl ?_
  refine put_Bg (pc' := 71) (lv' := [(0, .ref 10), (1, .ref 29), (2, .int t8.1)]) (st' := []) (lay' := LY88) (x := hset t8.2 11 240 0) rfl e fun h9 e => ?_
  refine seg_Bg (pc' := 79) (lv' := [(0, .ref 10), (1, .ref 29), (2, .int t8.1)]) (st' := [.int 0, .int 204, .ref 11]) (lay' := LY88) (h' := h9) 4 rfl ?_
  refine put_Bg (pc' := 80) (lv' := [(0, .ref 10), (1, .ref 29), (2, .int t8.1)]) (st' := []) (lay' := LY88) (x := hset h9 11 204 0) rfl e fun h10 e => ?_
  refine seg_Bg (pc' := 88) (lv' := [(0, .ref 10), (1, .ref 29), (2, .int t8.1)]) (st' := [.int 0, .int 170, .ref 11]) (lay' := LY88) (h' := h10) 4 rfl ?_
  refine put_Bg (pc' := 89) (lv' := [(0, .ref 10), (1, .ref 29), (2, .int t8.1)]) (st' := []) (lay' := LY88) (x := hset h10 11 170 0) rfl e fun h11 e => ?_
  refine seg_Bg (pc' := 91) (lv' := [(0, .ref 10), (1, .ref 29), (2, .int t8.1)]) (st' := [.int 0, .ref 10]) (lay' := LY88) (h' := h11) 2 rfl ?_
  refine put_Bg (pc' := 94) (lv' := [(0, .ref 10), (1, .ref 29), (2, .int t8.1)]) (st' := []) (lay' := LY88) (x := hset h11 10 9 0) rfl e fun h12 e => ?_
  refine seg_Bg (pc' := 96) (lv' := [(0, .ref 10), (1, .ref 29), (2, .int t8.1)]) (st' := [.int 0, .ref 10]) (lay' := LY88) (h' := h12) 2 rfl ?_
  refine put_Bg (pc' := 99) (lv' := [(0, .ref 10), (1, .ref 29), (2, .int t8.1)]) (st' := []) (lay' := LY88) (x := hset h12 10 12 0) rfl e fun h13 e => ?_
  refine seg_Bg (pc' := 101) (lv' := [(0, .ref 10), (1, .ref 29), (2, .int t8.1)]) (st' := [.int 0, .ref 10]) (lay' := LY88) (h' := h13) 2 rfl ?_
  refine put_Bg (pc' := 104) (lv' := [(0, .ref 10), (1, .ref 29), (2, .int t8.1)]) (st' := []) (lay' := LY88) (x := hset h13 10 13 0) rfl e fun h14 e => ?_
  rw [hR, ← Option.some.inj e]; exact ret_Bg rfl

set_option maxRecDepth 100000 in
theorem BJpl_isIn (L : Nat) (xs : Nat → Int32) (v1 : Int32) (v2 : Int32) (h : Hp) (o : Int32) (e : Jpl_isIn v1 v2 h = some o) : Bg L xs 69 0 [(0, .ref 4), (1, .int v1), (2, .int v2)] [] LY88 h ([.int o], LY88, h) := by
  obtain ⟨R, hR⟩ : ∃ R : List Value × Lay × Hp, R = ([.int o], LY88, h) := ⟨_, rfl⟩
  rw [← hR]
  refine seg_Bg (pc' := 2) (lv' := [(0, .ref 4), (1, .int v1), (2, .int v2)]) (st' := [.int v1, .ref 4]) (lay' := LY88) (h' := h) 2 rfl ?_
  refine call_Bg (a := 65) (la := [(0, .ref 4), (1, .int v1)]) (np := 5) (lv' := [(0, .ref 4), (1, .int v1), (2, .int v2)]) (rest := []) (res := fun r => ([.int r], LY88, h)) rfl e (fun r e => BJpl_traitsOf L xs v1 h r e) (fun c1 e => ?_)
  show Bg L xs 69 5 [(0, .ref 4), (1, .int v1), (2, .int v2)] [.int c1] LY88 h R
  refine seg_Bg (pc' := (if (c1 &&& v2) = v2 then 11 else 15)) (lv' := [(0, .ref 4), (1, .int v1), (2, .int v2)]) (st' := []) (lay' := LY88) (h' := h) 4 rfl ?_
  refine pc_ite e (fun e => ?_) (fun e => ?_)
  · refine seg_Bg (pc' := 16) (lv' := [(0, .ref 4), (1, .int v1), (2, .int v2)]) (st' := [.int 1]) (lay' := LY88) (h' := h) 2 rfl ?_
    rw [hR, ← Option.some.inj e]; exact ret_Bg rfl
  · refine seg_Bg (pc' := 16) (lv' := [(0, .ref 4), (1, .int v1), (2, .int v2)]) (st' := [.int 0]) (lay' := LY88) (h' := h) 1 rfl ?_
    rw [hR, ← Option.some.inj e]; exact ret_Bg rfl

set_option maxRecDepth 100000 in
theorem BJcs_miss_L7_s (L : Nat) (xs : Nat → Int32) (v2 : Int32) (R : List Value × Lay × Hp) (v3 : Int32) (h : Hp) (o : ((Int32 × Hp) ⊕ (Int32 × Hp))) (hH : ∀ s : Int32 × Hp, o = .inl s → Bg L xs 19 7 [(0, .ref 10), (1, .ref 4), (2, .int v2), (3, .int s.1)] [] LY88 s.2 R) (hE : ∀ t : Int32 × Hp, o = .inr t → Bg L xs 19 59 [(0, .ref 10), (1, .ref 4), (2, .int v2), (3, .int t.1)] [] LY88 t.2 R) (e : Jcs_miss_L7 v2 v3 h = some o) : Bg L xs 19 7 [(0, .ref 10), (1, .ref 4), (2, .int v2), (3, .int v3)] [] LY88 h R := by
  refine seg_Bg (pc' := (if v3 < 256 then 14 else 59)) (lv' := [(0, .ref 10), (1, .ref 4), (2, .int v2), (3, .int v3)]) (st' := []) (lay' := LY88) (h' := h) 3 rfl ?_
  refine pc_ite e (fun e => ?_) (fun e => ?_)
  · refine seg_Bg (pc' := 19) (lv' := [(0, .ref 10), (1, .ref 4), (2, .int v2), (3, .int v3)]) (st' := [.int v3, .ref 11]) (lay' := LY88) (h' := h) 3 rfl ?_
    refine gd_Bg (pc' := 20) (lv' := [(0, .ref 10), (1, .ref 4), (2, .int v2), (3, .int v3)]) (st' := [.int (h 11 (Int32.toNatClampNeg v3))]) (lay' := LY88) (h' := h) (g := ibB v3 256) rfl e fun e => ?_
    refine seg_Bg (pc' := (if (h 11 (Int32.toNatClampNeg v3)) = (-1) then 24 else 53)) (lv' := [(0, .ref 10), (1, .ref 4), (2, .int v2), (3, .int v3)]) (st' := []) (lay' := LY88) (h' := h) 2 rfl ?_
    refine pc_ite e (fun e => ?_) (fun e => ?_)
    · refine seg_Bg (pc' := 27) (lv' := [(0, .ref 10), (1, .ref 4), (2, .int v2), (3, .int v3)]) (st' := [.int v2, .int v3, .ref 4]) (lay' := LY88) (h' := h) 3 rfl ?_
      refine call_Bg (a := 69) (la := [(0, .ref 4), (1, .int v3), (2, .int v2)]) (np := 30) (lv' := [(0, .ref 10), (1, .ref 4), (2, .int v2), (3, .int v3)]) (rest := []) (res := fun r => ([.int r], LY88, h)) rfl e (fun r e => BJpl_isIn L xs v3 v2 h r e) (fun c2 e => ?_)
      show Bg L xs 19 30 [(0, .ref 10), (1, .ref 4), (2, .int v2), (3, .int v3)] [.int c2] LY88 h R
      refine seg_Bg (pc' := (if c2 = 0 then 53 else 33)) (lv' := [(0, .ref 10), (1, .ref 4), (2, .int v2), (3, .int v3)]) (st' := []) (lay' := LY88) (h' := h) 1 rfl ?_
      refine pc_ite e (fun e => ?_) (fun e => ?_)
      · refine seg_Bg (pc' := 7) (lv' := [(0, .ref 10), (1, .ref 4), (2, .int v2), (3, .int (v3 + 1))]) (st' := []) (lay' := LY88) (h' := h) 2 rfl ?_
        exact hH (v3 + 1, h) (Option.some.inj e).symm
      · refine seg_Bg (pc' := 42) (lv' := [(0, .ref 10), (1, .ref 4), (2, .int v2), (3, .int v3)]) (st' := [.int v3, .int (h 10 10), .ref 15]) (lay' := LY88) (h' := h) 5 rfl ?_
        refine gp_Bg (pc' := 43) (lv' := [(0, .ref 10), (1, .ref 4), (2, .int v2), (3, .int v3)]) (st' := []) (lay' := LY88) (x := hset h 15 (Int32.toNatClampNeg (h 10 10)) v3) (g := ibB (h 10 10) 256) rfl e fun h3 e => ?_
        refine seg_Bg (pc' := 50) (lv' := [(0, .ref 10), (1, .ref 4), (2, .int v2), (3, .int v3)]) (st' := [.int ((h3 10 10) + (1 : Int32)), .ref 10]) (lay' := LY88) (h' := h3) 5 rfl ?_
        refine put_Bg (pc' := 53) (lv' := [(0, .ref 10), (1, .ref 4), (2, .int v2), (3, .int v3)]) (st' := []) (lay' := LY88) (x := hset h3 10 10 ((h3 10 10) + (1 : Int32))) rfl e fun h4 e => ?_
        refine seg_Bg (pc' := 7) (lv' := [(0, .ref 10), (1, .ref 4), (2, .int v2), (3, .int (v3 + 1))]) (st' := []) (lay' := LY88) (h' := h4) 2 rfl ?_
        exact hH (v3 + 1, h4) (Option.some.inj e).symm
    · refine seg_Bg (pc' := 7) (lv' := [(0, .ref 10), (1, .ref 4), (2, .int v2), (3, .int (v3 + 1))]) (st' := []) (lay' := LY88) (h' := h) 2 rfl ?_
      exact hH (v3 + 1, h) (Option.some.inj e).symm
  · exact hE (v3, h) (Option.some.inj e).symm
theorem BJcs_miss_L7 (L : Nat) (xs : Nat → Int32) (v2 : Int32) (R : List Value × Lay × Hp) (C : (Int32 × Hp) → Prop) (hE : ∀ t : Int32 × Hp, C t → Bg L xs 19 59 [(0, .ref 10), (1, .ref 4), (2, .int v2), (3, .int t.1)] [] LY88 t.2 R) (n : Nat) (s : Int32 × Hp) (o : (Int32 × Hp)) (e : loopN n (fun s => Jcs_miss_L7 v2 s.1 s.2) s = some o) (hC : C o) : Bg L xs 19 7 [(0, .ref 10), (1, .ref 4), (2, .int v2), (3, .int s.1)] [] LY88 s.2 R := by
  refine loop_B (fun s => Jcs_miss_L7 v2 s.1 s.2) (fun s : Int32 × Hp => Bg L xs 19 7 [(0, .ref 10), (1, .ref 4), (2, .int v2), (3, .int s.1)] [] LY88 s.2 R) C (fun s o e => ?_) n s o e hC
  intro hK
  refine BJcs_miss_L7_s L xs v2 R s.1 s.2 o (fun s q => by subst q; exact hK) (fun t q => by subst q; exact hE t hK) e
set_option maxRecDepth 100000 in
theorem BJcs_miss (L : Nat) (xs : Nat → Int32) (v2 : Int32) (h : Hp) (o : Hp) (e : Jcs_miss v2 h = some o) : Bg L xs 19 0 [(0, .ref 10), (1, .ref 4), (2, .int v2)] [] LY88 h ([], LY88, o) := by
  obtain ⟨R, hR⟩ : ∃ R : List Value × Lay × Hp, R = ([], LY88, o) := ⟨_, rfl⟩
  rw [← hR]
  refine seg_Bg (pc' := 2) (lv' := [(0, .ref 10), (1, .ref 4), (2, .int v2)]) (st' := [.int 0, .ref 10]) (lay' := LY88) (h' := h) 2 rfl ?_
  refine put_Bg (pc' := 5) (lv' := [(0, .ref 10), (1, .ref 4), (2, .int v2)]) (st' := []) (lay' := LY88) (x := hset h 10 10 0) rfl e fun h1 e => ?_
  refine seg_Bg (pc' := 7) (lv' := [(0, .ref 10), (1, .ref 4), (2, .int v2), (3, .int 0)]) (st' := []) (lay' := LY88) (h' := h1) 2 rfl ?_
  obtain ⟨t5o, et5o, e⟩ := bd_s e
  refine BJcs_miss_L7 L xs v2 R (fun (t5 : Int32 × Hp) => (some t5.2) = some o) (fun t5 e => ?_) 1000000 (0, h1) _ et5o e
  rw [hR, ← Option.some.inj e]; exact ret_Bg rfl

set_option maxRecDepth 100000 in
theorem BJcs_settle_L33_s (L : Nat) (xs : Nat → Int32) (R : List Value × Lay × Hp) (v1 : Int32) (h : Hp) (o : ((Int32 × Hp) ⊕ (Int32 × Hp))) (hH : ∀ s : Int32 × Hp, o = .inl s → Bg L xs 21 33 [(0, .ref 10), (1, .int s.1)] [] LY88 s.2 R) (hE : ∀ t : Int32 × Hp, o = .inr t → Bg L xs 21 97 [(0, .ref 10), (1, .int t.1)] [] LY88 t.2 R) (e : Jcs_settle_L33 v1 h = some o) : Bg L xs 21 33 [(0, .ref 10), (1, .int v1)] [] LY88 h R := by
  refine seg_Bg (pc' := (if v1 < 256 then 40 else 97)) (lv' := [(0, .ref 10), (1, .int v1)]) (st' := []) (lay' := LY88) (h' := h) 3 rfl ?_
  refine pc_ite e (fun e => ?_) (fun e => ?_)
  · refine seg_Bg (pc' := 45) (lv' := [(0, .ref 10), (1, .int v1)]) (st' := [.int v1, .ref 11]) (lay' := LY88) (h' := h) 3 rfl ?_
    refine gd_Bg (pc' := 46) (lv' := [(0, .ref 10), (1, .int v1)]) (st' := [.int (h 11 (Int32.toNatClampNeg v1))]) (lay' := LY88) (h' := h) (g := ibB v1 256) rfl e fun e => ?_
    refine seg_Bg (pc' := (if (h 11 (Int32.toNatClampNeg v1)) = (h 10 12) then 53 else 91)) (lv' := [(0, .ref 10), (1, .int v1)]) (st' := []) (lay' := LY88) (h' := h) 3 rfl ?_
    refine pc_ite e (fun e => ?_) (fun e => ?_)
    · refine seg_Bg (pc' := (if (h 10 9) < 256 then 63 else 91)) (lv' := [(0, .ref 10), (1, .int v1)]) (st' := []) (lay' := LY88) (h' := h) 4 rfl ?_
      refine pc_ite e (fun e => ?_) (fun e => ?_)
      · refine seg_Bg (pc' := 72) (lv' := [(0, .ref 10), (1, .int v1)]) (st' := [.int v1, .int (h 10 9), .ref 13]) (lay' := LY88) (h' := h) 5 rfl ?_
        refine gp_Bg (pc' := 73) (lv' := [(0, .ref 10), (1, .int v1)]) (st' := []) (lay' := LY88) (x := hset h 13 (Int32.toNatClampNeg (h 10 9)) v1) (g := ibB (h 10 9) 256) rfl e fun h2 e => ?_
        refine seg_Bg (pc' := 80) (lv' := [(0, .ref 10), (1, .int v1)]) (st' := [.int ((h2 10 9) + (1 : Int32)), .ref 10]) (lay' := LY88) (h' := h2) 5 rfl ?_
        refine put_Bg (pc' := 83) (lv' := [(0, .ref 10), (1, .int v1)]) (st' := []) (lay' := LY88) (x := hset h2 10 9 ((h2 10 9) + (1 : Int32))) rfl e fun h3 e => ?_
        refine seg_Bg (pc' := 88) (lv' := [(0, .ref 10), (1, .int v1)]) (st' := [.int (h3 10 12), .ref 10]) (lay' := LY88) (h' := h3) 3 rfl ?_
        refine put_Bg (pc' := 91) (lv' := [(0, .ref 10), (1, .int v1)]) (st' := []) (lay' := LY88) (x := hset h3 10 13 (h3 10 12)) rfl e fun h4 e => ?_
        refine seg_Bg (pc' := 33) (lv' := [(0, .ref 10), (1, .int (v1 + 1))]) (st' := []) (lay' := LY88) (h' := h4) 2 rfl ?_
        exact hH (v1 + 1, h4) (Option.some.inj e).symm
      · refine seg_Bg (pc' := 33) (lv' := [(0, .ref 10), (1, .int (v1 + 1))]) (st' := []) (lay' := LY88) (h' := h) 2 rfl ?_
        exact hH (v1 + 1, h) (Option.some.inj e).symm
    · refine seg_Bg (pc' := 33) (lv' := [(0, .ref 10), (1, .int (v1 + 1))]) (st' := []) (lay' := LY88) (h' := h) 2 rfl ?_
      exact hH (v1 + 1, h) (Option.some.inj e).symm
  · exact hE (v1, h) (Option.some.inj e).symm
theorem BJcs_settle_L33 (L : Nat) (xs : Nat → Int32) (R : List Value × Lay × Hp) (C : (Int32 × Hp) → Prop) (hE : ∀ t : Int32 × Hp, C t → Bg L xs 21 97 [(0, .ref 10), (1, .int t.1)] [] LY88 t.2 R) (n : Nat) (s : Int32 × Hp) (o : (Int32 × Hp)) (e : loopN n (fun s => Jcs_settle_L33 s.1 s.2) s = some o) (hC : C o) : Bg L xs 21 33 [(0, .ref 10), (1, .int s.1)] [] LY88 s.2 R := by
  refine loop_B (fun s => Jcs_settle_L33 s.1 s.2) (fun s : Int32 × Hp => Bg L xs 21 33 [(0, .ref 10), (1, .int s.1)] [] LY88 s.2 R) C (fun s o e => ?_) n s o e hC
  intro hK
  refine BJcs_settle_L33_s L xs R s.1 s.2 o (fun s q => by subst q; exact hK) (fun t q => by subst q; exact hE t hK) e
set_option maxRecDepth 100000 in
theorem BJcs_settle (L : Nat) (xs : Nat → Int32) (h : Hp) (o : Hp) (e : Jcs_settle h = some o) : Bg L xs 21 0 [(0, .ref 10)] [] LY88 h ([], LY88, o) := by
  obtain ⟨R, hR⟩ : ∃ R : List Value × Lay × Hp, R = ([], LY88, o) := ⟨_, rfl⟩
  rw [← hR]
  refine seg_Bg (pc' := (if (h 10 12) < 0 then 17 else 7)) (lv' := [(0, .ref 10)]) (st' := []) (lay' := LY88) (h' := h) 3 rfl ?_
  refine pc_ite e (fun e => ?_) (fun e => ?_)
  · rw [hR, ← Option.some.inj e]; exact ret_Bg rfl
  · refine seg_Bg (pc' := (if 9999 < (h 10 12) then 17 else 18)) (lv' := [(0, .ref 10)]) (st' := []) (lay' := LY88) (h' := h) 4 rfl ?_
    refine pc_ite e (fun e => ?_) (fun e => ?_)
    · rw [hR, ← Option.some.inj e]; exact ret_Bg rfl
    · refine seg_Bg (pc' := 30) (lv' := [(0, .ref 10)]) (st' := [.int (h 10 9), .int (h 10 12), .ref 14]) (lay' := LY88) (h' := h) 6 rfl ?_
      refine gp_Bg (pc' := 31) (lv' := [(0, .ref 10)]) (st' := []) (lay' := LY88) (x := hset h 14 (Int32.toNatClampNeg (h 10 12)) (h 10 9)) (g := ibB (h 10 12) 10001) rfl e fun h1 e => ?_
      refine seg_Bg (pc' := 33) (lv' := [(0, .ref 10), (1, .int 0)]) (st' := []) (lay' := LY88) (h' := h1) 2 rfl ?_
      obtain ⟨t5o, et5o, e⟩ := bd_s e
      refine BJcs_settle_L33 L xs R (fun (t5 : Int32 × Hp) => (bif ibB ((t5.2 10 12) + (1 : Int32)) 10001 then lt (hset t5.2 14 (Int32.toNatClampNeg ((t5.2 10 12) + (1 : Int32))) (t5.2 10 9)) fun h6 => some h6 else none) = some o) (fun t5 e => ?_) 1000000 (0, h1) _ et5o e
      refine seg_Bg (pc' := 111) (lv' := [(0, .ref 10), (1, .int t5.1)]) (st' := [.int (t5.2 10 9), .int ((t5.2 10 12) + (1 : Int32)), .ref 14]) (lay' := LY88) (h' := t5.2) 8 rfl ?_
      refine gp_Bg (pc' := 112) (lv' := [(0, .ref 10), (1, .int t5.1)]) (st' := []) (lay' := LY88) (x := hset t5.2 14 (Int32.toNatClampNeg ((t5.2 10 12) + (1 : Int32))) (t5.2 10 9)) (g := ibB ((t5.2 10 12) + (1 : Int32)) 10001) rfl e fun h6 e => ?_
      rw [hR, ← Option.some.inj e]; exact ret_Bg rfl

set_option maxRecDepth 100000 in
theorem BJco_variablesOf_L4_s (L : Nat) (xs : Nat → Int32) (v0 : Int32) (lay : Lay) (h : Hp) (R : List Value × Lay × Hp) (v1 v2 : Int32) (o : ((Int32 × Int32) ⊕ (Int32 × Int32))) (hH : ∀ s : Int32 × Int32, o = .inl s → Bg L xs 12 4 [(0, .int v0), (1, .int s.1), (2, .int s.2)] [] lay h R) (hE : ∀ t : Int32 × Int32, o = .inr t → Bg L xs 12 29 [(0, .int v0), (1, .int t.1), (2, .int t.2)] [] lay h R) (e : Jco_variablesOf_L4 v0 v1 v2 = some o) : Bg L xs 12 4 [(0, .int v0), (1, .int v1), (2, .int v2)] [] lay h R := by
  refine seg_Bg (pc' := (if v2 < 3 then 9 else 29)) (lv' := [(0, .int v0), (1, .int v1), (2, .int v2)]) (st' := []) (lay' := lay) (h' := h) 3 rfl ?_
  refine pc_ite e (fun e => ?_) (fun e => ?_)
  · refine seg_Bg (pc' := 11) (lv' := [(0, .int v0), (1, .int v1), (2, .int v2)]) (st' := [.int v2, .int v0]) (lay' := lay) (h' := h) 2 rfl ?_
    refine call_Bg (a := 11) (la := [(0, .int v0), (1, .int v2)]) (np := 14) (lv' := [(0, .int v0), (1, .int v1), (2, .int v2)]) (rest := []) (res := fun r => ([.int r], lay, h)) rfl e (fun r e => BJco_hangsOn L xs v0 v2 lay h r e) (fun c1 e => ?_)
    show Bg L xs 12 14 [(0, .int v0), (1, .int v1), (2, .int v2)] [.int c1] lay h R
    refine seg_Bg (pc' := (if c1 = 0 then 23 else 17)) (lv' := [(0, .int v0), (1, .int v1), (2, .int v2)]) (st' := []) (lay' := lay) (h' := h) 1 rfl ?_
    refine pc_ite e (fun e => ?_) (fun e => ?_)
    · refine seg_Bg (pc' := 4) (lv' := [(0, .int v0), (1, .int v1), (2, .int (v2 + 1))]) (st' := []) (lay' := lay) (h' := h) 2 rfl ?_
      exact hH (v1, v2 + 1) (Option.some.inj e).symm
    · refine seg_Bg (pc' := 4) (lv' := [(0, .int v0), (1, .int (v1 ||| ((1 : Int32) <<< (v2 &&& 31) : Int32))), (2, .int (v2 + 1))]) (st' := []) (lay' := lay) (h' := h) 8 rfl ?_
      exact hH (v1 ||| ((1 : Int32) <<< (v2 &&& 31) : Int32), v2 + 1) (Option.some.inj e).symm
  · exact hE (v1, v2) (Option.some.inj e).symm
theorem BJco_variablesOf_L4 (L : Nat) (xs : Nat → Int32) (v0 : Int32) (lay : Lay) (h : Hp) (R : List Value × Lay × Hp) (C : (Int32 × Int32) → Prop) (hE : ∀ t : Int32 × Int32, C t → Bg L xs 12 29 [(0, .int v0), (1, .int t.1), (2, .int t.2)] [] lay h R) (n : Nat) (s : Int32 × Int32) (o : (Int32 × Int32)) (e : loopN n (fun s => Jco_variablesOf_L4 v0 s.1 s.2) s = some o) (hC : C o) : Bg L xs 12 4 [(0, .int v0), (1, .int s.1), (2, .int s.2)] [] lay h R := by
  refine loop_B (fun s => Jco_variablesOf_L4 v0 s.1 s.2) (fun s : Int32 × Int32 => Bg L xs 12 4 [(0, .int v0), (1, .int s.1), (2, .int s.2)] [] lay h R) C (fun s o e => ?_) n s o e hC
  intro hK
  refine BJco_variablesOf_L4_s L xs v0 lay h R s.1 s.2 o (fun s q => by subst q; exact hK) (fun t q => by subst q; exact hE t hK) e
set_option maxRecDepth 100000 in
theorem BJco_variablesOf (L : Nat) (xs : Nat → Int32) (v0 : Int32) (lay : Lay) (h : Hp) (o : Int32) (e : Jco_variablesOf v0 = some o) : Bg L xs 12 0 [(0, .int v0)] [] lay h ([.int o], lay, h) := by
  obtain ⟨R, hR⟩ : ∃ R : List Value × Lay × Hp, R = ([.int o], lay, h) := ⟨_, rfl⟩
  rw [← hR]
  refine seg_Bg (pc' := 4) (lv' := [(0, .int v0), (1, .int 0), (2, .int 0)]) (st' := []) (lay' := lay) (h' := h) 4 rfl ?_
  obtain ⟨t2o, et2o, e⟩ := bd_s e
  refine BJco_variablesOf_L4 L xs v0 lay h R (fun (t2 : Int32 × Int32) => (some t2.1) = some o) (fun t2 e => ?_) 1000000 (0, 0) _ et2o e
  refine seg_Bg (pc' := 30) (lv' := [(0, .int v0), (1, .int t2.1), (2, .int t2.2)]) (st' := [.int t2.1]) (lay' := lay) (h' := h) 1 rfl ?_
  rw [hR, ← Option.some.inj e]; exact ret_Bg rfl

set_option maxRecDepth 100000 in
theorem BJco_arityOf_L2_s (L : Nat) (xs : Nat → Int32) (v0 : Int32) (lay : Lay) (h : Hp) (R : List Value × Lay × Hp) (v1 : Int32) (o : ((Int32) ⊕ ((Int32) ⊕ (Int32)))) (hH : ∀ s : Int32, o = .inl s → Bg L xs 13 2 [(0, .int v0), (1, .int s)] [] lay h R) (hE : ∀ t : Int32, o = .inr (.inl t) → Bg L xs 13 24 [(0, .int v0), (1, .int t)] [] lay h R) (hR : ∀ r : Int32, o = .inr (.inr r) → R = ([.int r], lay, h)) (e : Jco_arityOf_L2 v0 v1 = some o) : Bg L xs 13 2 [(0, .int v0), (1, .int v1)] [] lay h R := by
  refine seg_Bg (pc' := (if v1 < 0 then 24 else 6)) (lv' := [(0, .int v0), (1, .int v1)]) (st' := []) (lay' := lay) (h' := h) 2 rfl ?_
  refine pc_ite e (fun e => ?_) (fun e => ?_)
  · exact hE v1 (Option.some.inj e).symm
  · refine seg_Bg (pc' := 8) (lv' := [(0, .int v0), (1, .int v1)]) (st' := [.int v1, .int v0]) (lay' := lay) (h' := h) 2 rfl ?_
    refine call_Bg (a := 11) (la := [(0, .int v0), (1, .int v1)]) (np := 11) (lv' := [(0, .int v0), (1, .int v1)]) (rest := []) (res := fun r => ([.int r], lay, h)) rfl e (fun r e => BJco_hangsOn L xs v0 v1 lay h r e) (fun c1 e => ?_)
    show Bg L xs 13 11 [(0, .int v0), (1, .int v1)] [.int c1] lay h R
    refine seg_Bg (pc' := (if c1 = 0 then 18 else 14)) (lv' := [(0, .int v0), (1, .int v1)]) (st' := []) (lay' := lay) (h' := h) 1 rfl ?_
    refine pc_ite e (fun e => ?_) (fun e => ?_)
    · refine seg_Bg (pc' := 2) (lv' := [(0, .int v0), (1, .int (v1 + (-1)))]) (st' := []) (lay' := lay) (h' := h) 2 rfl ?_
      exact hH (v1 + (-1)) (Option.some.inj e).symm
    · refine seg_Bg (pc' := 17) (lv' := [(0, .int v0), (1, .int v1)]) (st' := [.int (v1 + (1 : Int32))]) (lay' := lay) (h' := h) 3 rfl ?_
      rw [hR (v1 + (1 : Int32)) (Option.some.inj e).symm]; exact ret_Bg rfl
theorem BJco_arityOf_L2 (L : Nat) (xs : Nat → Int32) (v0 : Int32) (lay : Lay) (h : Hp) (R : List Value × Lay × Hp) (C : ((Int32) ⊕ (Int32)) → Prop) (hE : ∀ t : Int32, C (.inl t) → Bg L xs 13 24 [(0, .int v0), (1, .int t)] [] lay h R) (hR : ∀ r : Int32, C (.inr r) → R = ([.int r], lay, h)) (n : Nat) (s : Int32) (o : ((Int32) ⊕ (Int32))) (e : loopN n (fun s => Jco_arityOf_L2 v0 s) s = some o) (hC : C o) : Bg L xs 13 2 [(0, .int v0), (1, .int s)] [] lay h R := by
  refine loop_B (fun s => Jco_arityOf_L2 v0 s) (fun s : Int32 => Bg L xs 13 2 [(0, .int v0), (1, .int s)] [] lay h R) C (fun s o e => ?_) n s o e hC
  intro hK
  refine BJco_arityOf_L2_s L xs v0 lay h R s o (fun s q => by subst q; exact hK) (fun t q => by subst q; exact hE t hK) (fun r q => by subst q; exact hR r hK) e
set_option maxRecDepth 100000 in
theorem BJco_arityOf (L : Nat) (xs : Nat → Int32) (v0 : Int32) (lay : Lay) (h : Hp) (o : Int32) (e : Jco_arityOf v0 = some o) : Bg L xs 13 0 [(0, .int v0)] [] lay h ([.int o], lay, h) := by
  obtain ⟨R, hR⟩ : ∃ R : List Value × Lay × Hp, R = ([.int o], lay, h) := ⟨_, rfl⟩
  rw [← hR]
  refine seg_Bg (pc' := 2) (lv' := [(0, .int v0), (1, .int 2)]) (st' := []) (lay' := lay) (h' := h) 2 rfl ?_
  obtain ⟨t2o, et2o, e⟩ := bd_s e
  refine BJco_arityOf_L2 L xs v0 lay h R (fun (t2x : (Int32) ⊕ (Int32)) => (sm t2x (fun t2 => some 0) (fun r2 => some r2)) = some o) (fun t2 e => ?_) (fun r2 e => ?_) 1000000 2 _ et2o e
  · refine seg_Bg (pc' := 25) (lv' := [(0, .int v0), (1, .int t2)]) (st' := [.int 0]) (lay' := lay) (h' := h) 1 rfl ?_
    rw [hR, ← Option.some.inj e]; exact ret_Bg rfl
  · rw [hR]; exact congrArg (fun r => (([.int r], lay, h) : List Value × Lay × Hp)) (Option.some.inj e).symm

set_option maxRecDepth 100000 in
theorem BJpu_begin (L : Nat) (xs : Nat → Int32) (v1 : Int32) (h : Hp) (o : Hp) (e : Jpu_begin v1 h = some o) : Bg L xs 78 0 [(0, .ref 18), (1, .int v1)] [] LY88 h ([], LY88, o) := by
  obtain ⟨R, hR⟩ : ∃ R : List Value × Lay × Hp, R = ([], LY88, o) := ⟨_, rfl⟩
  rw [← hR]
  refine seg_Bg (pc' := 2) (lv' := [(0, .ref 18), (1, .int v1)]) (st' := [.int v1, .ref 18]) (lay' := LY88) (h' := h) 2 rfl ?_
  refine put_Bg (pc' := 5) (lv' := [(0, .ref 18), (1, .int v1)]) (st' := []) (lay' := LY88) (x := hset h 18 0 v1) rfl e fun h1 e => ?_
  refine seg_Bg (pc' := 7) (lv' := [(0, .ref 18), (1, .int v1)]) (st' := [.int v1, .ref 18]) (lay' := LY88) (h' := h1) 2 rfl ?_
  refine call_Bg (a := 12) (la := [(0, .int v1)]) (np := 10) (lv' := [(0, .ref 18), (1, .int v1)]) (rest := [.ref 18]) (res := fun r => ([.int r], LY88, h1)) rfl e (fun r e => BJco_variablesOf L xs v1 LY88 h1 r e) (fun c2 e => ?_)
  show Bg L xs 78 10 [(0, .ref 18), (1, .int v1)] [.int c2, .ref 18] LY88 h1 R
  refine put_Bg (pc' := 13) (lv' := [(0, .ref 18), (1, .int v1)]) (st' := []) (lay' := LY88) (x := hset h1 18 1 c2) rfl e fun h3 e => ?_
  refine seg_Bg (pc' := 15) (lv' := [(0, .ref 18), (1, .int v1)]) (st' := [.int v1, .ref 18]) (lay' := LY88) (h' := h3) 2 rfl ?_
  refine call_Bg (a := 13) (la := [(0, .int v1)]) (np := 18) (lv' := [(0, .ref 18), (1, .int v1)]) (rest := [.ref 18]) (res := fun r => ([.int r], LY88, h3)) rfl e (fun r e => BJco_arityOf L xs v1 LY88 h3 r e) (fun c4 e => ?_)
  show Bg L xs 78 18 [(0, .ref 18), (1, .int v1)] [.int c4, .ref 18] LY88 h3 R
  refine put_Bg (pc' := 21) (lv' := [(0, .ref 18), (1, .int v1)]) (st' := []) (lay' := LY88) (x := hset h3 18 2 c4) rfl e fun h5 e => ?_
  rw [hR, ← Option.some.inj e]; exact ret_Bg rfl

set_option maxRecDepth 100000 in
theorem BJpu_hangsOn (L : Nat) (xs : Nat → Int32) (v1 : Int32) (h : Hp) (o : Int32) (e : Jpu_hangsOn v1 h = some o) : Bg L xs 80 0 [(0, .ref 18), (1, .int v1)] [] LY88 h ([.int o], LY88, h) := by
  obtain ⟨R, hR⟩ : ∃ R : List Value × Lay × Hp, R = ([.int o], LY88, h) := ⟨_, rfl⟩
  rw [← hR]
  refine seg_Bg (pc' := (if (((h 18 1) >>> (v1 &&& 31) : Int32) &&& (1 : Int32)) = 0 then 15 else 11)) (lv' := [(0, .ref 18), (1, .int v1)]) (st' := []) (lay' := LY88) (h' := h) 7 rfl ?_
  refine pc_ite e (fun e => ?_) (fun e => ?_)
  · refine seg_Bg (pc' := 16) (lv' := [(0, .ref 18), (1, .int v1)]) (st' := [.int 0]) (lay' := LY88) (h' := h) 1 rfl ?_
    rw [hR, ← Option.some.inj e]; exact ret_Bg rfl
  · refine seg_Bg (pc' := 16) (lv' := [(0, .ref 18), (1, .int v1)]) (st' := [.int 1]) (lay' := LY88) (h' := h) 2 rfl ?_
    rw [hR, ← Option.some.inj e]; exact ret_Bg rfl

set_option maxRecDepth 100000 in
theorem BJcs_partsTo (L : Nat) (xs : Nat → Int32) (v1 : Int32) (v2 : Int32) (h : Hp) (o : Int32) (e : Jcs_partsTo v1 v2 h = some o) : Bg L xs 29 0 [(0, .ref 10), (1, .int v1), (2, .int v2)] [] LY88 h ([.int o], LY88, h) := by
  obtain ⟨R, hR⟩ : ∃ R : List Value × Lay × Hp, R = ([.int o], LY88, h) := ⟨_, rfl⟩
  rw [← hR]
  refine seg_Bg (pc' := (if v1 < 0 then 19 else 4)) (lv' := [(0, .ref 10), (1, .int v1), (2, .int v2)]) (st' := []) (lay' := LY88) (h' := h) 2 rfl ?_
  refine pc_ite e (fun e => ?_) (fun e => ?_)
  · refine seg_Bg (pc' := 20) (lv' := [(0, .ref 10), (1, .int v1), (2, .int v2)]) (st' := [.int 0]) (lay' := LY88) (h' := h) 1 rfl ?_
    rw [hR, ← Option.some.inj e]; exact ret_Bg rfl
  · refine seg_Bg (pc' := (if (h 10 12) < v1 then 19 else 12)) (lv' := [(0, .ref 10), (1, .int v1), (2, .int v2)]) (st' := []) (lay' := LY88) (h' := h) 4 rfl ?_
    refine pc_ite e (fun e => ?_) (fun e => ?_)
    · refine seg_Bg (pc' := 20) (lv' := [(0, .ref 10), (1, .int v1), (2, .int v2)]) (st' := [.int 0]) (lay' := LY88) (h' := h) 1 rfl ?_
      rw [hR, ← Option.some.inj e]; exact ret_Bg rfl
    · refine seg_Bg (pc' := (if 9999 < v1 then 19 else 21)) (lv' := [(0, .ref 10), (1, .int v1), (2, .int v2)]) (st' := []) (lay' := LY88) (h' := h) 3 rfl ?_
      refine pc_ite e (fun e => ?_) (fun e => ?_)
      · refine seg_Bg (pc' := 20) (lv' := [(0, .ref 10), (1, .int v1), (2, .int v2)]) (st' := [.int 0]) (lay' := LY88) (h' := h) 1 rfl ?_
        rw [hR, ← Option.some.inj e]; exact ret_Bg rfl
      · refine seg_Bg (pc' := (if v2 = 0 then 36 else 25)) (lv' := [(0, .ref 10), (1, .int v1), (2, .int v2)]) (st' := []) (lay' := LY88) (h' := h) 2 rfl ?_
        refine pc_ite e (fun e => ?_) (fun e => ?_)
        · refine seg_Bg (pc' := (if v1 = 0 then 40 else 44)) (lv' := [(0, .ref 10), (1, .int v1), (2, .int v2)]) (st' := []) (lay' := LY88) (h' := h) 2 rfl ?_
          refine pc_ite e (fun e => ?_) (fun e => ?_)
          · refine seg_Bg (pc' := 45) (lv' := [(0, .ref 10), (1, .int v1), (2, .int v2)]) (st' := [.int 1]) (lay' := LY88) (h' := h) 2 rfl ?_
            rw [hR, ← Option.some.inj e]; exact ret_Bg rfl
          · refine seg_Bg (pc' := 45) (lv' := [(0, .ref 10), (1, .int v1), (2, .int v2)]) (st' := [.int 0]) (lay' := LY88) (h' := h) 1 rfl ?_
            rw [hR, ← Option.some.inj e]; exact ret_Bg rfl
        · refine seg_Bg (pc' := 32) (lv' := [(0, .ref 10), (1, .int v1), (2, .int v2)]) (st' := [.int (v1 + (1 : Int32)), .ref 14]) (lay' := LY88) (h' := h) 5 rfl ?_
          refine gd_Bg (pc' := 33) (lv' := [(0, .ref 10), (1, .int v1), (2, .int v2)]) (st' := [.int (h 14 (Int32.toNatClampNeg (v1 + (1 : Int32))))]) (lay' := LY88) (h' := h) (g := ibB (v1 + (1 : Int32)) 10001) rfl e fun e => ?_
          refine seg_Bg (pc' := 45) (lv' := [(0, .ref 10), (1, .int v1), (2, .int v2)]) (st' := [.int (h 14 (Int32.toNatClampNeg (v1 + (1 : Int32))))]) (lay' := LY88) (h' := h) 1 rfl ?_
          rw [hR, ← Option.some.inj e]; exact ret_Bg rfl

set_option maxRecDepth 100000 in
theorem BJcs_partsFrom (L : Nat) (xs : Nat → Int32) (v1 : Int32) (v2 : Int32) (h : Hp) (o : Int32) (e : Jcs_partsFrom v1 v2 h = some o) : Bg L xs 28 0 [(0, .ref 10), (1, .int v1), (2, .int v2)] [] LY88 h ([.int o], LY88, h) := by
  obtain ⟨R, hR⟩ : ∃ R : List Value × Lay × Hp, R = ([.int o], LY88, h) := ⟨_, rfl⟩
  rw [← hR]
  refine seg_Bg (pc' := (if v2 = 0 then 32 else 4)) (lv' := [(0, .ref 10), (1, .int v1), (2, .int v2)]) (st' := []) (lay' := LY88) (h' := h) 2 rfl ?_
  refine pc_ite e (fun e => ?_) (fun e => ?_)
  · refine seg_Bg (pc' := 33) (lv' := [(0, .ref 10), (1, .int v1), (2, .int v2)]) (st' := [.int 0]) (lay' := LY88) (h' := h) 1 rfl ?_
    rw [hR, ← Option.some.inj e]; exact ret_Bg rfl
  · refine seg_Bg (pc' := (if v1 < 0 then 32 else 8)) (lv' := [(0, .ref 10), (1, .int v1), (2, .int v2)]) (st' := []) (lay' := LY88) (h' := h) 2 rfl ?_
    refine pc_ite e (fun e => ?_) (fun e => ?_)
    · refine seg_Bg (pc' := 33) (lv' := [(0, .ref 10), (1, .int v1), (2, .int v2)]) (st' := [.int 0]) (lay' := LY88) (h' := h) 1 rfl ?_
      rw [hR, ← Option.some.inj e]; exact ret_Bg rfl
    · refine seg_Bg (pc' := (if (h 10 12) < v1 then 32 else 16)) (lv' := [(0, .ref 10), (1, .int v1), (2, .int v2)]) (st' := []) (lay' := LY88) (h' := h) 4 rfl ?_
      refine pc_ite e (fun e => ?_) (fun e => ?_)
      · refine seg_Bg (pc' := 33) (lv' := [(0, .ref 10), (1, .int v1), (2, .int v2)]) (st' := [.int 0]) (lay' := LY88) (h' := h) 1 rfl ?_
        rw [hR, ← Option.some.inj e]; exact ret_Bg rfl
      · refine seg_Bg (pc' := (if 9999 < v1 then 32 else 23)) (lv' := [(0, .ref 10), (1, .int v1), (2, .int v2)]) (st' := []) (lay' := LY88) (h' := h) 3 rfl ?_
        refine pc_ite e (fun e => ?_) (fun e => ?_)
        · refine seg_Bg (pc' := 33) (lv' := [(0, .ref 10), (1, .int v1), (2, .int v2)]) (st' := [.int 0]) (lay' := LY88) (h' := h) 1 rfl ?_
          rw [hR, ← Option.some.inj e]; exact ret_Bg rfl
        · refine seg_Bg (pc' := 28) (lv' := [(0, .ref 10), (1, .int v1), (2, .int v2)]) (st' := [.int v1, .ref 14]) (lay' := LY88) (h' := h) 3 rfl ?_
          refine gd_Bg (pc' := 29) (lv' := [(0, .ref 10), (1, .int v1), (2, .int v2)]) (st' := [.int (h 14 (Int32.toNatClampNeg v1))]) (lay' := LY88) (h' := h) (g := ibB v1 10001) rfl e fun e => ?_
          refine seg_Bg (pc' := 33) (lv' := [(0, .ref 10), (1, .int v1), (2, .int v2)]) (st' := [.int (h 14 (Int32.toNatClampNeg v1))]) (lay' := LY88) (h' := h) 1 rfl ?_
          rw [hR, ← Option.some.inj e]; exact ret_Bg rfl

set_option maxRecDepth 100000 in
theorem BJpu_spread (L : Nat) (xs : Nat → Int32) (v1 : Int32) (h : Hp) (o : Int32) (e : Jpu_spread v1 h = some o) : Bg L xs 86 0 [(0, .ref 18), (1, .int v1)] [] LY88 h ([.int o], LY88, h) := by
  obtain ⟨R, hR⟩ : ∃ R : List Value × Lay × Hp, R = ([.int o], LY88, h) := ⟨_, rfl⟩
  rw [← hR]
  refine seg_Bg (pc' := 5) (lv' := [(0, .ref 18), (1, .int v1)]) (st' := [.int v1, .int (h 18 0)]) (lay' := LY88) (h' := h) 3 rfl ?_
  refine call_Bg (a := 5) (la := [(0, .int (h 18 0)), (1, .int v1)]) (np := 8) (lv' := [(0, .ref 18), (1, .int v1)]) (rest := []) (res := fun r => ([.int r], LY88, h)) rfl e (fun r e => BJco_tells L xs (h 18 0) v1 LY88 h r e) (fun c1 e => ?_)
  show Bg L xs 86 8 [(0, .ref 18), (1, .int v1)] [.int c1] LY88 h R
  refine seg_Bg (pc' := (if c1 = 1 then 12 else 18)) (lv' := [(0, .ref 18), (1, .int v1)]) (st' := []) (lay' := LY88) (h' := h) 2 rfl ?_
  refine pc_ite e (fun e => ?_) (fun e => ?_)
  · refine seg_Bg (pc' := 19) (lv' := [(0, .ref 18), (1, .int v1)]) (st' := [.int 255]) (lay' := LY88) (h' := h) 2 rfl ?_
    rw [hR, ← Option.some.inj e]; exact ret_Bg rfl
  · refine seg_Bg (pc' := 19) (lv' := [(0, .ref 18), (1, .int v1)]) (st' := [.int 0]) (lay' := LY88) (h' := h) 1 rfl ?_
    rw [hR, ← Option.some.inj e]; exact ret_Bg rfl

set_option maxRecDepth 100000 in
theorem BJpu_choose (L : Nat) (xs : Nat → Int32) (v0 : Int32) (v1 : Int32) (v2 : Int32) (lay : Lay) (h : Hp) (o : Int32) (e : Jpu_choose v0 v1 v2 = some o) : Bg L xs 87 0 [(0, .int v0), (1, .int v1), (2, .int v2)] [] lay h ([.int o], lay, h) := by
  obtain ⟨R, hR⟩ : ∃ R : List Value × Lay × Hp, R = ([.int o], lay, h) := ⟨_, rfl⟩
  rw [← hR]
  refine seg_Bg (pc' := 9) (lv' := [(0, .int v0), (1, .int v1), (2, .int v2)]) (st' := [.int ((v0 &&& v1) ||| ((v0 ^^^ (-1 : Int32)) &&& v2))]) (lay' := lay) (h' := h) 9 rfl ?_
  rw [hR, ← Option.some.inj e]; exact ret_Bg rfl

set_option maxRecDepth 100000 in
theorem BJpu_first_L2_s (L : Nat) (xs : Nat → Int32) (v1 : Int32) (R : List Value × Lay × Hp) (v2 : Int32) (h : Hp) (o : ((Int32 × Hp) ⊕ (Int32 × Hp))) (hH : ∀ s : Int32 × Hp, o = .inl s → Bg L xs 81 2 [(0, .ref 18), (1, .int v1), (2, .int s.1)] [] LY88 s.2 R) (hE : ∀ t : Int32 × Hp, o = .inr t → Bg L xs 81 35 [(0, .ref 18), (1, .int v1), (2, .int t.1)] [] LY88 t.2 R) (e : Jpu_first_L2 v1 v2 h = some o) : Bg L xs 81 2 [(0, .ref 18), (1, .int v1), (2, .int v2)] [] LY88 h R := by
  refine seg_Bg (pc' := (if v2 < 4 then 7 else 35)) (lv' := [(0, .ref 18), (1, .int v1), (2, .int v2)]) (st' := []) (lay' := LY88) (h' := h) 3 rfl ?_
  refine pc_ite e (fun e => ?_) (fun e => ?_)
  · refine seg_Bg (pc' := 17) (lv' := [(0, .ref 18), (1, .int v1), (2, .int v2)]) (st' := [.int ((4 : Int32) + v2), .ref 18, .int v1, .int v2, .ref 19]) (lay' := LY88) (h' := h) 8 rfl ?_
    refine call_Bg (a := 86) (la := [(0, .ref 18), (1, .int ((4 : Int32) + v2))]) (np := 20) (lv' := [(0, .ref 18), (1, .int v1), (2, .int v2)]) (rest := [.int v1, .int v2, .ref 19]) (res := fun r => ([.int r], LY88, h)) rfl e (fun r e => BJpu_spread L xs ((4 : Int32) + v2) h r e) (fun c1 e => ?_)
    show Bg L xs 81 20 [(0, .ref 18), (1, .int v1), (2, .int v2)] [.int c1, .int v1, .int v2, .ref 19] LY88 h R
    refine seg_Bg (pc' := 22) (lv' := [(0, .ref 18), (1, .int v1), (2, .int v2)]) (st' := [.int v2, .ref 18, .int c1, .int v1, .int v2, .ref 19]) (lay' := LY88) (h' := h) 2 rfl ?_
    refine call_Bg (a := 86) (la := [(0, .ref 18), (1, .int v2)]) (np := 25) (lv' := [(0, .ref 18), (1, .int v1), (2, .int v2)]) (rest := [.int c1, .int v1, .int v2, .ref 19]) (res := fun r => ([.int r], LY88, h)) rfl e (fun r e => BJpu_spread L xs v2 h r e) (fun c2 e => ?_)
    show Bg L xs 81 25 [(0, .ref 18), (1, .int v1), (2, .int v2)] [.int c2, .int c1, .int v1, .int v2, .ref 19] LY88 h R
    refine call_Bg (a := 87) (la := [(0, .int v1), (1, .int c1), (2, .int c2)]) (np := 28) (lv' := [(0, .ref 18), (1, .int v1), (2, .int v2)]) (rest := [.int v2, .ref 19]) (res := fun r => ([.int r], LY88, h)) rfl e (fun r e => BJpu_choose L xs v1 c1 c2 LY88 h r e) (fun c3 e => ?_)
    show Bg L xs 81 28 [(0, .ref 18), (1, .int v1), (2, .int v2)] [.int c3, .int v2, .ref 19] LY88 h R
    refine gp_Bg (pc' := 29) (lv' := [(0, .ref 18), (1, .int v1), (2, .int v2)]) (st' := []) (lay' := LY88) (x := hset h 19 (Int32.toNatClampNeg v2) c3) (g := ibB v2 4) rfl e fun h4 e => ?_
    refine seg_Bg (pc' := 2) (lv' := [(0, .ref 18), (1, .int v1), (2, .int (v2 + 1))]) (st' := []) (lay' := LY88) (h' := h4) 2 rfl ?_
    exact hH (v2 + 1, h4) (Option.some.inj e).symm
  · exact hE (v2, h) (Option.some.inj e).symm
theorem BJpu_first_L2 (L : Nat) (xs : Nat → Int32) (v1 : Int32) (R : List Value × Lay × Hp) (C : (Int32 × Hp) → Prop) (hE : ∀ t : Int32 × Hp, C t → Bg L xs 81 35 [(0, .ref 18), (1, .int v1), (2, .int t.1)] [] LY88 t.2 R) (n : Nat) (s : Int32 × Hp) (o : (Int32 × Hp)) (e : loopN n (fun s => Jpu_first_L2 v1 s.1 s.2) s = some o) (hC : C o) : Bg L xs 81 2 [(0, .ref 18), (1, .int v1), (2, .int s.1)] [] LY88 s.2 R := by
  refine loop_B (fun s => Jpu_first_L2 v1 s.1 s.2) (fun s : Int32 × Hp => Bg L xs 81 2 [(0, .ref 18), (1, .int v1), (2, .int s.1)] [] LY88 s.2 R) C (fun s o e => ?_) n s o e hC
  intro hK
  refine BJpu_first_L2_s L xs v1 R s.1 s.2 o (fun s q => by subst q; exact hK) (fun t q => by subst q; exact hE t hK) e
set_option maxRecDepth 100000 in
theorem BJpu_first (L : Nat) (xs : Nat → Int32) (v1 : Int32) (h : Hp) (o : Hp) (e : Jpu_first v1 h = some o) : Bg L xs 81 0 [(0, .ref 18), (1, .int v1)] [] LY88 h ([], LY88, o) := by
  obtain ⟨R, hR⟩ : ∃ R : List Value × Lay × Hp, R = ([], LY88, o) := ⟨_, rfl⟩
  rw [← hR]
  refine seg_Bg (pc' := 2) (lv' := [(0, .ref 18), (1, .int v1), (2, .int 0)]) (st' := []) (lay' := LY88) (h' := h) 2 rfl ?_
  obtain ⟨t5o, et5o, e⟩ := bd_s e
  refine BJpu_first_L2 L xs v1 R (fun (t5 : Int32 × Hp) => (some t5.2) = some o) (fun t5 e => ?_) 1000000 (0, h) _ et5o e
  rw [hR, ← Option.some.inj e]; exact ret_Bg rfl

set_option maxRecDepth 100000 in
theorem BJyn_isCode (L : Nat) (xs : Nat → Int32) (v0 : Int32) (lay : Lay) (h : Hp) (o : Int32) (e : Jyn_isCode v0 = some o) : Bg L xs 158 0 [(0, .int v0)] [] lay h ([.int o], lay, h) := by
  obtain ⟨R, hR⟩ : ∃ R : List Value × Lay × Hp, R = ([.int o], lay, h) := ⟨_, rfl⟩
  rw [← hR]
  refine seg_Bg (pc' := (if v0 < 0 then 15 else 4)) (lv' := [(0, .int v0)]) (st' := []) (lay' := lay) (h' := h) 2 rfl ?_
  refine pc_ite e (fun e => ?_) (fun e => ?_)
  · refine seg_Bg (pc' := 16) (lv' := [(0, .int v0)]) (st' := [.int 0]) (lay' := lay) (h' := h) 1 rfl ?_
    rw [hR, ← Option.some.inj e]; exact ret_Bg rfl
  · refine seg_Bg (pc' := (if v0 < 256 then 11 else 15)) (lv' := [(0, .int v0)]) (st' := []) (lay' := lay) (h' := h) 3 rfl ?_
    refine pc_ite e (fun e => ?_) (fun e => ?_)
    · refine seg_Bg (pc' := 16) (lv' := [(0, .int v0)]) (st' := [.int 1]) (lay' := lay) (h' := h) 2 rfl ?_
      rw [hR, ← Option.some.inj e]; exact ret_Bg rfl
    · refine seg_Bg (pc' := 16) (lv' := [(0, .int v0)]) (st' := [.int 0]) (lay' := lay) (h' := h) 1 rfl ?_
      rw [hR, ← Option.some.inj e]; exact ret_Bg rfl

set_option maxRecDepth 100000 in
theorem BJcs_isMade (L : Nat) (xs : Nat → Int32) (v1 : Int32) (h : Hp) (o : Int32) (e : Jcs_isMade v1 h = some o) : Bg L xs 35 0 [(0, .ref 10), (1, .int v1)] [] LY88 h ([.int o], LY88, h) := by
  obtain ⟨R, hR⟩ : ∃ R : List Value × Lay × Hp, R = ([.int o], LY88, h) := ⟨_, rfl⟩
  rw [← hR]
  refine seg_Bg (pc' := 1) (lv' := [(0, .ref 10), (1, .int v1)]) (st' := [.int v1]) (lay' := LY88) (h' := h) 1 rfl ?_
  refine call_Bg (a := 158) (la := [(0, .int v1)]) (np := 4) (lv' := [(0, .ref 10), (1, .int v1)]) (rest := []) (res := fun r => ([.int r], LY88, h)) rfl e (fun r e => BJyn_isCode L xs v1 LY88 h r e) (fun c1 e => ?_)
  show Bg L xs 35 4 [(0, .ref 10), (1, .int v1)] [.int c1] LY88 h R
  refine seg_Bg (pc' := (if c1 = 0 then 21 else 7)) (lv' := [(0, .ref 10), (1, .int v1)]) (st' := []) (lay' := LY88) (h' := h) 1 rfl ?_
  refine pc_ite e (fun e => ?_) (fun e => ?_)
  · refine seg_Bg (pc' := 22) (lv' := [(0, .ref 10), (1, .int v1)]) (st' := [.int 0]) (lay' := LY88) (h' := h) 1 rfl ?_
    rw [hR, ← Option.some.inj e]; exact ret_Bg rfl
  · refine seg_Bg (pc' := 12) (lv' := [(0, .ref 10), (1, .int v1)]) (st' := [.int v1, .ref 11]) (lay' := LY88) (h' := h) 3 rfl ?_
    refine gd_Bg (pc' := 13) (lv' := [(0, .ref 10), (1, .int v1)]) (st' := [.int (h 11 (Int32.toNatClampNeg v1))]) (lay' := LY88) (h' := h) (g := ibB v1 256) rfl e fun e => ?_
    refine seg_Bg (pc' := (if (h 11 (Int32.toNatClampNeg v1)) = (-1) then 21 else 17)) (lv' := [(0, .ref 10), (1, .int v1)]) (st' := []) (lay' := LY88) (h' := h) 2 rfl ?_
    refine pc_ite e (fun e => ?_) (fun e => ?_)
    · refine seg_Bg (pc' := 22) (lv' := [(0, .ref 10), (1, .int v1)]) (st' := [.int 0]) (lay' := LY88) (h' := h) 1 rfl ?_
      rw [hR, ← Option.some.inj e]; exact ret_Bg rfl
    · refine seg_Bg (pc' := 22) (lv' := [(0, .ref 10), (1, .int v1)]) (st' := [.int 1]) (lay' := LY88) (h' := h) 2 rfl ?_
      rw [hR, ← Option.some.inj e]; exact ret_Bg rfl

set_option maxRecDepth 100000 in
theorem BJpu_mayBecome_L9_s (L : Nat) (xs : Nat → Int32) (v1 : Int32) (h : Hp) (R : List Value × Lay × Hp) (v2 v3 v4 : Int32) (o : ((Int32 × Int32 × Int32) ⊕ (Int32 × Int32 × Int32))) (hH : ∀ s : Int32 × Int32 × Int32, o = .inl s → Bg L xs 82 9 [(0, .ref 18), (1, .int v1), (2, .int s.1), (3, .int s.2.1), (4, .int s.2.2)] [] LY88 h R) (hE : ∀ t : Int32 × Int32 × Int32, o = .inr t → Bg L xs 82 41 [(0, .ref 18), (1, .int v1), (2, .int t.1), (3, .int t.2.1), (4, .int t.2.2)] [] LY88 h R) (e : Jpu_mayBecome_L9 v1 h v2 v3 v4 = some o) : Bg L xs 82 9 [(0, .ref 18), (1, .int v1), (2, .int v2), (3, .int v3), (4, .int v4)] [] LY88 h R := by
  refine seg_Bg (pc' := (if v4 < 4 then 15 else 41)) (lv' := [(0, .ref 18), (1, .int v1), (2, .int v2), (3, .int v3), (4, .int v4)]) (st' := []) (lay' := LY88) (h' := h) 3 rfl ?_
  refine pc_ite e (fun e => ?_) (fun e => ?_)
  · refine seg_Bg (pc' := 22) (lv' := [(0, .ref 18), (1, .int v1), (2, .int v2), (3, .int v3), (4, .int v4)]) (st' := [.int v4, .ref 19, .int v2]) (lay' := LY88) (h' := h) 4 rfl ?_
    refine gd_Bg (pc' := 23) (lv' := [(0, .ref 18), (1, .int v1), (2, .int v2), (3, .int v3), (4, .int v4)]) (st' := [.int (h 19 (Int32.toNatClampNeg v4)), .int v2]) (lay' := LY88) (h' := h) (g := ibB v4 4) rfl e fun e => ?_
    refine seg_Bg (pc' := 32) (lv' := [(0, .ref 18), (1, .int v1), (2, .int (v2 ||| (h 19 (Int32.toNatClampNeg v4)))), (3, .int v3), (4, .int v4)]) (st' := [.int v4, .ref 19, .int v3]) (lay' := LY88) (h' := h) 6 rfl ?_
    refine gd_Bg (pc' := 33) (lv' := [(0, .ref 18), (1, .int v1), (2, .int (v2 ||| (h 19 (Int32.toNatClampNeg v4)))), (3, .int v3), (4, .int v4)]) (st' := [.int (h 19 (Int32.toNatClampNeg v4)), .int v3]) (lay' := LY88) (h' := h) (g := ibB v4 4) rfl e fun e => ?_
    refine seg_Bg (pc' := 9) (lv' := [(0, .ref 18), (1, .int v1), (2, .int (v2 ||| (h 19 (Int32.toNatClampNeg v4)))), (3, .int (v3 &&& (h 19 (Int32.toNatClampNeg v4)))), (4, .int (v4 + 1))]) (st' := []) (lay' := LY88) (h' := h) 4 rfl ?_
    exact hH (v2 ||| (h 19 (Int32.toNatClampNeg v4)), v3 &&& (h 19 (Int32.toNatClampNeg v4)), v4 + 1) (Option.some.inj e).symm
  · exact hE (v2, v3, v4) (Option.some.inj e).symm
theorem BJpu_mayBecome_L9 (L : Nat) (xs : Nat → Int32) (v1 : Int32) (h : Hp) (R : List Value × Lay × Hp) (C : (Int32 × Int32 × Int32) → Prop) (hE : ∀ t : Int32 × Int32 × Int32, C t → Bg L xs 82 41 [(0, .ref 18), (1, .int v1), (2, .int t.1), (3, .int t.2.1), (4, .int t.2.2)] [] LY88 h R) (n : Nat) (s : Int32 × Int32 × Int32) (o : (Int32 × Int32 × Int32)) (e : loopN n (fun s => Jpu_mayBecome_L9 v1 h s.1 s.2.1 s.2.2) s = some o) (hC : C o) : Bg L xs 82 9 [(0, .ref 18), (1, .int v1), (2, .int s.1), (3, .int s.2.1), (4, .int s.2.2)] [] LY88 h R := by
  refine loop_B (fun s => Jpu_mayBecome_L9 v1 h s.1 s.2.1 s.2.2) (fun s : Int32 × Int32 × Int32 => Bg L xs 82 9 [(0, .ref 18), (1, .int v1), (2, .int s.1), (3, .int s.2.1), (4, .int s.2.2)] [] LY88 h R) C (fun s o e => ?_) n s o e hC
  intro hK
  refine BJpu_mayBecome_L9_s L xs v1 h R s.1 s.2.1 s.2.2 o (fun s q => by subst q; exact hK) (fun t q => by subst q; exact hE t hK) e
set_option maxRecDepth 100000 in
theorem BJpu_mayBecome (L : Nat) (xs : Nat → Int32) (v1 : Int32) (h : Hp) (o : Int32) (e : Jpu_mayBecome v1 h = some o) : Bg L xs 82 0 [(0, .ref 18), (1, .int v1)] [] LY88 h ([.int o], LY88, h) := by
  obtain ⟨R, hR⟩ : ∃ R : List Value × Lay × Hp, R = ([.int o], LY88, h) := ⟨_, rfl⟩
  rw [← hR]
  refine seg_Bg (pc' := 9) (lv' := [(0, .ref 18), (1, .int v1), (2, .int 0), (3, .int 255), (4, .int 0)]) (st' := []) (lay' := LY88) (h' := h) 6 rfl ?_
  obtain ⟨t1o, et1o, e⟩ := bd_s e
  refine BJpu_mayBecome_L9 L xs v1 h R (fun (t1 : Int32 × Int32 × Int32) => (if (v1 &&& (t1.1 ^^^ (-1 : Int32))) = 0 then if (t1.2.1 &&& (v1 ^^^ (-1 : Int32))) = 0 then some 1 else some 0 else some 0) = some o) (fun t1 e => ?_) 1000000 (0, 255, 0) _ et1o e
  refine seg_Bg (pc' := (if (v1 &&& (t1.1 ^^^ (-1 : Int32))) = 0 then 49 else 61)) (lv' := [(0, .ref 18), (1, .int v1), (2, .int t1.1), (3, .int t1.2.1), (4, .int t1.2.2)]) (st' := []) (lay' := LY88) (h' := h) 6 rfl ?_
  refine pc_ite e (fun e => ?_) (fun e => ?_)
  · refine seg_Bg (pc' := (if (t1.2.1 &&& (v1 ^^^ (-1 : Int32))) = 0 then 57 else 61)) (lv' := [(0, .ref 18), (1, .int v1), (2, .int t1.1), (3, .int t1.2.1), (4, .int t1.2.2)]) (st' := []) (lay' := LY88) (h' := h) 6 rfl ?_
    refine pc_ite e (fun e => ?_) (fun e => ?_)
    · refine seg_Bg (pc' := 62) (lv' := [(0, .ref 18), (1, .int v1), (2, .int t1.1), (3, .int t1.2.1), (4, .int t1.2.2)]) (st' := [.int 1]) (lay' := LY88) (h' := h) 2 rfl ?_
      rw [hR, ← Option.some.inj e]; exact ret_Bg rfl
    · refine seg_Bg (pc' := 62) (lv' := [(0, .ref 18), (1, .int v1), (2, .int t1.1), (3, .int t1.2.1), (4, .int t1.2.2)]) (st' := [.int 0]) (lay' := LY88) (h' := h) 1 rfl ?_
      rw [hR, ← Option.some.inj e]; exact ret_Bg rfl
  · refine seg_Bg (pc' := 62) (lv' := [(0, .ref 18), (1, .int v1), (2, .int t1.1), (3, .int t1.2.1), (4, .int t1.2.2)]) (st' := [.int 0]) (lay' := LY88) (h' := h) 1 rfl ?_
    rw [hR, ← Option.some.inj e]; exact ret_Bg rfl

set_option maxRecDepth 100000 in
theorem BJcs_aim_L7_s (L : Nat) (xs : Nat → Int32) (R : List Value × Lay × Hp) (v1 : Int32) (h : Hp) (o : ((Int32 × Hp) ⊕ (Int32 × Hp))) (hH : ∀ s : Int32 × Hp, o = .inl s → Bg L xs 23 7 [(0, .ref 10), (1, .int s.1)] [] LY88 s.2 R) (hE : ∀ t : Int32 × Hp, o = .inr t → Bg L xs 23 82 [(0, .ref 10), (1, .int t.1)] [] LY88 t.2 R) (e : Jcs_aim_L7 v1 h = some o) : Bg L xs 23 7 [(0, .ref 10), (1, .int v1)] [] LY88 h R := by
  refine seg_Bg (pc' := (if v1 < (h 10 10) then 15 else 82)) (lv' := [(0, .ref 10), (1, .int v1)]) (st' := []) (lay' := LY88) (h' := h) 4 rfl ?_
  refine pc_ite e (fun e => ?_) (fun e => ?_)
  · refine seg_Bg (pc' := (if v1 < 256 then 22 else 82)) (lv' := [(0, .ref 10), (1, .int v1)]) (st' := []) (lay' := LY88) (h' := h) 3 rfl ?_
    refine pc_ite e (fun e => ?_) (fun e => ?_)
    · refine seg_Bg (pc' := 28) (lv' := [(0, .ref 10), (1, .int v1)]) (st' := [.int v1, .ref 15, .ref 10]) (lay' := LY88) (h' := h) 4 rfl ?_
      refine gd_Bg (pc' := 29) (lv' := [(0, .ref 10), (1, .int v1)]) (st' := [.int (h 15 (Int32.toNatClampNeg v1)), .ref 10]) (lay' := LY88) (h' := h) (g := ibB v1 256) rfl e fun e => ?_
      refine call_Bg (a := 35) (la := [(0, .ref 10), (1, .int (h 15 (Int32.toNatClampNeg v1)))]) (np := 32) (lv' := [(0, .ref 10), (1, .int v1)]) (rest := []) (res := fun r => ([.int r], LY88, h)) rfl e (fun r e => BJcs_isMade L xs (h 15 (Int32.toNatClampNeg v1)) h r e) (fun c2 e => ?_)
      show Bg L xs 23 32 [(0, .ref 10), (1, .int v1)] [.int c2] LY88 h R
      refine seg_Bg (pc' := (if c2 = 0 then 35 else 76)) (lv' := [(0, .ref 10), (1, .int v1)]) (st' := []) (lay' := LY88) (h' := h) 1 rfl ?_
      refine pc_ite e (fun e => ?_) (fun e => ?_)
      · refine seg_Bg (pc' := 44) (lv' := [(0, .ref 10), (1, .int v1)]) (st' := [.int v1, .ref 15, .ref 18]) (lay' := LY88) (h' := h) 5 rfl ?_
        refine gd_Bg (pc' := 45) (lv' := [(0, .ref 10), (1, .int v1)]) (st' := [.int (h 15 (Int32.toNatClampNeg v1)), .ref 18]) (lay' := LY88) (h' := h) (g := ibB v1 256) rfl e fun e => ?_
        refine call_Bg (a := 82) (la := [(0, .ref 18), (1, .int (h 15 (Int32.toNatClampNeg v1)))]) (np := 48) (lv' := [(0, .ref 10), (1, .int v1)]) (rest := []) (res := fun r => ([.int r], LY88, h)) rfl e (fun r e => BJpu_mayBecome L xs (h 15 (Int32.toNatClampNeg v1)) h r e) (fun c3 e => ?_)
        show Bg L xs 23 48 [(0, .ref 10), (1, .int v1)] [.int c3] LY88 h R
        refine seg_Bg (pc' := (if c3 = 0 then 76 else 51)) (lv' := [(0, .ref 10), (1, .int v1)]) (st' := []) (lay' := LY88) (h' := h) 1 rfl ?_
        refine pc_ite e (fun e => ?_) (fun e => ?_)
        · refine seg_Bg (pc' := 7) (lv' := [(0, .ref 10), (1, .int (v1 + 1))]) (st' := []) (lay' := LY88) (h' := h) 2 rfl ?_
          exact hH (v1 + 1, h) (Option.some.inj e).symm
        · refine seg_Bg (pc' := 64) (lv' := [(0, .ref 10), (1, .int v1)]) (st' := [.int v1, .ref 15, .int (h 10 11), .ref 16]) (lay' := LY88) (h' := h) 7 rfl ?_
          refine gd_Bg (pc' := 65) (lv' := [(0, .ref 10), (1, .int v1)]) (st' := [.int (h 15 (Int32.toNatClampNeg v1)), .int (h 10 11), .ref 16]) (lay' := LY88) (h' := h) (g := ibB v1 256) rfl e fun e => ?_
          refine gp_Bg (pc' := 66) (lv' := [(0, .ref 10), (1, .int v1)]) (st' := []) (lay' := LY88) (x := hset h 16 (Int32.toNatClampNeg (h 10 11)) (h 15 (Int32.toNatClampNeg v1))) (g := ibB (h 10 11) 256) rfl e fun h4 e => ?_
          refine seg_Bg (pc' := 73) (lv' := [(0, .ref 10), (1, .int v1)]) (st' := [.int ((h4 10 11) + (1 : Int32)), .ref 10]) (lay' := LY88) (h' := h4) 5 rfl ?_
          refine put_Bg (pc' := 76) (lv' := [(0, .ref 10), (1, .int v1)]) (st' := []) (lay' := LY88) (x := hset h4 10 11 ((h4 10 11) + (1 : Int32))) rfl e fun h5 e => ?_
          refine seg_Bg (pc' := 7) (lv' := [(0, .ref 10), (1, .int (v1 + 1))]) (st' := []) (lay' := LY88) (h' := h5) 2 rfl ?_
          exact hH (v1 + 1, h5) (Option.some.inj e).symm
      · refine seg_Bg (pc' := 7) (lv' := [(0, .ref 10), (1, .int (v1 + 1))]) (st' := []) (lay' := LY88) (h' := h) 2 rfl ?_
        exact hH (v1 + 1, h) (Option.some.inj e).symm
    · exact hE (v1, h) (Option.some.inj e).symm
  · exact hE (v1, h) (Option.some.inj e).symm
theorem BJcs_aim_L7 (L : Nat) (xs : Nat → Int32) (R : List Value × Lay × Hp) (C : (Int32 × Hp) → Prop) (hE : ∀ t : Int32 × Hp, C t → Bg L xs 23 82 [(0, .ref 10), (1, .int t.1)] [] LY88 t.2 R) (n : Nat) (s : Int32 × Hp) (o : (Int32 × Hp)) (e : loopN n (fun s => Jcs_aim_L7 s.1 s.2) s = some o) (hC : C o) : Bg L xs 23 7 [(0, .ref 10), (1, .int s.1)] [] LY88 s.2 R := by
  refine loop_B (fun s => Jcs_aim_L7 s.1 s.2) (fun s : Int32 × Hp => Bg L xs 23 7 [(0, .ref 10), (1, .int s.1)] [] LY88 s.2 R) C (fun s o e => ?_) n s o e hC
  intro hK
  refine BJcs_aim_L7_s L xs R s.1 s.2 o (fun s q => by subst q; exact hK) (fun t q => by subst q; exact hE t hK) e
set_option maxRecDepth 100000 in
theorem BJcs_aim (L : Nat) (xs : Nat → Int32) (h : Hp) (o : Hp) (e : Jcs_aim h = some o) : Bg L xs 23 0 [(0, .ref 10)] [] LY88 h ([], LY88, o) := by
  obtain ⟨R, hR⟩ : ∃ R : List Value × Lay × Hp, R = ([], LY88, o) := ⟨_, rfl⟩
  rw [← hR]
  refine seg_Bg (pc' := 2) (lv' := [(0, .ref 10)]) (st' := [.int 0, .ref 10]) (lay' := LY88) (h' := h) 2 rfl ?_
  refine put_Bg (pc' := 5) (lv' := [(0, .ref 10)]) (st' := []) (lay' := LY88) (x := hset h 10 11 0) rfl e fun h1 e => ?_
  refine seg_Bg (pc' := 7) (lv' := [(0, .ref 10), (1, .int 0)]) (st' := []) (lay' := LY88) (h' := h1) 2 rfl ?_
  obtain ⟨t6o, et6o, e⟩ := bd_s e
  refine BJcs_aim_L7 L xs R (fun (t6 : Int32 × Hp) => (some t6.2) = some o) (fun t6 e => ?_) 1000000 (0, h1) _ et6o e
  rw [hR, ← Option.some.inj e]; exact ret_Bg rfl

set_option maxRecDepth 100000 in
theorem BJpu_second (L : Nat) (xs : Nat → Int32) (v1 : Int32) (h : Hp) (o : Hp) (e : Jpu_second v1 h = some o) : Bg L xs 83 0 [(0, .ref 18), (1, .int v1)] [] LY88 h ([], LY88, o) := by
  obtain ⟨R, hR⟩ : ∃ R : List Value × Lay × Hp, R = ([], LY88, o) := ⟨_, rfl⟩
  rw [← hR]
  refine seg_Bg (pc' := 14) (lv' := [(0, .ref 18), (1, .int v1)]) (st' := [.int (h 19 0), .int (h 19 2), .int v1, .ref 18]) (lay' := LY88) (h' := h) 10 rfl ?_
  refine call_Bg (a := 87) (la := [(0, .int v1), (1, .int (h 19 2)), (2, .int (h 19 0))]) (np := 17) (lv' := [(0, .ref 18), (1, .int v1)]) (rest := [.ref 18]) (res := fun r => ([.int r], LY88, h)) rfl e (fun r e => BJpu_choose L xs v1 (h 19 2) (h 19 0) LY88 h r e) (fun c1 e => ?_)
  show Bg L xs 83 17 [(0, .ref 18), (1, .int v1)] [.int c1, .ref 18] LY88 h R
  refine put_Bg (pc' := 20) (lv' := [(0, .ref 18), (1, .int v1)]) (st' := []) (lay' := LY88) (x := hset h 18 4 c1) rfl e fun h2 e => ?_
  refine seg_Bg (pc' := 38) (lv' := [(0, .ref 18), (1, .int v1)]) (st' := [.int (h2 19 1), .int (h2 19 3), .int v1, .int (h2 18 4), .ref 18]) (lay' := LY88) (h' := h2) 12 rfl ?_
  refine call_Bg (a := 87) (la := [(0, .int v1), (1, .int (h2 19 3)), (2, .int (h2 19 1))]) (np := 41) (lv' := [(0, .ref 18), (1, .int v1)]) (rest := [.int (h2 18 4), .ref 18]) (res := fun r => ([.int r], LY88, h2)) rfl e (fun r e => BJpu_choose L xs v1 (h2 19 3) (h2 19 1) LY88 h2 r e) (fun c3 e => ?_)
  show Bg L xs 83 41 [(0, .ref 18), (1, .int v1)] [.int c3, .int (h2 18 4), .ref 18] LY88 h2 R
  refine seg_Bg (pc' := 42) (lv' := [(0, .ref 18), (1, .int v1)]) (st' := [.int ((h2 18 4) ^^^ c3), .ref 18]) (lay' := LY88) (h' := h2) 1 rfl ?_
  refine put_Bg (pc' := 45) (lv' := [(0, .ref 18), (1, .int v1)]) (st' := []) (lay' := LY88) (x := hset h2 18 5 ((h2 18 4) ^^^ c3)) rfl e fun h4 e => ?_
  rw [hR, ← Option.some.inj e]; exact ret_Bg rfl

set_option maxRecDepth 100000 in
theorem BJpu_canBecome (L : Nat) (xs : Nat → Int32) (v1 : Int32) (h : Hp) (o : Int32) (e : Jpu_canBecome v1 h = some o) : Bg L xs 84 0 [(0, .ref 18), (1, .int v1)] [] LY88 h ([.int o], LY88, h) := by
  obtain ⟨R, hR⟩ : ∃ R : List Value × Lay × Hp, R = ([.int o], LY88, h) := ⟨_, rfl⟩
  rw [← hR]
  refine seg_Bg (pc' := (if ((v1 ^^^ (h 18 4)) &&& ((h 18 5) ^^^ (-1 : Int32))) = 0 then 16 else 20)) (lv' := [(0, .ref 18), (1, .int v1)]) (st' := []) (lay' := LY88) (h' := h) 10 rfl ?_
  refine pc_ite e (fun e => ?_) (fun e => ?_)
  · refine seg_Bg (pc' := 21) (lv' := [(0, .ref 18), (1, .int v1)]) (st' := [.int 1]) (lay' := LY88) (h' := h) 2 rfl ?_
    rw [hR, ← Option.some.inj e]; exact ret_Bg rfl
  · refine seg_Bg (pc' := 21) (lv' := [(0, .ref 18), (1, .int v1)]) (st' := [.int 0]) (lay' := LY88) (h' := h) 1 rfl ?_
    rw [hR, ← Option.some.inj e]; exact ret_Bg rfl

set_option maxRecDepth 100000 in
theorem BJpu_third (L : Nat) (xs : Nat → Int32) (v1 : Int32) (h : Hp) (o : Int32) (e : Jpu_third v1 h = some o) : Bg L xs 85 0 [(0, .ref 18), (1, .int v1)] [] LY88 h ([.int o], LY88, h) := by
  obtain ⟨R, hR⟩ : ∃ R : List Value × Lay × Hp, R = ([.int o], LY88, h) := ⟨_, rfl⟩
  rw [← hR]
  refine seg_Bg (pc' := 15) (lv' := [(0, .ref 18), (1, .int v1)]) (st' := [.int (((h 18 4) ^^^ ((h 18 5) &&& v1)) &&& (255 : Int32))]) (lay' := LY88) (h' := h) 9 rfl ?_
  rw [hR, ← Option.some.inj e]; exact ret_Bg rfl

set_option maxRecDepth 100000 in
theorem BJcs_someThird_L7_s (L : Nat) (xs : Nat → Int32) (v1 v2 v3 : Int32) (h : Hp) (R : List Value × Lay × Hp) (v4 : Int32) (o : ((Int32) ⊕ ((Int32) ⊕ (Int32)))) (hH : ∀ s : Int32, o = .inl s → Bg L xs 26 7 [(0, .ref 10), (1, .int v1), (2, .int v2), (3, .int v3), (4, .int s)] [] LY88 h R) (hE : ∀ t : Int32, o = .inr (.inl t) → Bg L xs 26 47 [(0, .ref 10), (1, .int v1), (2, .int v2), (3, .int v3), (4, .int t)] [] LY88 h R) (hR : ∀ r : Int32, o = .inr (.inr r) → R = ([.int r], LY88, h)) (e : Jcs_someThird_L7 v1 v2 v3 h v4 = some o) : Bg L xs 26 7 [(0, .ref 10), (1, .int v1), (2, .int v2), (3, .int v3), (4, .int v4)] [] LY88 h R := by
  refine seg_Bg (pc' := (if v4 < v3 then 13 else 47)) (lv' := [(0, .ref 10), (1, .int v1), (2, .int v2), (3, .int v3), (4, .int v4)]) (st' := []) (lay' := LY88) (h' := h) 3 rfl ?_
  refine pc_ite e (fun e => ?_) (fun e => ?_)
  · refine seg_Bg (pc' := (if v4 < 256 then 21 else 47)) (lv' := [(0, .ref 10), (1, .int v1), (2, .int v2), (3, .int v3), (4, .int v4)]) (st' := []) (lay' := LY88) (h' := h) 3 rfl ?_
    refine pc_ite e (fun e => ?_) (fun e => ?_)
    · refine seg_Bg (pc' := 31) (lv' := [(0, .ref 10), (1, .int v1), (2, .int v2), (3, .int v3), (4, .int v4)]) (st' := [.int v4, .ref 13, .ref 18]) (lay' := LY88) (h' := h) 5 rfl ?_
      refine gd_Bg (pc' := 32) (lv' := [(0, .ref 10), (1, .int v1), (2, .int v2), (3, .int v3), (4, .int v4)]) (st' := [.int (h 13 (Int32.toNatClampNeg v4)), .ref 18]) (lay' := LY88) (h' := h) (g := ibB v4 256) rfl e fun e => ?_
      refine call_Bg (a := 85) (la := [(0, .ref 18), (1, .int (h 13 (Int32.toNatClampNeg v4)))]) (np := 35) (lv' := [(0, .ref 10), (1, .int v1), (2, .int v2), (3, .int v3), (4, .int v4)]) (rest := []) (res := fun r => ([.int r], LY88, h)) rfl e (fun r e => BJpu_third L xs (h 13 (Int32.toNatClampNeg v4)) h r e) (fun c1 e => ?_)
      show Bg L xs 26 35 [(0, .ref 10), (1, .int v1), (2, .int v2), (3, .int v3), (4, .int v4)] [.int c1] LY88 h R
      refine seg_Bg (pc' := (if c1 = v1 then 39 else 41)) (lv' := [(0, .ref 10), (1, .int v1), (2, .int v2), (3, .int v3), (4, .int v4)]) (st' := []) (lay' := LY88) (h' := h) 2 rfl ?_
      refine pc_ite e (fun e => ?_) (fun e => ?_)
      · refine seg_Bg (pc' := 40) (lv' := [(0, .ref 10), (1, .int v1), (2, .int v2), (3, .int v3), (4, .int v4)]) (st' := [.int 1]) (lay' := LY88) (h' := h) 1 rfl ?_
        rw [hR 1 (Option.some.inj e).symm]; exact ret_Bg rfl
      · refine seg_Bg (pc' := 7) (lv' := [(0, .ref 10), (1, .int v1), (2, .int v2), (3, .int v3), (4, .int (v4 + 1))]) (st' := []) (lay' := LY88) (h' := h) 2 rfl ?_
        exact hH (v4 + 1) (Option.some.inj e).symm
    · exact hE v4 (Option.some.inj e).symm
  · exact hE v4 (Option.some.inj e).symm
theorem BJcs_someThird_L7 (L : Nat) (xs : Nat → Int32) (v1 v2 v3 : Int32) (h : Hp) (R : List Value × Lay × Hp) (C : ((Int32) ⊕ (Int32)) → Prop) (hE : ∀ t : Int32, C (.inl t) → Bg L xs 26 47 [(0, .ref 10), (1, .int v1), (2, .int v2), (3, .int v3), (4, .int t)] [] LY88 h R) (hR : ∀ r : Int32, C (.inr r) → R = ([.int r], LY88, h)) (n : Nat) (s : Int32) (o : ((Int32) ⊕ (Int32))) (e : loopN n (fun s => Jcs_someThird_L7 v1 v2 v3 h s) s = some o) (hC : C o) : Bg L xs 26 7 [(0, .ref 10), (1, .int v1), (2, .int v2), (3, .int v3), (4, .int s)] [] LY88 h R := by
  refine loop_B (fun s => Jcs_someThird_L7 v1 v2 v3 h s) (fun s : Int32 => Bg L xs 26 7 [(0, .ref 10), (1, .int v1), (2, .int v2), (3, .int v3), (4, .int s)] [] LY88 h R) C (fun s o e => ?_) n s o e hC
  intro hK
  refine BJcs_someThird_L7_s L xs v1 v2 v3 h R s o (fun s q => by subst q; exact hK) (fun t q => by subst q; exact hE t hK) (fun r q => by subst q; exact hR r hK) e
set_option maxRecDepth 100000 in
theorem BJcs_someThird (L : Nat) (xs : Nat → Int32) (v1 : Int32) (v2 : Int32) (v3 : Int32) (h : Hp) (o : Int32) (e : Jcs_someThird v1 v2 v3 h = some o) : Bg L xs 26 0 [(0, .ref 10), (1, .int v1), (2, .int v2), (3, .int v3)] [] LY88 h ([.int o], LY88, h) := by
  obtain ⟨R, hR⟩ : ∃ R : List Value × Lay × Hp, R = ([.int o], LY88, h) := ⟨_, rfl⟩
  rw [← hR]
  refine seg_Bg (pc' := 7) (lv' := [(0, .ref 10), (1, .int v1), (2, .int v2), (3, .int v3), (4, .int (if v2 < 0 then 0 else v2))]) (st' := []) (lay' := LY88) (h' := h) 4 rfl ?_
  obtain ⟨t2o, et2o, e⟩ := bd_s e
  refine BJcs_someThird_L7 L xs v1 v2 v3 h R (fun (t2x : (Int32) ⊕ (Int32)) => (sm t2x (fun t2 => some 0) (fun r2 => some r2)) = some o) (fun t2 e => ?_) (fun r2 e => ?_) 1000000 (if v2 < 0 then 0 else v2) _ et2o e
  · refine seg_Bg (pc' := 48) (lv' := [(0, .ref 10), (1, .int v1), (2, .int v2), (3, .int v3), (4, .int t2)]) (st' := [.int 0]) (lay' := LY88) (h' := h) 1 rfl ?_
    rw [hR, ← Option.some.inj e]; exact ret_Bg rfl
  · rw [hR]; exact congrArg (fun r => (([.int r], LY88, h) : List Value × Lay × Hp)) (Option.some.inj e).symm

set_option maxRecDepth 100000 in
theorem BJcs_make (L : Nat) (xs : Nat → Int32) (v1 : Int32) (h : Hp) (o : Hp) (e : Jcs_make v1 h = some o) : Bg L xs 27 0 [(0, .ref 10), (1, .int v1)] [] LY88 h ([], LY88, o) := by
  obtain ⟨R, hR⟩ : ∃ R : List Value × Lay × Hp, R = ([], LY88, o) := ⟨_, rfl⟩
  rw [← hR]
  refine seg_Bg (pc' := 1) (lv' := [(0, .ref 10), (1, .int v1)]) (st' := [.int v1]) (lay' := LY88) (h' := h) 1 rfl ?_
  refine call_Bg (a := 158) (la := [(0, .int v1)]) (np := 4) (lv' := [(0, .ref 10), (1, .int v1)]) (rest := []) (res := fun r => ([.int r], LY88, h)) rfl e (fun r e => BJyn_isCode L xs v1 LY88 h r e) (fun c1 e => ?_)
  show Bg L xs 27 4 [(0, .ref 10), (1, .int v1)] [.int c1] LY88 h R
  refine seg_Bg (pc' := (if c1 = 0 then 37 else 7)) (lv' := [(0, .ref 10), (1, .int v1)]) (st' := []) (lay' := LY88) (h' := h) 1 rfl ?_
  refine pc_ite e (fun e => ?_) (fun e => ?_)
  · rw [hR, ← Option.some.inj e]; exact ret_Bg rfl
  · refine seg_Bg (pc' := 12) (lv' := [(0, .ref 10), (1, .int v1)]) (st' := [.int v1, .ref 11]) (lay' := LY88) (h' := h) 3 rfl ?_
    refine gd_Bg (pc' := 13) (lv' := [(0, .ref 10), (1, .int v1)]) (st' := [.int (h 11 (Int32.toNatClampNeg v1))]) (lay' := LY88) (h' := h) (g := ibB v1 256) rfl e fun e => ?_
    refine seg_Bg (pc' := (if (h 11 (Int32.toNatClampNeg v1)) = (-1) then 17 else 37)) (lv' := [(0, .ref 10), (1, .int v1)]) (st' := []) (lay' := LY88) (h' := h) 2 rfl ?_
    refine pc_ite e (fun e => ?_) (fun e => ?_)
    · refine seg_Bg (pc' := 26) (lv' := [(0, .ref 10), (1, .int v1)]) (st' := [.int (h 10 12), .int v1, .ref 11]) (lay' := LY88) (h' := h) 5 rfl ?_
      refine gp_Bg (pc' := 27) (lv' := [(0, .ref 10), (1, .int v1)]) (st' := []) (lay' := LY88) (x := hset h 11 (Int32.toNatClampNeg v1) (h 10 12)) (g := ibB v1 256) rfl e fun h2 e => ?_
      refine seg_Bg (pc' := 36) (lv' := [(0, .ref 10), (1, .int v1)]) (st' := [.int (h2 10 14), .int v1, .ref 12]) (lay' := LY88) (h' := h2) 5 rfl ?_
      refine gp_Bg (pc' := 37) (lv' := [(0, .ref 10), (1, .int v1)]) (st' := []) (lay' := LY88) (x := hset h2 12 (Int32.toNatClampNeg v1) (h2 10 14)) (g := ibB v1 256) rfl e fun h3 e => ?_
      rw [hR, ← Option.some.inj e]; exact ret_Bg rfl
    · rw [hR, ← Option.some.inj e]; exact ret_Bg rfl

set_option maxRecDepth 100000 in
theorem BJcs_tryThirds_L12_s (L : Nat) (xs : Nat → Int32) (v1 v2 : Int32) (R : List Value × Lay × Hp) (v3 : Int32) (h : Hp) (o : ((Int32 × Hp) ⊕ (Int32 × Hp))) (hH : ∀ s : Int32 × Hp, o = .inl s → Bg L xs 25 12 [(0, .ref 10), (1, .int v1), (2, .int v2), (3, .int s.1)] [] LY88 s.2 R) (hE : ∀ t : Int32 × Hp, o = .inr t → Bg L xs 25 87 [(0, .ref 10), (1, .int v1), (2, .int v2), (3, .int t.1)] [] LY88 t.2 R) (e : Jcs_tryThirds_L12 v1 v2 v3 h = some o) : Bg L xs 25 12 [(0, .ref 10), (1, .int v1), (2, .int v2), (3, .int v3)] [] LY88 h R := by
  refine seg_Bg (pc' := (if v3 < (h 10 11) then 20 else 87)) (lv' := [(0, .ref 10), (1, .int v1), (2, .int v2), (3, .int v3)]) (st' := []) (lay' := LY88) (h' := h) 4 rfl ?_
  refine pc_ite e (fun e => ?_) (fun e => ?_)
  · refine seg_Bg (pc' := (if v3 < 256 then 27 else 87)) (lv' := [(0, .ref 10), (1, .int v1), (2, .int v2), (3, .int v3)]) (st' := []) (lay' := LY88) (h' := h) 3 rfl ?_
    refine pc_ite e (fun e => ?_) (fun e => ?_)
    · refine seg_Bg (pc' := 36) (lv' := [(0, .ref 10), (1, .int v1), (2, .int v2), (3, .int v3)]) (st' := [.int v3, .ref 16, .ref 18]) (lay' := LY88) (h' := h) 5 rfl ?_
      refine gd_Bg (pc' := 37) (lv' := [(0, .ref 10), (1, .int v1), (2, .int v2), (3, .int v3)]) (st' := [.int (h 16 (Int32.toNatClampNeg v3)), .ref 18]) (lay' := LY88) (h' := h) (g := ibB v3 256) rfl e fun e => ?_
      refine call_Bg (a := 84) (la := [(0, .ref 18), (1, .int (h 16 (Int32.toNatClampNeg v3)))]) (np := 40) (lv' := [(0, .ref 10), (1, .int v1), (2, .int v2), (3, .int v3)]) (rest := []) (res := fun r => ([.int r], LY88, h)) rfl e (fun r e => BJpu_canBecome L xs (h 16 (Int32.toNatClampNeg v3)) h r e) (fun c1 e => ?_)
      show Bg L xs 25 40 [(0, .ref 10), (1, .int v1), (2, .int v2), (3, .int v3)] [.int c1] LY88 h R
      refine seg_Bg (pc' := (if c1 = 0 then 81 else 43)) (lv' := [(0, .ref 10), (1, .int v1), (2, .int v2), (3, .int v3)]) (st' := []) (lay' := LY88) (h' := h) 1 rfl ?_
      refine pc_ite e (fun e => ?_) (fun e => ?_)
      · refine seg_Bg (pc' := 12) (lv' := [(0, .ref 10), (1, .int v1), (2, .int v2), (3, .int (v3 + 1))]) (st' := []) (lay' := LY88) (h' := h) 2 rfl ?_
        exact hH (v3 + 1, h) (Option.some.inj e).symm
      · refine seg_Bg (pc' := 49) (lv' := [(0, .ref 10), (1, .int v1), (2, .int v2), (3, .int v3)]) (st' := [.int v3, .ref 16, .ref 10]) (lay' := LY88) (h' := h) 4 rfl ?_
        refine gd_Bg (pc' := 50) (lv' := [(0, .ref 10), (1, .int v1), (2, .int v2), (3, .int v3)]) (st' := [.int (h 16 (Int32.toNatClampNeg v3)), .ref 10]) (lay' := LY88) (h' := h) (g := ibB v3 256) rfl e fun e => ?_
        refine call_Bg (a := 35) (la := [(0, .ref 10), (1, .int (h 16 (Int32.toNatClampNeg v3)))]) (np := 53) (lv' := [(0, .ref 10), (1, .int v1), (2, .int v2), (3, .int v3)]) (rest := []) (res := fun r => ([.int r], LY88, h)) rfl e (fun r e => BJcs_isMade L xs (h 16 (Int32.toNatClampNeg v3)) h r e) (fun c2 e => ?_)
        show Bg L xs 25 53 [(0, .ref 10), (1, .int v1), (2, .int v2), (3, .int v3)] [.int c2] LY88 h R
        refine seg_Bg (pc' := (if c2 = 0 then 56 else 81)) (lv' := [(0, .ref 10), (1, .int v1), (2, .int v2), (3, .int v3)]) (st' := []) (lay' := LY88) (h' := h) 1 rfl ?_
        refine pc_ite e (fun e => ?_) (fun e => ?_)
        · refine seg_Bg (pc' := 62) (lv' := [(0, .ref 10), (1, .int v1), (2, .int v2), (3, .int v3)]) (st' := [.int v3, .ref 16, .ref 10]) (lay' := LY88) (h' := h) 4 rfl ?_
          refine gd_Bg (pc' := 63) (lv' := [(0, .ref 10), (1, .int v1), (2, .int v2), (3, .int v3)]) (st' := [.int (h 16 (Int32.toNatClampNeg v3)), .ref 10]) (lay' := LY88) (h' := h) (g := ibB v3 256) rfl e fun e => ?_
          refine seg_Bg (pc' := 65) (lv' := [(0, .ref 10), (1, .int v1), (2, .int v2), (3, .int v3)]) (st' := [.int v2, .int v1, .int (h 16 (Int32.toNatClampNeg v3)), .ref 10]) (lay' := LY88) (h' := h) 2 rfl ?_
          refine call_Bg (a := 26) (la := [(0, .ref 10), (1, .int (h 16 (Int32.toNatClampNeg v3))), (2, .int v1), (3, .int v2)]) (np := 68) (lv' := [(0, .ref 10), (1, .int v1), (2, .int v2), (3, .int v3)]) (rest := []) (res := fun r => ([.int r], LY88, h)) rfl e (fun r e => BJcs_someThird L xs (h 16 (Int32.toNatClampNeg v3)) v1 v2 h r e) (fun c3 e => ?_)
          show Bg L xs 25 68 [(0, .ref 10), (1, .int v1), (2, .int v2), (3, .int v3)] [.int c3] LY88 h R
          refine seg_Bg (pc' := (if c3 = 0 then 81 else 71)) (lv' := [(0, .ref 10), (1, .int v1), (2, .int v2), (3, .int v3)]) (st' := []) (lay' := LY88) (h' := h) 1 rfl ?_
          refine pc_ite e (fun e => ?_) (fun e => ?_)
          · refine seg_Bg (pc' := 12) (lv' := [(0, .ref 10), (1, .int v1), (2, .int v2), (3, .int (v3 + 1))]) (st' := []) (lay' := LY88) (h' := h) 2 rfl ?_
            exact hH (v3 + 1, h) (Option.some.inj e).symm
          · refine seg_Bg (pc' := 77) (lv' := [(0, .ref 10), (1, .int v1), (2, .int v2), (3, .int v3)]) (st' := [.int v3, .ref 16, .ref 10]) (lay' := LY88) (h' := h) 4 rfl ?_
            refine gd_Bg (pc' := 78) (lv' := [(0, .ref 10), (1, .int v1), (2, .int v2), (3, .int v3)]) (st' := [.int (h 16 (Int32.toNatClampNeg v3)), .ref 10]) (lay' := LY88) (h' := h) (g := ibB v3 256) rfl e fun e => ?_
            refine call_Bg (a := 27) (la := [(0, .ref 10), (1, .int (h 16 (Int32.toNatClampNeg v3)))]) (np := 81) (lv' := [(0, .ref 10), (1, .int v1), (2, .int v2), (3, .int v3)]) (rest := []) (res := fun r => ([], LY88, r)) rfl e (fun r e => BJcs_make L xs (h 16 (Int32.toNatClampNeg v3)) h r e) (fun c4 e => ?_)
            show Bg L xs 25 81 [(0, .ref 10), (1, .int v1), (2, .int v2), (3, .int v3)] [] LY88 c4 R
            refine seg_Bg (pc' := 12) (lv' := [(0, .ref 10), (1, .int v1), (2, .int v2), (3, .int (v3 + 1))]) (st' := []) (lay' := LY88) (h' := c4) 2 rfl ?_
            exact hH (v3 + 1, c4) (Option.some.inj e).symm
        · refine seg_Bg (pc' := 12) (lv' := [(0, .ref 10), (1, .int v1), (2, .int v2), (3, .int (v3 + 1))]) (st' := []) (lay' := LY88) (h' := h) 2 rfl ?_
          exact hH (v3 + 1, h) (Option.some.inj e).symm
    · exact hE (v3, h) (Option.some.inj e).symm
  · exact hE (v3, h) (Option.some.inj e).symm
theorem BJcs_tryThirds_L12 (L : Nat) (xs : Nat → Int32) (v1 v2 : Int32) (R : List Value × Lay × Hp) (C : (Int32 × Hp) → Prop) (hE : ∀ t : Int32 × Hp, C t → Bg L xs 25 87 [(0, .ref 10), (1, .int v1), (2, .int v2), (3, .int t.1)] [] LY88 t.2 R) (n : Nat) (s : Int32 × Hp) (o : (Int32 × Hp)) (e : loopN n (fun s => Jcs_tryThirds_L12 v1 v2 s.1 s.2) s = some o) (hC : C o) : Bg L xs 25 12 [(0, .ref 10), (1, .int v1), (2, .int v2), (3, .int s.1)] [] LY88 s.2 R := by
  refine loop_B (fun s => Jcs_tryThirds_L12 v1 v2 s.1 s.2) (fun s : Int32 × Hp => Bg L xs 25 12 [(0, .ref 10), (1, .int v1), (2, .int v2), (3, .int s.1)] [] LY88 s.2 R) C (fun s o e => ?_) n s o e hC
  intro hK
  refine BJcs_tryThirds_L12_s L xs v1 v2 R s.1 s.2 o (fun s q => by subst q; exact hK) (fun t q => by subst q; exact hE t hK) e
set_option maxRecDepth 100000 in
theorem BJcs_tryThirds_L94_s (L : Nat) (xs : Nat → Int32) (v1 v2 : Int32) (R : List Value × Lay × Hp) (v3 : Int32) (h : Hp) (o : ((Int32 × Hp) ⊕ (Int32 × Hp))) (hH : ∀ s : Int32 × Hp, o = .inl s → Bg L xs 25 94 [(0, .ref 10), (1, .int v1), (2, .int v2), (3, .int s.1)] [] LY88 s.2 R) (hE : ∀ t : Int32 × Hp, o = .inr t → Bg L xs 25 129 [(0, .ref 10), (1, .int v1), (2, .int v2), (3, .int t.1)] [] LY88 t.2 R) (e : Jcs_tryThirds_L94 v1 v2 v3 h = some o) : Bg L xs 25 94 [(0, .ref 10), (1, .int v1), (2, .int v2), (3, .int v3)] [] LY88 h R := by
  refine seg_Bg (pc' := (if v3 < v2 then 99 else 129)) (lv' := [(0, .ref 10), (1, .int v1), (2, .int v2), (3, .int v3)]) (st' := []) (lay' := LY88) (h' := h) 3 rfl ?_
  refine pc_ite e (fun e => ?_) (fun e => ?_)
  · refine seg_Bg (pc' := (if v3 < 256 then 106 else 129)) (lv' := [(0, .ref 10), (1, .int v1), (2, .int v2), (3, .int v3)]) (st' := []) (lay' := LY88) (h' := h) 3 rfl ?_
    refine pc_ite e (fun e => ?_) (fun e => ?_)
    · refine seg_Bg (pc' := 116) (lv' := [(0, .ref 10), (1, .int v1), (2, .int v2), (3, .int v3)]) (st' := [.int v3, .ref 13, .ref 18, .ref 10]) (lay' := LY88) (h' := h) 6 rfl ?_
      refine gd_Bg (pc' := 117) (lv' := [(0, .ref 10), (1, .int v1), (2, .int v2), (3, .int v3)]) (st' := [.int (h 13 (Int32.toNatClampNeg v3)), .ref 18, .ref 10]) (lay' := LY88) (h' := h) (g := ibB v3 256) rfl e fun e => ?_
      refine call_Bg (a := 85) (la := [(0, .ref 18), (1, .int (h 13 (Int32.toNatClampNeg v3)))]) (np := 120) (lv' := [(0, .ref 10), (1, .int v1), (2, .int v2), (3, .int v3)]) (rest := [.ref 10]) (res := fun r => ([.int r], LY88, h)) rfl e (fun r e => BJpu_third L xs (h 13 (Int32.toNatClampNeg v3)) h r e) (fun c6 e => ?_)
      show Bg L xs 25 120 [(0, .ref 10), (1, .int v1), (2, .int v2), (3, .int v3)] [.int c6, .ref 10] LY88 h R
      refine call_Bg (a := 27) (la := [(0, .ref 10), (1, .int c6)]) (np := 123) (lv' := [(0, .ref 10), (1, .int v1), (2, .int v2), (3, .int v3)]) (rest := []) (res := fun r => ([], LY88, r)) rfl e (fun r e => BJcs_make L xs c6 h r e) (fun c7 e => ?_)
      show Bg L xs 25 123 [(0, .ref 10), (1, .int v1), (2, .int v2), (3, .int v3)] [] LY88 c7 R
      refine seg_Bg (pc' := 94) (lv' := [(0, .ref 10), (1, .int v1), (2, .int v2), (3, .int (v3 + 1))]) (st' := []) (lay' := LY88) (h' := c7) 2 rfl ?_
      exact hH (v3 + 1, c7) (Option.some.inj e).symm
    · exact hE (v3, h) (Option.some.inj e).symm
  · exact hE (v3, h) (Option.some.inj e).symm
theorem BJcs_tryThirds_L94 (L : Nat) (xs : Nat → Int32) (v1 v2 : Int32) (R : List Value × Lay × Hp) (C : (Int32 × Hp) → Prop) (hE : ∀ t : Int32 × Hp, C t → Bg L xs 25 129 [(0, .ref 10), (1, .int v1), (2, .int v2), (3, .int t.1)] [] LY88 t.2 R) (n : Nat) (s : Int32 × Hp) (o : (Int32 × Hp)) (e : loopN n (fun s => Jcs_tryThirds_L94 v1 v2 s.1 s.2) s = some o) (hC : C o) : Bg L xs 25 94 [(0, .ref 10), (1, .int v1), (2, .int v2), (3, .int s.1)] [] LY88 s.2 R := by
  refine loop_B (fun s => Jcs_tryThirds_L94 v1 v2 s.1 s.2) (fun s : Int32 × Hp => Bg L xs 25 94 [(0, .ref 10), (1, .int v1), (2, .int v2), (3, .int s.1)] [] LY88 s.2 R) C (fun s o e => ?_) n s o e hC
  intro hK
  refine BJcs_tryThirds_L94_s L xs v1 v2 R s.1 s.2 o (fun s q => by subst q; exact hK) (fun t q => by subst q; exact hE t hK) e
set_option maxRecDepth 100000 in
theorem BJcs_tryThirds (L : Nat) (xs : Nat → Int32) (v1 : Int32) (v2 : Int32) (h : Hp) (o : Hp) (e : Jcs_tryThirds v1 v2 h = some o) : Bg L xs 25 0 [(0, .ref 10), (1, .int v1), (2, .int v2)] [] LY88 h ([], LY88, o) := by
  obtain ⟨R, hR⟩ : ∃ R : List Value × Lay × Hp, R = ([], LY88, o) := ⟨_, rfl⟩
  rw [← hR]
  refine seg_Bg (pc' := (if (h 10 11) < (v2 - v1) then 10 else 88)) (lv' := [(0, .ref 10), (1, .int v1), (2, .int v2)]) (st' := []) (lay' := LY88) (h' := h) 6 rfl ?_
  refine pc_ite e (fun e => ?_) (fun e => ?_)
  · refine seg_Bg (pc' := 12) (lv' := [(0, .ref 10), (1, .int v1), (2, .int v2), (3, .int 0)]) (st' := []) (lay' := LY88) (h' := h) 2 rfl ?_
    obtain ⟨t5o, et5o, e⟩ := bd_s e
    refine BJcs_tryThirds_L12 L xs v1 v2 R (fun (t5 : Int32 × Hp) => (some t5.2) = some o) (fun t5 e => ?_) 1000000 (0, h) _ et5o e
    rw [hR, ← Option.some.inj e]; exact ret_Bg rfl
  · refine seg_Bg (pc' := 94) (lv' := [(0, .ref 10), (1, .int v1), (2, .int v2), (3, .int (if v1 < 0 then 0 else v1))]) (st' := []) (lay' := LY88) (h' := h) 4 rfl ?_
    obtain ⟨t8o, et8o, e⟩ := bd_s e
    refine BJcs_tryThirds_L94 L xs v1 v2 R (fun (t8 : Int32 × Hp) => (some t8.2) = some o) (fun t8 e => ?_) 1000000 (if v1 < 0 then 0 else v1, h) _ et8o e
    rw [hR, ← Option.some.inj e]; exact ret_Bg rfl

set_option maxRecDepth 100000 in
theorem BJcs_trySeconds_L89_s (L : Nat) (xs : Nat → Int32) (v1 v2 v3 v4 v5 v6 : Int32) (R : List Value × Lay × Hp) (v7 : Int32) (h : Hp) (o : ((Int32 × Hp) ⊕ (Int32 × Hp))) (hH : ∀ s : Int32 × Hp, o = .inl s → Bg L xs 24 89 [(0, .ref 10), (1, .int v1), (2, .int v2), (3, .int v3), (4, .int v4), (5, .int v5), (6, .int v6), (7, .int s.1)] [] LY88 s.2 R) (hE : ∀ t : Int32 × Hp, o = .inr t → Bg L xs 24 132 [(0, .ref 10), (1, .int v1), (2, .int v2), (3, .int v3), (4, .int v4), (5, .int v5), (6, .int v6), (7, .int t.1)] [] LY88 t.2 R) (e : Jcs_trySeconds_L89 v1 v2 v3 v4 v5 v6 v7 h = some o) : Bg L xs 24 89 [(0, .ref 10), (1, .int v1), (2, .int v2), (3, .int v3), (4, .int v4), (5, .int v5), (6, .int v6), (7, .int v7)] [] LY88 h R := by
  refine seg_Bg (pc' := (if v7 < v6 then 96 else 132)) (lv' := [(0, .ref 10), (1, .int v1), (2, .int v2), (3, .int v3), (4, .int v4), (5, .int v5), (6, .int v6), (7, .int v7)]) (st' := []) (lay' := LY88) (h' := h) 3 rfl ?_
  refine pc_ite e (fun e => ?_) (fun e => ?_)
  · refine seg_Bg (pc' := (if v7 < 256 then 104 else 132)) (lv' := [(0, .ref 10), (1, .int v1), (2, .int v2), (3, .int v3), (4, .int v4), (5, .int v5), (6, .int v6), (7, .int v7)]) (st' := []) (lay' := LY88) (h' := h) 3 rfl ?_
    refine pc_ite e (fun e => ?_) (fun e => ?_)
    · refine seg_Bg (pc' := 114) (lv' := [(0, .ref 10), (1, .int v1), (2, .int v2), (3, .int v3), (4, .int v4), (5, .int v5), (6, .int v6), (7, .int v7)]) (st' := [.int v7, .ref 13, .ref 18]) (lay' := LY88) (h' := h) 5 rfl ?_
      refine gd_Bg (pc' := 115) (lv' := [(0, .ref 10), (1, .int v1), (2, .int v2), (3, .int v3), (4, .int v4), (5, .int v5), (6, .int v6), (7, .int v7)]) (st' := [.int (h 13 (Int32.toNatClampNeg v7)), .ref 18]) (lay' := LY88) (h' := h) (g := ibB v7 256) rfl e fun e => ?_
      refine call_Bg (a := 83) (la := [(0, .ref 18), (1, .int (h 13 (Int32.toNatClampNeg v7)))]) (np := 118) (lv' := [(0, .ref 10), (1, .int v1), (2, .int v2), (3, .int v3), (4, .int v4), (5, .int v5), (6, .int v6), (7, .int v7)]) (rest := []) (res := fun r => ([], LY88, r)) rfl e (fun r e => BJpu_second L xs (h 13 (Int32.toNatClampNeg v7)) h r e) (fun c8 e => ?_)
      show Bg L xs 24 118 [(0, .ref 10), (1, .int v1), (2, .int v2), (3, .int v3), (4, .int v4), (5, .int v5), (6, .int v6), (7, .int v7)] [] LY88 c8 R
      refine seg_Bg (pc' := 123) (lv' := [(0, .ref 10), (1, .int v1), (2, .int v2), (3, .int v3), (4, .int v4), (5, .int v5), (6, .int v6), (7, .int v7)]) (st' := [.int v5, .int v4, .ref 10]) (lay' := LY88) (h' := c8) 3 rfl ?_
      refine call_Bg (a := 25) (la := [(0, .ref 10), (1, .int v4), (2, .int v5)]) (np := 126) (lv' := [(0, .ref 10), (1, .int v1), (2, .int v2), (3, .int v3), (4, .int v4), (5, .int v5), (6, .int v6), (7, .int v7)]) (rest := []) (res := fun r => ([], LY88, r)) rfl e (fun r e => BJcs_tryThirds L xs v4 v5 c8 r e) (fun c9 e => ?_)
      show Bg L xs 24 126 [(0, .ref 10), (1, .int v1), (2, .int v2), (3, .int v3), (4, .int v4), (5, .int v5), (6, .int v6), (7, .int v7)] [] LY88 c9 R
      refine seg_Bg (pc' := 89) (lv' := [(0, .ref 10), (1, .int v1), (2, .int v2), (3, .int v3), (4, .int v4), (5, .int v5), (6, .int v6), (7, .int (v7 + 1))]) (st' := []) (lay' := LY88) (h' := c9) 2 rfl ?_
      exact hH (v7 + 1, c9) (Option.some.inj e).symm
    · exact hE (v7, h) (Option.some.inj e).symm
  · exact hE (v7, h) (Option.some.inj e).symm
theorem BJcs_trySeconds_L89 (L : Nat) (xs : Nat → Int32) (v1 v2 v3 v4 v5 v6 : Int32) (R : List Value × Lay × Hp) (C : (Int32 × Hp) → Prop) (hE : ∀ t : Int32 × Hp, C t → Bg L xs 24 132 [(0, .ref 10), (1, .int v1), (2, .int v2), (3, .int v3), (4, .int v4), (5, .int v5), (6, .int v6), (7, .int t.1)] [] LY88 t.2 R) (n : Nat) (s : Int32 × Hp) (o : (Int32 × Hp)) (e : loopN n (fun s => Jcs_trySeconds_L89 v1 v2 v3 v4 v5 v6 s.1 s.2) s = some o) (hC : C o) : Bg L xs 24 89 [(0, .ref 10), (1, .int v1), (2, .int v2), (3, .int v3), (4, .int v4), (5, .int v5), (6, .int v6), (7, .int s.1)] [] LY88 s.2 R := by
  refine loop_B (fun s => Jcs_trySeconds_L89 v1 v2 v3 v4 v5 v6 s.1 s.2) (fun s : Int32 × Hp => Bg L xs 24 89 [(0, .ref 10), (1, .int v1), (2, .int v2), (3, .int v3), (4, .int v4), (5, .int v5), (6, .int v6), (7, .int s.1)] [] LY88 s.2 R) C (fun s o e => ?_) n s o e hC
  intro hK
  refine BJcs_trySeconds_L89_s L xs v1 v2 v3 v4 v5 v6 R s.1 s.2 o (fun s q => by subst q; exact hK) (fun t q => by subst q; exact hE t hK) e
set_option maxRecDepth 100000 in
theorem BJcs_trySeconds_J75 (L : Nat) (xs : Nat → Int32) (v1 v2 v3 v4 v5 s0 : Int32) (h : Hp) (o : ((Int32 × Hp) ⊕ (Int32 × Hp))) (e : Jcs_trySeconds_J75 v1 v2 v3 v4 v5 s0 h = some o) (R : List Value × Lay × Hp) (hH : ∀ s : Int32 × Hp, o = .inl s → Bg L xs 24 11 [(0, .ref 10), (1, .int v1), (2, .int v2), (3, .int s.1)] [] LY88 s.2 R) (hE : ∀ t : Int32 × Hp, o = .inr t → Bg L xs 24 138 [(0, .ref 10), (1, .int v1), (2, .int v2), (3, .int t.1)] [] LY88 t.2 R) : Bg L xs 24 75 [(0, .ref 10), (1, .int v1), (2, .int v2), (3, .int v3), (4, .int v4), (5, .int v5)] [.int s0] LY88 h R := by
  refine seg_Bg (pc' := 80) (lv' := [(0, .ref 10), (1, .int v1), (2, .int v2), (3, .int v3), (4, .int v4), (5, .int v5), (6, .int s0)]) (st' := [.int v2, .int v3, .ref 10]) (lay' := LY88) (h' := h) 4 rfl ?_
  refine call_Bg (a := 28) (la := [(0, .ref 10), (1, .int v3), (2, .int v2)]) (np := 83) (lv' := [(0, .ref 10), (1, .int v1), (2, .int v2), (3, .int v3), (4, .int v4), (5, .int v5), (6, .int s0)]) (rest := []) (res := fun r => ([.int r], LY88, h)) rfl e (fun r e => BJcs_partsFrom L xs v3 v2 h r e) (fun c7 e => ?_)
  show Bg L xs 24 83 [(0, .ref 10), (1, .int v1), (2, .int v2), (3, .int v3), (4, .int v4), (5, .int v5), (6, .int s0)] [.int c7] LY88 h R
  refine seg_Bg (pc' := 89) (lv' := [(0, .ref 10), (1, .int v1), (2, .int v2), (3, .int v3), (4, .int v4), (5, .int v5), (6, .int s0), (7, .int (if c7 < 0 then 0 else c7))]) (st' := []) (lay' := LY88) (h' := h) 3 rfl ?_
  obtain ⟨t10o, et10o, e⟩ := bd_s e
  refine BJcs_trySeconds_L89 L xs v1 v2 v3 v4 v5 s0 R (fun (t10 : Int32 × Hp) => (some (.inl (v3 + 1, t10.2))) = some o) (fun t10 e => ?_) 1000000 (if c7 < 0 then 0 else c7, h) _ et10o e
  refine seg_Bg (pc' := 11) (lv' := [(0, .ref 10), (1, .int v1), (2, .int v2), (3, .int (v3 + 1)), (4, .int v4), (5, .int v5), (6, .int s0), (7, .int t10.1)]) (st' := []) (lay' := LY88) (h' := t10.2) 2 rfl ?_
  refine kp_Bg (lv' := [(0, .ref 10), (1, .int v1), (2, .int v2), (3, .int (v3 + 1))]) rfl rfl ?_
  exact hH (v3 + 1, t10.2) (Option.some.inj e).symm
set_option maxRecDepth 100000 in
theorem BJcs_trySeconds_L11_s (L : Nat) (xs : Nat → Int32) (v1 v2 : Int32) (R : List Value × Lay × Hp) (v3 : Int32) (h : Hp) (o : ((Int32 × Hp) ⊕ (Int32 × Hp))) (hH : ∀ s : Int32 × Hp, o = .inl s → Bg L xs 24 11 [(0, .ref 10), (1, .int v1), (2, .int v2), (3, .int s.1)] [] LY88 s.2 R) (hE : ∀ t : Int32 × Hp, o = .inr t → Bg L xs 24 138 [(0, .ref 10), (1, .int v1), (2, .int v2), (3, .int t.1)] [] LY88 t.2 R) (e : Jcs_trySeconds_L11 v1 v2 v3 h = some o) : Bg L xs 24 11 [(0, .ref 10), (1, .int v1), (2, .int v2), (3, .int v3)] [] LY88 h R := by
  refine seg_Bg (pc' := (if v1 < v3 then 138 else 16)) (lv' := [(0, .ref 10), (1, .int v1), (2, .int v2), (3, .int v3)]) (st' := []) (lay' := LY88) (h' := h) 3 rfl ?_
  refine pc_ite e (fun e => ?_) (fun e => ?_)
  · exact hE (v3, h) (Option.some.inj e).symm
  · refine seg_Bg (pc' := (if v3 = 0 then 24 else 20)) (lv' := [(0, .ref 10), (1, .int v1), (2, .int v2), (3, .int v3)]) (st' := []) (lay' := LY88) (h' := h) 2 rfl ?_
    refine pc_ite e (fun e => ?_) (fun e => ?_)
    · refine seg_Bg (pc' := 33) (lv' := [(0, .ref 10), (1, .int v1), (2, .int v2), (3, .int v3)]) (st' := [.int 2, .ref 18, .int (v1 - v3), .ref 10]) (lay' := LY88) (h' := h) 7 rfl ?_
      refine call_Bg (a := 80) (la := [(0, .ref 18), (1, .int 2)]) (np := 36) (lv' := [(0, .ref 10), (1, .int v1), (2, .int v2), (3, .int v3)]) (rest := [.int (v1 - v3), .ref 10]) (res := fun r => ([.int r], LY88, h)) rfl e (fun r e => BJpu_hangsOn L xs 2 h r e) (fun c2 e => ?_)
      show Bg L xs 24 36 [(0, .ref 10), (1, .int v1), (2, .int v2), (3, .int v3)] [.int c2, .int (v1 - v3), .ref 10] LY88 h R
      refine call_Bg (a := 28) (la := [(0, .ref 10), (1, .int (v1 - v3)), (2, .int c2)]) (np := 39) (lv' := [(0, .ref 10), (1, .int v1), (2, .int v2), (3, .int v3)]) (rest := []) (res := fun r => ([.int r], LY88, h)) rfl e (fun r e => BJcs_partsFrom L xs (v1 - v3) c2 h r e) (fun c3 e => ?_)
      show Bg L xs 24 39 [(0, .ref 10), (1, .int v1), (2, .int v2), (3, .int v3)] [.int c3] LY88 h R
      refine seg_Bg (pc' := 50) (lv' := [(0, .ref 10), (1, .int v1), (2, .int v2), (3, .int v3), (4, .int c3)]) (st' := [.int 2, .ref 18, .int (v1 - v3), .ref 10]) (lay' := LY88) (h' := h) 8 rfl ?_
      refine call_Bg (a := 80) (la := [(0, .ref 18), (1, .int 2)]) (np := 53) (lv' := [(0, .ref 10), (1, .int v1), (2, .int v2), (3, .int v3), (4, .int c3)]) (rest := [.int (v1 - v3), .ref 10]) (res := fun r => ([.int r], LY88, h)) rfl e (fun r e => BJpu_hangsOn L xs 2 h r e) (fun c4 e => ?_)
      show Bg L xs 24 53 [(0, .ref 10), (1, .int v1), (2, .int v2), (3, .int v3), (4, .int c3)] [.int c4, .int (v1 - v3), .ref 10] LY88 h R
      refine call_Bg (a := 29) (la := [(0, .ref 10), (1, .int (v1 - v3)), (2, .int c4)]) (np := 56) (lv' := [(0, .ref 10), (1, .int v1), (2, .int v2), (3, .int v3), (4, .int c3)]) (rest := []) (res := fun r => ([.int r], LY88, h)) rfl e (fun r e => BJcs_partsTo L xs (v1 - v3) c4 h r e) (fun c5 e => ?_)
      show Bg L xs 24 56 [(0, .ref 10), (1, .int v1), (2, .int v2), (3, .int v3), (4, .int c3)] [.int c5] LY88 h R
      refine seg_Bg (pc' := (if c3 < c5 then 65 else 74)) (lv' := [(0, .ref 10), (1, .int v1), (2, .int v2), (3, .int v3), (4, .int c3), (5, .int c5)]) (st' := []) (lay' := LY88) (h' := h) 4 rfl ?_
      refine pc_ite e (fun e => ?_) (fun e => ?_)
      · refine seg_Bg (pc' := 68) (lv' := [(0, .ref 10), (1, .int v1), (2, .int v2), (3, .int v3), (4, .int c3), (5, .int c5)]) (st' := [.int v2, .int v3, .ref 10]) (lay' := LY88) (h' := h) 3 rfl ?_
        refine call_Bg (a := 29) (la := [(0, .ref 10), (1, .int v3), (2, .int v2)]) (np := 71) (lv' := [(0, .ref 10), (1, .int v1), (2, .int v2), (3, .int v3), (4, .int c3), (5, .int c5)]) (rest := []) (res := fun r => ([.int r], LY88, h)) rfl e (fun r e => BJcs_partsTo L xs v3 v2 h r e) (fun c6 e => ?_)
        show Bg L xs 24 71 [(0, .ref 10), (1, .int v1), (2, .int v2), (3, .int v3), (4, .int c3), (5, .int c5)] [.int c6] LY88 h R
        refine seg_Bg (pc' := 75) (lv' := [(0, .ref 10), (1, .int v1), (2, .int v2), (3, .int v3), (4, .int c3), (5, .int c5)]) (st' := [.int c6]) (lay' := LY88) (h' := h) 1 rfl ?_
        exact BJcs_trySeconds_J75 L xs v1 v2 v3 c3 c5 c6 h o e R hH hE
      · refine seg_Bg (pc' := 75) (lv' := [(0, .ref 10), (1, .int v1), (2, .int v2), (3, .int v3), (4, .int c3), (5, .int c5)]) (st' := [.int 0]) (lay' := LY88) (h' := h) 1 rfl ?_
        exact BJcs_trySeconds_J75 L xs v1 v2 v3 c3 c5 0 h o e R hH hE
    · refine seg_Bg (pc' := (if v2 = 0 then 138 else 24)) (lv' := [(0, .ref 10), (1, .int v1), (2, .int v2), (3, .int v3)]) (st' := []) (lay' := LY88) (h' := h) 2 rfl ?_
      refine pc_ite e (fun e => ?_) (fun e => ?_)
      · exact hE (v3, h) (Option.some.inj e).symm
      · refine seg_Bg (pc' := 33) (lv' := [(0, .ref 10), (1, .int v1), (2, .int v2), (3, .int v3)]) (st' := [.int 2, .ref 18, .int (v1 - v3), .ref 10]) (lay' := LY88) (h' := h) 7 rfl ?_
        refine call_Bg (a := 80) (la := [(0, .ref 18), (1, .int 2)]) (np := 36) (lv' := [(0, .ref 10), (1, .int v1), (2, .int v2), (3, .int v3)]) (rest := [.int (v1 - v3), .ref 10]) (res := fun r => ([.int r], LY88, h)) rfl e (fun r e => BJpu_hangsOn L xs 2 h r e) (fun c11 e => ?_)
        show Bg L xs 24 36 [(0, .ref 10), (1, .int v1), (2, .int v2), (3, .int v3)] [.int c11, .int (v1 - v3), .ref 10] LY88 h R
        refine call_Bg (a := 28) (la := [(0, .ref 10), (1, .int (v1 - v3)), (2, .int c11)]) (np := 39) (lv' := [(0, .ref 10), (1, .int v1), (2, .int v2), (3, .int v3)]) (rest := []) (res := fun r => ([.int r], LY88, h)) rfl e (fun r e => BJcs_partsFrom L xs (v1 - v3) c11 h r e) (fun c12 e => ?_)
        show Bg L xs 24 39 [(0, .ref 10), (1, .int v1), (2, .int v2), (3, .int v3)] [.int c12] LY88 h R
        refine seg_Bg (pc' := 50) (lv' := [(0, .ref 10), (1, .int v1), (2, .int v2), (3, .int v3), (4, .int c12)]) (st' := [.int 2, .ref 18, .int (v1 - v3), .ref 10]) (lay' := LY88) (h' := h) 8 rfl ?_
        refine call_Bg (a := 80) (la := [(0, .ref 18), (1, .int 2)]) (np := 53) (lv' := [(0, .ref 10), (1, .int v1), (2, .int v2), (3, .int v3), (4, .int c12)]) (rest := [.int (v1 - v3), .ref 10]) (res := fun r => ([.int r], LY88, h)) rfl e (fun r e => BJpu_hangsOn L xs 2 h r e) (fun c13 e => ?_)
        show Bg L xs 24 53 [(0, .ref 10), (1, .int v1), (2, .int v2), (3, .int v3), (4, .int c12)] [.int c13, .int (v1 - v3), .ref 10] LY88 h R
        refine call_Bg (a := 29) (la := [(0, .ref 10), (1, .int (v1 - v3)), (2, .int c13)]) (np := 56) (lv' := [(0, .ref 10), (1, .int v1), (2, .int v2), (3, .int v3), (4, .int c12)]) (rest := []) (res := fun r => ([.int r], LY88, h)) rfl e (fun r e => BJcs_partsTo L xs (v1 - v3) c13 h r e) (fun c14 e => ?_)
        show Bg L xs 24 56 [(0, .ref 10), (1, .int v1), (2, .int v2), (3, .int v3), (4, .int c12)] [.int c14] LY88 h R
        refine seg_Bg (pc' := (if c12 < c14 then 65 else 74)) (lv' := [(0, .ref 10), (1, .int v1), (2, .int v2), (3, .int v3), (4, .int c12), (5, .int c14)]) (st' := []) (lay' := LY88) (h' := h) 4 rfl ?_
        refine pc_ite e (fun e => ?_) (fun e => ?_)
        · refine seg_Bg (pc' := 68) (lv' := [(0, .ref 10), (1, .int v1), (2, .int v2), (3, .int v3), (4, .int c12), (5, .int c14)]) (st' := [.int v2, .int v3, .ref 10]) (lay' := LY88) (h' := h) 3 rfl ?_
          refine call_Bg (a := 29) (la := [(0, .ref 10), (1, .int v3), (2, .int v2)]) (np := 71) (lv' := [(0, .ref 10), (1, .int v1), (2, .int v2), (3, .int v3), (4, .int c12), (5, .int c14)]) (rest := []) (res := fun r => ([.int r], LY88, h)) rfl e (fun r e => BJcs_partsTo L xs v3 v2 h r e) (fun c15 e => ?_)
          show Bg L xs 24 71 [(0, .ref 10), (1, .int v1), (2, .int v2), (3, .int v3), (4, .int c12), (5, .int c14)] [.int c15] LY88 h R
          refine seg_Bg (pc' := 75) (lv' := [(0, .ref 10), (1, .int v1), (2, .int v2), (3, .int v3), (4, .int c12), (5, .int c14)]) (st' := [.int c15]) (lay' := LY88) (h' := h) 1 rfl ?_
          exact BJcs_trySeconds_J75 L xs v1 v2 v3 c12 c14 c15 h o e R hH hE
        · refine seg_Bg (pc' := 75) (lv' := [(0, .ref 10), (1, .int v1), (2, .int v2), (3, .int v3), (4, .int c12), (5, .int c14)]) (st' := [.int 0]) (lay' := LY88) (h' := h) 1 rfl ?_
          exact BJcs_trySeconds_J75 L xs v1 v2 v3 c12 c14 0 h o e R hH hE
theorem BJcs_trySeconds_L11 (L : Nat) (xs : Nat → Int32) (v1 v2 : Int32) (R : List Value × Lay × Hp) (C : (Int32 × Hp) → Prop) (hE : ∀ t : Int32 × Hp, C t → Bg L xs 24 138 [(0, .ref 10), (1, .int v1), (2, .int v2), (3, .int t.1)] [] LY88 t.2 R) (n : Nat) (s : Int32 × Hp) (o : (Int32 × Hp)) (e : loopN n (fun s => Jcs_trySeconds_L11 v1 v2 s.1 s.2) s = some o) (hC : C o) : Bg L xs 24 11 [(0, .ref 10), (1, .int v1), (2, .int v2), (3, .int s.1)] [] LY88 s.2 R := by
  refine loop_B (fun s => Jcs_trySeconds_L11 v1 v2 s.1 s.2) (fun s : Int32 × Hp => Bg L xs 24 11 [(0, .ref 10), (1, .int v1), (2, .int v2), (3, .int s.1)] [] LY88 s.2 R) C (fun s o e => ?_) n s o e hC
  intro hK
  refine BJcs_trySeconds_L11_s L xs v1 v2 R s.1 s.2 o (fun s q => by subst q; exact hK) (fun t q => by subst q; exact hE t hK) e
set_option maxRecDepth 100000 in
theorem BJcs_trySeconds (L : Nat) (xs : Nat → Int32) (v1 : Int32) (h : Hp) (o : Hp) (e : Jcs_trySeconds v1 h = some o) : Bg L xs 24 0 [(0, .ref 10), (1, .int v1)] [] LY88 h ([], LY88, o) := by
  obtain ⟨R, hR⟩ : ∃ R : List Value × Lay × Hp, R = ([], LY88, o) := ⟨_, rfl⟩
  rw [← hR]
  refine seg_Bg (pc' := 5) (lv' := [(0, .ref 10), (1, .int v1)]) (st' := [.int 1, .ref 18]) (lay' := LY88) (h' := h) 3 rfl ?_
  refine call_Bg (a := 80) (la := [(0, .ref 18), (1, .int 1)]) (np := 8) (lv' := [(0, .ref 10), (1, .int v1)]) (rest := []) (res := fun r => ([.int r], LY88, h)) rfl e (fun r e => BJpu_hangsOn L xs 1 h r e) (fun c1 e => ?_)
  show Bg L xs 24 8 [(0, .ref 10), (1, .int v1)] [.int c1] LY88 h R
  refine seg_Bg (pc' := 11) (lv' := [(0, .ref 10), (1, .int v1), (2, .int c1), (3, .int 0)]) (st' := []) (lay' := LY88) (h' := h) 3 rfl ?_
  obtain ⟨t16o, et16o, e⟩ := bd_s e
  refine BJcs_trySeconds_L11 L xs v1 c1 R (fun (t16 : Int32 × Hp) => (some t16.2) = some o) (fun t16 e => ?_) 1000000 (0, h) _ et16o e
  rw [hR, ← Option.some.inj e]; exact ret_Bg rfl

