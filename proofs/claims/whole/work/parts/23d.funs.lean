/-! Runs of the small machine are the functions of the methods. (Written by wip/whole/gen3.py.) -/
set_option maxRecDepth 100000 in
theorem BJcs_tryTop_L65_s (L : Nat) (xs : Nat → Int32) (v1 v2 v3 v4 v5 : Int32) (R : List Value × Lay × Hp) (v6 : Int32) (h : Hp) (o : ((Int32 × Hp) ⊕ (Int32 × Hp))) (hH : ∀ s : Int32 × Hp, o = .inl s → Bg L xs 22 65 [(0, .ref 10), (1, .int v1), (2, .int v2), (3, .int v3), (4, .int v4), (5, .int v5), (6, .int s.1)] [] LY88 s.2 R) (hE : ∀ t : Int32 × Hp, o = .inr t → Bg L xs 22 124 [(0, .ref 10), (1, .int v1), (2, .int v2), (3, .int v3), (4, .int v4), (5, .int v5), (6, .int t.1)] [] LY88 t.2 R) (e : Jcs_tryTop_L65 v1 v2 v3 v4 v5 v6 h = some o) : Bg L xs 22 65 [(0, .ref 10), (1, .int v1), (2, .int v2), (3, .int v3), (4, .int v4), (5, .int v5), (6, .int v6)] [] LY88 h R := by
  refine seg_Bg (pc' := (if v6 < v5 then 72 else 124)) (lv' := [(0, .ref 10), (1, .int v1), (2, .int v2), (3, .int v3), (4, .int v4), (5, .int v5), (6, .int v6)]) (st' := []) (lay' := LY88) (h' := h) 3 rfl ?_
  refine pc_ite e (fun e => ?_) (fun e => ?_)
  · refine seg_Bg (pc' := (if v6 < 256 then 80 else 124)) (lv' := [(0, .ref 10), (1, .int v1), (2, .int v2), (3, .int v3), (4, .int v4), (5, .int v5), (6, .int v6)]) (st' := []) (lay' := LY88) (h' := h) 3 rfl ?_
    refine pc_ite e (fun e => ?_) (fun e => ?_)
    · refine seg_Bg (pc' := 90) (lv' := [(0, .ref 10), (1, .int v1), (2, .int v2), (3, .int v3), (4, .int v4), (5, .int v5), (6, .int v6)]) (st' := [.int v6, .ref 13, .ref 18]) (lay' := LY88) (h' := h) 5 rfl ?_
      refine gd_Bg (pc' := 91) (lv' := [(0, .ref 10), (1, .int v1), (2, .int v2), (3, .int v3), (4, .int v4), (5, .int v5), (6, .int v6)]) (st' := [.int (h 13 (Int32.toNatClampNeg v6)), .ref 18]) (lay' := LY88) (h' := h) (g := ibB v6 256) rfl e fun e => ?_
      refine call_Bg (a := 81) (la := [(0, .ref 18), (1, .int (h 13 (Int32.toNatClampNeg v6)))]) (np := 94) (lv' := [(0, .ref 10), (1, .int v1), (2, .int v2), (3, .int v3), (4, .int v4), (5, .int v5), (6, .int v6)]) (rest := []) (res := fun r => ([], LY88, r)) rfl e (fun r e => BJpu_first L xs (h 13 (Int32.toNatClampNeg v6)) h r e) (fun c6 e => ?_)
      show Bg L xs 22 94 [(0, .ref 10), (1, .int v1), (2, .int v2), (3, .int v3), (4, .int v4), (5, .int v5), (6, .int v6)] [] LY88 c6 R
      refine seg_Bg (pc' := 95) (lv' := [(0, .ref 10), (1, .int v1), (2, .int v2), (3, .int v3), (4, .int v4), (5, .int v5), (6, .int v6)]) (st' := [.ref 10]) (lay' := LY88) (h' := c6) 1 rfl ?_
      refine call_Bg (a := 23) (la := [(0, .ref 10)]) (np := 98) (lv' := [(0, .ref 10), (1, .int v1), (2, .int v2), (3, .int v3), (4, .int v4), (5, .int v5), (6, .int v6)]) (rest := []) (res := fun r => ([], LY88, r)) rfl e (fun r e => BJcs_aim L xs c6 r e) (fun c7 e => ?_)
      show Bg L xs 22 98 [(0, .ref 10), (1, .int v1), (2, .int v2), (3, .int v3), (4, .int v4), (5, .int v5), (6, .int v6)] [] LY88 c7 R
      refine seg_Bg (pc' := (if 0 < (c7 10 11) then 105 else 118)) (lv' := [(0, .ref 10), (1, .int v1), (2, .int v2), (3, .int v3), (4, .int v4), (5, .int v5), (6, .int v6)]) (st' := []) (lay' := LY88) (h' := c7) 3 rfl ?_
      refine pc_ite e (fun e => ?_) (fun e => ?_)
      · refine seg_Bg (pc' := 115) (lv' := [(0, .ref 10), (1, .int v1), (2, .int v2), (3, .int v3), (4, .int v4), (5, .int v5), (6, .int v6)]) (st' := [.int (((c7 10 12) - (1 : Int32)) - v4), .ref 10]) (lay' := LY88) (h' := c7) 7 rfl ?_
        refine call_Bg (a := 24) (la := [(0, .ref 10), (1, .int (((c7 10 12) - (1 : Int32)) - v4))]) (np := 118) (lv' := [(0, .ref 10), (1, .int v1), (2, .int v2), (3, .int v3), (4, .int v4), (5, .int v5), (6, .int v6)]) (rest := []) (res := fun r => ([], LY88, r)) rfl e (fun r e => BJcs_trySeconds L xs (((c7 10 12) - (1 : Int32)) - v4) c7 r e) (fun c8 e => ?_)
        show Bg L xs 22 118 [(0, .ref 10), (1, .int v1), (2, .int v2), (3, .int v3), (4, .int v4), (5, .int v5), (6, .int v6)] [] LY88 c8 R
        refine seg_Bg (pc' := 65) (lv' := [(0, .ref 10), (1, .int v1), (2, .int v2), (3, .int v3), (4, .int v4), (5, .int v5), (6, .int (v6 + 1))]) (st' := []) (lay' := LY88) (h' := c8) 2 rfl ?_
        exact hH (v6 + 1, c8) (Option.some.inj e).symm
      · refine seg_Bg (pc' := 65) (lv' := [(0, .ref 10), (1, .int v1), (2, .int v2), (3, .int v3), (4, .int v4), (5, .int v5), (6, .int (v6 + 1))]) (st' := []) (lay' := LY88) (h' := c7) 2 rfl ?_
        exact hH (v6 + 1, c7) (Option.some.inj e).symm
    · exact hE (v6, h) (Option.some.inj e).symm
  · exact hE (v6, h) (Option.some.inj e).symm
theorem BJcs_tryTop_L65 (L : Nat) (xs : Nat → Int32) (v1 v2 v3 v4 v5 : Int32) (R : List Value × Lay × Hp) (C : (Int32 × Hp) → Prop) (hE : ∀ t : Int32 × Hp, C t → Bg L xs 22 124 [(0, .ref 10), (1, .int v1), (2, .int v2), (3, .int v3), (4, .int v4), (5, .int v5), (6, .int t.1)] [] LY88 t.2 R) (n : Nat) (s : Int32 × Hp) (o : (Int32 × Hp)) (e : loopN n (fun s => Jcs_tryTop_L65 v1 v2 v3 v4 v5 s.1 s.2) s = some o) (hC : C o) : Bg L xs 22 65 [(0, .ref 10), (1, .int v1), (2, .int v2), (3, .int v3), (4, .int v4), (5, .int v5), (6, .int s.1)] [] LY88 s.2 R := by
  refine loop_B (fun s => Jcs_tryTop_L65 v1 v2 v3 v4 v5 s.1 s.2) (fun s : Int32 × Hp => Bg L xs 22 65 [(0, .ref 10), (1, .int v1), (2, .int v2), (3, .int v3), (4, .int v4), (5, .int v5), (6, .int s.1)] [] LY88 s.2 R) C (fun s o e => ?_) n s o e hC
  intro hK
  refine BJcs_tryTop_L65_s L xs v1 v2 v3 v4 v5 R s.1 s.2 o (fun s q => by subst q; exact hK) (fun t q => by subst q; exact hE t hK) e
set_option maxRecDepth 100000 in
theorem BJcs_tryTop_L25_s (L : Nat) (xs : Nat → Int32) (v1 v2 v3 : Int32) (R : List Value × Lay × Hp) (v4 : Int32) (h : Hp) (o : ((Int32 × Hp) ⊕ (Int32 × Hp))) (hH : ∀ s : Int32 × Hp, o = .inl s → Bg L xs 22 25 [(0, .ref 10), (1, .int v1), (2, .int v2), (3, .int v3), (4, .int s.1)] [] LY88 s.2 R) (hE : ∀ t : Int32 × Hp, o = .inr t → Bg L xs 22 130 [(0, .ref 10), (1, .int v1), (2, .int v2), (3, .int v3), (4, .int t.1)] [] LY88 t.2 R) (e : Jcs_tryTop_L25 v1 v2 v3 v4 h = some o) : Bg L xs 22 25 [(0, .ref 10), (1, .int v1), (2, .int v2), (3, .int v3), (4, .int v4)] [] LY88 h R := by
  refine seg_Bg (pc' := (if v4 < (h 10 12) then 34 else 130)) (lv' := [(0, .ref 10), (1, .int v1), (2, .int v2), (3, .int v3), (4, .int v4)]) (st' := []) (lay' := LY88) (h' := h) 4 rfl ?_
  refine pc_ite e (fun e => ?_) (fun e => ?_)
  · refine seg_Bg (pc' := (if v4 = 0 then 43 else 39)) (lv' := [(0, .ref 10), (1, .int v1), (2, .int v2), (3, .int v3), (4, .int v4)]) (st' := []) (lay' := LY88) (h' := h) 2 rfl ?_
    refine pc_ite e (fun e => ?_) (fun e => ?_)
    · refine seg_Bg (pc' := 47) (lv' := [(0, .ref 10), (1, .int v1), (2, .int v2), (3, .int v3), (4, .int v4)]) (st' := [.int v3, .int v4, .ref 10]) (lay' := LY88) (h' := h) 3 rfl ?_
      refine call_Bg (a := 29) (la := [(0, .ref 10), (1, .int v4), (2, .int v3)]) (np := 50) (lv' := [(0, .ref 10), (1, .int v1), (2, .int v2), (3, .int v3), (4, .int v4)]) (rest := []) (res := fun r => ([.int r], LY88, h)) rfl e (fun r e => BJcs_partsTo L xs v4 v3 h r e) (fun c4 e => ?_)
      show Bg L xs 22 50 [(0, .ref 10), (1, .int v1), (2, .int v2), (3, .int v3), (4, .int v4)] [.int c4] LY88 h R
      refine seg_Bg (pc' := 56) (lv' := [(0, .ref 10), (1, .int v1), (2, .int v2), (3, .int v3), (4, .int v4), (5, .int c4)]) (st' := [.int v3, .int v4, .ref 10]) (lay' := LY88) (h' := h) 4 rfl ?_
      refine call_Bg (a := 28) (la := [(0, .ref 10), (1, .int v4), (2, .int v3)]) (np := 59) (lv' := [(0, .ref 10), (1, .int v1), (2, .int v2), (3, .int v3), (4, .int v4), (5, .int c4)]) (rest := []) (res := fun r => ([.int r], LY88, h)) rfl e (fun r e => BJcs_partsFrom L xs v4 v3 h r e) (fun c5 e => ?_)
      show Bg L xs 22 59 [(0, .ref 10), (1, .int v1), (2, .int v2), (3, .int v3), (4, .int v4), (5, .int c4)] [.int c5] LY88 h R
      refine seg_Bg (pc' := 65) (lv' := [(0, .ref 10), (1, .int v1), (2, .int v2), (3, .int v3), (4, .int v4), (5, .int c4), (6, .int (if c5 < 0 then 0 else c5))]) (st' := []) (lay' := LY88) (h' := h) 3 rfl ?_
      obtain ⟨t9o, et9o, e⟩ := bd_s e
      refine BJcs_tryTop_L65 L xs v1 v2 v3 v4 c4 R (fun (t9 : Int32 × Hp) => (some (.inl (v4 + 1, t9.2))) = some o) (fun t9 e => ?_) 1000000 (if c5 < 0 then 0 else c5, h) _ et9o e
      refine seg_Bg (pc' := 25) (lv' := [(0, .ref 10), (1, .int v1), (2, .int v2), (3, .int v3), (4, .int (v4 + 1)), (5, .int c4), (6, .int t9.1)]) (st' := []) (lay' := LY88) (h' := t9.2) 2 rfl ?_
      refine kp_Bg (lv' := [(0, .ref 10), (1, .int v1), (2, .int v2), (3, .int v3), (4, .int (v4 + 1))]) rfl rfl ?_
      exact hH (v4 + 1, t9.2) (Option.some.inj e).symm
    · refine seg_Bg (pc' := (if v3 = 0 then 130 else 43)) (lv' := [(0, .ref 10), (1, .int v1), (2, .int v2), (3, .int v3), (4, .int v4)]) (st' := []) (lay' := LY88) (h' := h) 2 rfl ?_
      refine pc_ite e (fun e => ?_) (fun e => ?_)
      · exact hE (v4, h) (Option.some.inj e).symm
      · refine seg_Bg (pc' := 47) (lv' := [(0, .ref 10), (1, .int v1), (2, .int v2), (3, .int v3), (4, .int v4)]) (st' := [.int v3, .int v4, .ref 10]) (lay' := LY88) (h' := h) 3 rfl ?_
        refine call_Bg (a := 29) (la := [(0, .ref 10), (1, .int v4), (2, .int v3)]) (np := 50) (lv' := [(0, .ref 10), (1, .int v1), (2, .int v2), (3, .int v3), (4, .int v4)]) (rest := []) (res := fun r => ([.int r], LY88, h)) rfl e (fun r e => BJcs_partsTo L xs v4 v3 h r e) (fun c10 e => ?_)
        show Bg L xs 22 50 [(0, .ref 10), (1, .int v1), (2, .int v2), (3, .int v3), (4, .int v4)] [.int c10] LY88 h R
        refine seg_Bg (pc' := 56) (lv' := [(0, .ref 10), (1, .int v1), (2, .int v2), (3, .int v3), (4, .int v4), (5, .int c10)]) (st' := [.int v3, .int v4, .ref 10]) (lay' := LY88) (h' := h) 4 rfl ?_
        refine call_Bg (a := 28) (la := [(0, .ref 10), (1, .int v4), (2, .int v3)]) (np := 59) (lv' := [(0, .ref 10), (1, .int v1), (2, .int v2), (3, .int v3), (4, .int v4), (5, .int c10)]) (rest := []) (res := fun r => ([.int r], LY88, h)) rfl e (fun r e => BJcs_partsFrom L xs v4 v3 h r e) (fun c11 e => ?_)
        show Bg L xs 22 59 [(0, .ref 10), (1, .int v1), (2, .int v2), (3, .int v3), (4, .int v4), (5, .int c10)] [.int c11] LY88 h R
        refine seg_Bg (pc' := 65) (lv' := [(0, .ref 10), (1, .int v1), (2, .int v2), (3, .int v3), (4, .int v4), (5, .int c10), (6, .int (if c11 < 0 then 0 else c11))]) (st' := []) (lay' := LY88) (h' := h) 3 rfl ?_
        obtain ⟨t12o, et12o, e⟩ := bd_s e
        refine BJcs_tryTop_L65 L xs v1 v2 v3 v4 c10 R (fun (t12 : Int32 × Hp) => (some (.inl (v4 + 1, t12.2))) = some o) (fun t12 e => ?_) 1000000 (if c11 < 0 then 0 else c11, h) _ et12o e
        refine seg_Bg (pc' := 25) (lv' := [(0, .ref 10), (1, .int v1), (2, .int v2), (3, .int v3), (4, .int (v4 + 1)), (5, .int c10), (6, .int t12.1)]) (st' := []) (lay' := LY88) (h' := t12.2) 2 rfl ?_
        refine kp_Bg (lv' := [(0, .ref 10), (1, .int v1), (2, .int v2), (3, .int v3), (4, .int (v4 + 1))]) rfl rfl ?_
        exact hH (v4 + 1, t12.2) (Option.some.inj e).symm
  · exact hE (v4, h) (Option.some.inj e).symm
theorem BJcs_tryTop_L25 (L : Nat) (xs : Nat → Int32) (v1 v2 v3 : Int32) (R : List Value × Lay × Hp) (C : (Int32 × Hp) → Prop) (hE : ∀ t : Int32 × Hp, C t → Bg L xs 22 130 [(0, .ref 10), (1, .int v1), (2, .int v2), (3, .int v3), (4, .int t.1)] [] LY88 t.2 R) (n : Nat) (s : Int32 × Hp) (o : (Int32 × Hp)) (e : loopN n (fun s => Jcs_tryTop_L25 v1 v2 v3 s.1 s.2) s = some o) (hC : C o) : Bg L xs 22 25 [(0, .ref 10), (1, .int v1), (2, .int v2), (3, .int v3), (4, .int s.1)] [] LY88 s.2 R := by
  refine loop_B (fun s => Jcs_tryTop_L25 v1 v2 v3 s.1 s.2) (fun s : Int32 × Hp => Bg L xs 22 25 [(0, .ref 10), (1, .int v1), (2, .int v2), (3, .int v3), (4, .int s.1)] [] LY88 s.2 R) C (fun s o e => ?_) n s o e hC
  intro hK
  refine BJcs_tryTop_L25_s L xs v1 v2 v3 R s.1 s.2 o (fun s q => by subst q; exact hK) (fun t q => by subst q; exact hE t hK) e
set_option maxRecDepth 100000 in
theorem BJcs_tryTop (L : Nat) (xs : Nat → Int32) (v1 : Int32) (v2 : Int32) (h : Hp) (o : Hp) (e : Jcs_tryTop v1 v2 h = some o) : Bg L xs 22 0 [(0, .ref 10), (1, .int v1), (2, .int v2)] [] LY88 h ([], LY88, o) := by
  obtain ⟨R, hR⟩ : ∃ R : List Value × Lay × Hp, R = ([], LY88, o) := ⟨_, rfl⟩
  rw [← hR]
  refine seg_Bg (pc' := 2) (lv' := [(0, .ref 10), (1, .int v1), (2, .int v2)]) (st' := [.int v1, .ref 10]) (lay' := LY88) (h' := h) 2 rfl ?_
  refine put_Bg (pc' := 5) (lv' := [(0, .ref 10), (1, .int v1), (2, .int v2)]) (st' := []) (lay' := LY88) (x := hset h 10 14 v1) rfl e fun h1 e => ?_
  refine seg_Bg (pc' := 10) (lv' := [(0, .ref 10), (1, .int v1), (2, .int v2)]) (st' := [.int v2, .ref 18]) (lay' := LY88) (h' := h1) 3 rfl ?_
  refine call_Bg (a := 78) (la := [(0, .ref 18), (1, .int v2)]) (np := 13) (lv' := [(0, .ref 10), (1, .int v1), (2, .int v2)]) (rest := []) (res := fun r => ([], LY88, r)) rfl e (fun r e => BJpu_begin L xs v2 h1 r e) (fun c2 e => ?_)
  show Bg L xs 22 13 [(0, .ref 10), (1, .int v1), (2, .int v2)] [] LY88 c2 R
  refine seg_Bg (pc' := 18) (lv' := [(0, .ref 10), (1, .int v1), (2, .int v2)]) (st' := [.int 0, .ref 18]) (lay' := LY88) (h' := c2) 3 rfl ?_
  refine call_Bg (a := 80) (la := [(0, .ref 18), (1, .int 0)]) (np := 21) (lv' := [(0, .ref 10), (1, .int v1), (2, .int v2)]) (rest := []) (res := fun r => ([.int r], LY88, c2)) rfl e (fun r e => BJpu_hangsOn L xs 0 c2 r e) (fun c3 e => ?_)
  show Bg L xs 22 21 [(0, .ref 10), (1, .int v1), (2, .int v2)] [.int c3] LY88 c2 R
  refine seg_Bg (pc' := 25) (lv' := [(0, .ref 10), (1, .int v1), (2, .int v2), (3, .int c3), (4, .int 0)]) (st' := []) (lay' := LY88) (h' := c2) 3 rfl ?_
  obtain ⟨t13o, et13o, e⟩ := bd_s e
  refine BJcs_tryTop_L25 L xs v1 v2 c3 R (fun (t13 : Int32 × Hp) => (some t13.2) = some o) (fun t13 e => ?_) 1000000 (0, c2) _ et13o e
  rw [hR, ← Option.some.inj e]; exact ret_Bg rfl

set_option maxRecDepth 100000 in
theorem BJcs_dropMade_L4_s (L : Nat) (xs : Nat → Int32) (R : List Value × Lay × Hp) (v1 v2 : Int32) (h : Hp) (o : ((Int32 × Int32 × Hp) ⊕ (Int32 × Int32 × Hp))) (hH : ∀ s : Int32 × Int32 × Hp, o = .inl s → Bg L xs 20 4 [(0, .ref 10), (1, .int s.1), (2, .int s.2.1)] [] LY88 s.2.2 R) (hE : ∀ t : Int32 × Int32 × Hp, o = .inr t → Bg L xs 20 53 [(0, .ref 10), (1, .int t.1), (2, .int t.2.1)] [] LY88 t.2.2 R) (e : Jcs_dropMade_L4 v1 v2 h = some o) : Bg L xs 20 4 [(0, .ref 10), (1, .int v1), (2, .int v2)] [] LY88 h R := by
  refine seg_Bg (pc' := (if v2 < (h 10 10) then 12 else 53)) (lv' := [(0, .ref 10), (1, .int v1), (2, .int v2)]) (st' := []) (lay' := LY88) (h' := h) 4 rfl ?_
  refine pc_ite e (fun e => ?_) (fun e => ?_)
  · refine seg_Bg (pc' := (if v2 < 256 then 19 else 53)) (lv' := [(0, .ref 10), (1, .int v1), (2, .int v2)]) (st' := []) (lay' := LY88) (h' := h) 3 rfl ?_
    refine pc_ite e (fun e => ?_) (fun e => ?_)
    · refine seg_Bg (pc' := 25) (lv' := [(0, .ref 10), (1, .int v1), (2, .int v2)]) (st' := [.int v2, .ref 15, .ref 10]) (lay' := LY88) (h' := h) 4 rfl ?_
      refine gd_Bg (pc' := 26) (lv' := [(0, .ref 10), (1, .int v1), (2, .int v2)]) (st' := [.int (h 15 (Int32.toNatClampNeg v2)), .ref 10]) (lay' := LY88) (h' := h) (g := ibB v2 256) rfl e fun e => ?_
      refine call_Bg (a := 35) (la := [(0, .ref 10), (1, .int (h 15 (Int32.toNatClampNeg v2)))]) (np := 29) (lv' := [(0, .ref 10), (1, .int v1), (2, .int v2)]) (rest := []) (res := fun r => ([.int r], LY88, h)) rfl e (fun r e => BJcs_isMade L xs (h 15 (Int32.toNatClampNeg v2)) h r e) (fun c1 e => ?_)
      show Bg L xs 20 29 [(0, .ref 10), (1, .int v1), (2, .int v2)] [.int c1] LY88 h R
      refine seg_Bg (pc' := (if c1 = 0 then 32 else 47)) (lv' := [(0, .ref 10), (1, .int v1), (2, .int v2)]) (st' := []) (lay' := LY88) (h' := h) 1 rfl ?_
      refine pc_ite e (fun e => ?_) (fun e => ?_)
      · refine seg_Bg (pc' := 42) (lv' := [(0, .ref 10), (1, .int v1), (2, .int v2)]) (st' := [.int v2, .ref 15, .int v1, .ref 15]) (lay' := LY88) (h' := h) 6 rfl ?_
        refine gd_Bg (pc' := 43) (lv' := [(0, .ref 10), (1, .int v1), (2, .int v2)]) (st' := [.int (h 15 (Int32.toNatClampNeg v2)), .int v1, .ref 15]) (lay' := LY88) (h' := h) (g := ibB v2 256) rfl e fun e => ?_
        refine gp_Bg (pc' := 44) (lv' := [(0, .ref 10), (1, .int v1), (2, .int v2)]) (st' := []) (lay' := LY88) (x := hset h 15 (Int32.toNatClampNeg v1) (h 15 (Int32.toNatClampNeg v2))) (g := ibB v1 256) rfl e fun h2 e => ?_
        refine seg_Bg (pc' := 4) (lv' := [(0, .ref 10), (1, .int (v1 + 1)), (2, .int (v2 + 1))]) (st' := []) (lay' := LY88) (h' := h2) 3 rfl ?_
        exact hH (v1 + 1, v2 + 1, h2) (Option.some.inj e).symm
      · refine seg_Bg (pc' := 4) (lv' := [(0, .ref 10), (1, .int v1), (2, .int (v2 + 1))]) (st' := []) (lay' := LY88) (h' := h) 2 rfl ?_
        exact hH (v1, v2 + 1, h) (Option.some.inj e).symm
    · exact hE (v1, v2, h) (Option.some.inj e).symm
  · exact hE (v1, v2, h) (Option.some.inj e).symm
theorem BJcs_dropMade_L4 (L : Nat) (xs : Nat → Int32) (R : List Value × Lay × Hp) (C : (Int32 × Int32 × Hp) → Prop) (hE : ∀ t : Int32 × Int32 × Hp, C t → Bg L xs 20 53 [(0, .ref 10), (1, .int t.1), (2, .int t.2.1)] [] LY88 t.2.2 R) (n : Nat) (s : Int32 × Int32 × Hp) (o : (Int32 × Int32 × Hp)) (e : loopN n (fun s => Jcs_dropMade_L4 s.1 s.2.1 s.2.2) s = some o) (hC : C o) : Bg L xs 20 4 [(0, .ref 10), (1, .int s.1), (2, .int s.2.1)] [] LY88 s.2.2 R := by
  refine loop_B (fun s => Jcs_dropMade_L4 s.1 s.2.1 s.2.2) (fun s : Int32 × Int32 × Hp => Bg L xs 20 4 [(0, .ref 10), (1, .int s.1), (2, .int s.2.1)] [] LY88 s.2.2 R) C (fun s o e => ?_) n s o e hC
  intro hK
  refine BJcs_dropMade_L4_s L xs R s.1 s.2.1 s.2.2 o (fun s q => by subst q; exact hK) (fun t q => by subst q; exact hE t hK) e
set_option maxRecDepth 100000 in
theorem BJcs_dropMade (L : Nat) (xs : Nat → Int32) (h : Hp) (o : Hp) (e : Jcs_dropMade h = some o) : Bg L xs 20 0 [(0, .ref 10)] [] LY88 h ([], LY88, o) := by
  obtain ⟨R, hR⟩ : ∃ R : List Value × Lay × Hp, R = ([], LY88, o) := ⟨_, rfl⟩
  rw [← hR]
  refine seg_Bg (pc' := 4) (lv' := [(0, .ref 10), (1, .int 0), (2, .int 0)]) (st' := []) (lay' := LY88) (h' := h) 4 rfl ?_
  obtain ⟨t3o, et3o, e⟩ := bd_s e
  refine BJcs_dropMade_L4 L xs R (fun (t3 : Int32 × Int32 × Hp) => (lt (hset t3.2.2 10 10 t3.1) fun h4 => some h4) = some o) (fun t3 e => ?_) 1000000 (0, 0, h) _ et3o e
  refine seg_Bg (pc' := 55) (lv' := [(0, .ref 10), (1, .int t3.1), (2, .int t3.2.1)]) (st' := [.int t3.1, .ref 10]) (lay' := LY88) (h' := t3.2.2) 2 rfl ?_
  refine put_Bg (pc' := 58) (lv' := [(0, .ref 10), (1, .int t3.1), (2, .int t3.2.1)]) (st' := []) (lay' := LY88) (x := hset t3.2.2 10 10 t3.1) rfl e fun h4 e => ?_
  rw [hR, ← Option.some.inj e]; exact ret_Bg rfl

set_option maxRecDepth 100000 in
theorem BJcs_reckon_L55_s (L : Nat) (xs : Nat → Int32) (v3 v4 : Int32) (R : List Value × Lay × Hp) (v5 : Int32) (h : Hp) (o : ((Int32 × Hp) ⊕ (Int32 × Hp))) (hH : ∀ s : Int32 × Hp, o = .inl s → Bg L xs 17 55 [(0, .ref 10), (1, .ref 29), (2, .ref 4), (3, .int v3), (4, .int v4), (5, .int s.1)] [] LY88 s.2 R) (hE : ∀ t : Int32 × Hp, o = .inr t → Bg L xs 17 93 [(0, .ref 10), (1, .ref 29), (2, .ref 4), (3, .int v3), (4, .int v4), (5, .int t.1)] [] LY88 t.2 R) (e : Jcs_reckon_L55 v3 v4 v5 h = some o) : Bg L xs 17 55 [(0, .ref 10), (1, .ref 29), (2, .ref 4), (3, .int v3), (4, .int v4), (5, .int v5)] [] LY88 h R := by
  refine seg_Bg (pc' := (if v5 < 6 then 62 else 93)) (lv' := [(0, .ref 10), (1, .ref 29), (2, .ref 4), (3, .int v3), (4, .int v4), (5, .int v5)]) (st' := []) (lay' := LY88) (h' := h) 3 rfl ?_
  refine pc_ite e (fun e => ?_) (fun e => ?_)
  · refine seg_Bg (pc' := 65) (lv' := [(0, .ref 10), (1, .ref 29), (2, .ref 4), (3, .int v3), (4, .int v4), (5, .int v5)]) (st' := [.int v5, .ref 29]) (lay' := LY88) (h' := h) 2 rfl ?_
    refine call_Bg (a := 97) (la := [(0, .ref 29), (1, .int v5)]) (np := 68) (lv' := [(0, .ref 10), (1, .ref 29), (2, .ref 4), (3, .int v3), (4, .int v4), (5, .int v5)]) (rest := []) (res := fun r => ([.int r], LY88, h)) rfl e (fun r e => BJsh_isChosen L xs v5 h r e) (fun c5 e => ?_)
    show Bg L xs 17 68 [(0, .ref 10), (1, .ref 29), (2, .ref 4), (3, .int v3), (4, .int v4), (5, .int v5)] [.int c5] LY88 h R
    refine seg_Bg (pc' := (if c5 = 0 then 87 else 71)) (lv' := [(0, .ref 10), (1, .ref 29), (2, .ref 4), (3, .int v3), (4, .int v4), (5, .int v5)]) (st' := []) (lay' := LY88) (h' := h) 1 rfl ?_
    refine pc_ite e (fun e => ?_) (fun e => ?_)
    · refine seg_Bg (pc' := 55) (lv' := [(0, .ref 10), (1, .ref 29), (2, .ref 4), (3, .int v3), (4, .int v4), (5, .int (v5 + 1))]) (st' := []) (lay' := LY88) (h' := h) 2 rfl ?_
      exact hH (v5 + 1, h) (Option.some.inj e).symm
    · refine seg_Bg (pc' := 77) (lv' := [(0, .ref 10), (1, .ref 29), (2, .ref 4), (3, .int v3), (4, .int v4), (5, .int v5)]) (st' := [.int v5, .ref 29, .int v5, .ref 10]) (lay' := LY88) (h' := h) 4 rfl ?_
      refine call_Bg (a := 95) (la := [(0, .ref 29), (1, .int v5)]) (np := 80) (lv' := [(0, .ref 10), (1, .ref 29), (2, .ref 4), (3, .int v3), (4, .int v4), (5, .int v5)]) (rest := [.int v5, .ref 10]) (res := fun r => ([.int r], LY88, h)) rfl e (fun r e => BJsh_codeAt L xs v5 h r e) (fun c6 e => ?_)
      show Bg L xs 17 80 [(0, .ref 10), (1, .ref 29), (2, .ref 4), (3, .int v3), (4, .int v4), (5, .int v5)] [.int c6, .int v5, .ref 10] LY88 h R
      refine call_Bg (a := 22) (la := [(0, .ref 10), (1, .int v5), (2, .int c6)]) (np := 83) (lv' := [(0, .ref 10), (1, .ref 29), (2, .ref 4), (3, .int v3), (4, .int v4), (5, .int v5)]) (rest := []) (res := fun r => ([], LY88, r)) rfl e (fun r e => BJcs_tryTop L xs v5 c6 h r e) (fun c7 e => ?_)
      show Bg L xs 17 83 [(0, .ref 10), (1, .ref 29), (2, .ref 4), (3, .int v3), (4, .int v4), (5, .int v5)] [] LY88 c7 R
      refine seg_Bg (pc' := 84) (lv' := [(0, .ref 10), (1, .ref 29), (2, .ref 4), (3, .int v3), (4, .int v4), (5, .int v5)]) (st' := [.ref 10]) (lay' := LY88) (h' := c7) 1 rfl ?_
      refine call_Bg (a := 20) (la := [(0, .ref 10)]) (np := 87) (lv' := [(0, .ref 10), (1, .ref 29), (2, .ref 4), (3, .int v3), (4, .int v4), (5, .int v5)]) (rest := []) (res := fun r => ([], LY88, r)) rfl e (fun r e => BJcs_dropMade L xs c7 r e) (fun c8 e => ?_)
      show Bg L xs 17 87 [(0, .ref 10), (1, .ref 29), (2, .ref 4), (3, .int v3), (4, .int v4), (5, .int v5)] [] LY88 c8 R
      refine seg_Bg (pc' := 55) (lv' := [(0, .ref 10), (1, .ref 29), (2, .ref 4), (3, .int v3), (4, .int v4), (5, .int (v5 + 1))]) (st' := []) (lay' := LY88) (h' := c8) 2 rfl ?_
      exact hH (v5 + 1, c8) (Option.some.inj e).symm
  · exact hE (v5, h) (Option.some.inj e).symm
theorem BJcs_reckon_L55 (L : Nat) (xs : Nat → Int32) (v3 v4 : Int32) (R : List Value × Lay × Hp) (C : (Int32 × Hp) → Prop) (hE : ∀ t : Int32 × Hp, C t → Bg L xs 17 93 [(0, .ref 10), (1, .ref 29), (2, .ref 4), (3, .int v3), (4, .int v4), (5, .int t.1)] [] LY88 t.2 R) (n : Nat) (s : Int32 × Hp) (o : (Int32 × Hp)) (e : loopN n (fun s => Jcs_reckon_L55 v3 v4 s.1 s.2) s = some o) (hC : C o) : Bg L xs 17 55 [(0, .ref 10), (1, .ref 29), (2, .ref 4), (3, .int v3), (4, .int v4), (5, .int s.1)] [] LY88 s.2 R := by
  refine loop_B (fun s => Jcs_reckon_L55 v3 v4 s.1 s.2) (fun s : Int32 × Hp => Bg L xs 17 55 [(0, .ref 10), (1, .ref 29), (2, .ref 4), (3, .int v3), (4, .int v4), (5, .int s.1)] [] LY88 s.2 R) C (fun s o e => ?_) n s o e hC
  intro hK
  refine BJcs_reckon_L55_s L xs v3 v4 R s.1 s.2 o (fun s q => by subst q; exact hK) (fun t q => by subst q; exact hE t hK) e
set_option maxRecDepth 100000 in
theorem BJcs_reckon_L18_s (L : Nat) (xs : Nat → Int32) (v3 : Int32) (R : List Value × Lay × Hp) (v4 : Int32) (h : Hp) (o : ((Int32 × Hp) ⊕ (Int32 × Hp))) (hH : ∀ s : Int32 × Hp, o = .inl s → Bg L xs 17 18 [(0, .ref 10), (1, .ref 29), (2, .ref 4), (3, .int v3), (4, .int s.1)] [] LY88 s.2 R) (hE : ∀ t : Int32 × Hp, o = .inr t → Bg L xs 17 103 [(0, .ref 10), (1, .ref 29), (2, .ref 4), (3, .int v3), (4, .int t.1)] [] LY88 t.2 R) (e : Jcs_reckon_L18 v3 v4 h = some o) : Bg L xs 17 18 [(0, .ref 10), (1, .ref 29), (2, .ref 4), (3, .int v3), (4, .int v4)] [] LY88 h R := by
  refine seg_Bg (pc' := (if 9999 < v4 then 103 else 26)) (lv' := [(0, .ref 10), (1, .ref 29), (2, .ref 4), (3, .int v3), (4, .int v4)]) (st' := []) (lay' := LY88) (h' := h) 3 rfl ?_
  refine pc_ite e (fun e => ?_) (fun e => ?_)
  · exact hE (v4, h) (Option.some.inj e).symm
  · refine seg_Bg (pc' := (if (((3 : Int32) * (h 10 13)) + (1 : Int32)) < v4 then 103 else 39)) (lv' := [(0, .ref 10), (1, .ref 29), (2, .ref 4), (3, .int v3), (4, .int v4)]) (st' := []) (lay' := LY88) (h' := h) 8 rfl ?_
    refine pc_ite e (fun e => ?_) (fun e => ?_)
    · exact hE (v4, h) (Option.some.inj e).symm
    · refine seg_Bg (pc' := (if 0 < (h 10 10) then 46 else 103)) (lv' := [(0, .ref 10), (1, .ref 29), (2, .ref 4), (3, .int v3), (4, .int v4)]) (st' := []) (lay' := LY88) (h' := h) 3 rfl ?_
      refine pc_ite e (fun e => ?_) (fun e => ?_)
      · refine seg_Bg (pc' := 49) (lv' := [(0, .ref 10), (1, .ref 29), (2, .ref 4), (3, .int v3), (4, .int v4)]) (st' := [.int v4, .ref 10]) (lay' := LY88) (h' := h) 2 rfl ?_
        refine put_Bg (pc' := 52) (lv' := [(0, .ref 10), (1, .ref 29), (2, .ref 4), (3, .int v3), (4, .int v4)]) (st' := []) (lay' := LY88) (x := hset h 10 12 v4) rfl e fun h4 e => ?_
        refine seg_Bg (pc' := 55) (lv' := [(0, .ref 10), (1, .ref 29), (2, .ref 4), (3, .int v3), (4, .int v4), (5, .int 0)]) (st' := []) (lay' := LY88) (h' := h4) 2 rfl ?_
        obtain ⟨t9o, et9o, e⟩ := bd_s e
        refine BJcs_reckon_L55 L xs v3 v4 R (fun (t9 : Int32 × Hp) => (bd (Jcs_settle t9.2) fun c10 => some (.inl (v4 + 1, c10))) = some o) (fun t9 e => ?_) 1000000 (0, h4) _ et9o e
        refine seg_Bg (pc' := 94) (lv' := [(0, .ref 10), (1, .ref 29), (2, .ref 4), (3, .int v3), (4, .int v4), (5, .int t9.1)]) (st' := [.ref 10]) (lay' := LY88) (h' := t9.2) 1 rfl ?_
        refine call_Bg (a := 21) (la := [(0, .ref 10)]) (np := 97) (lv' := [(0, .ref 10), (1, .ref 29), (2, .ref 4), (3, .int v3), (4, .int v4), (5, .int t9.1)]) (rest := []) (res := fun r => ([], LY88, r)) rfl e (fun r e => BJcs_settle L xs t9.2 r e) (fun c10 e => ?_)
        show Bg L xs 17 97 [(0, .ref 10), (1, .ref 29), (2, .ref 4), (3, .int v3), (4, .int v4), (5, .int t9.1)] [] LY88 c10 R
        refine seg_Bg (pc' := 18) (lv' := [(0, .ref 10), (1, .ref 29), (2, .ref 4), (3, .int v3), (4, .int (v4 + 1)), (5, .int t9.1)]) (st' := []) (lay' := LY88) (h' := c10) 2 rfl ?_
        refine kp_Bg (lv' := [(0, .ref 10), (1, .ref 29), (2, .ref 4), (3, .int v3), (4, .int (v4 + 1))]) rfl rfl ?_
        exact hH (v4 + 1, c10) (Option.some.inj e).symm
      · exact hE (v4, h) (Option.some.inj e).symm
theorem BJcs_reckon_L18 (L : Nat) (xs : Nat → Int32) (v3 : Int32) (R : List Value × Lay × Hp) (C : (Int32 × Hp) → Prop) (hE : ∀ t : Int32 × Hp, C t → Bg L xs 17 103 [(0, .ref 10), (1, .ref 29), (2, .ref 4), (3, .int v3), (4, .int t.1)] [] LY88 t.2 R) (n : Nat) (s : Int32 × Hp) (o : (Int32 × Hp)) (e : loopN n (fun s => Jcs_reckon_L18 v3 s.1 s.2) s = some o) (hC : C o) : Bg L xs 17 18 [(0, .ref 10), (1, .ref 29), (2, .ref 4), (3, .int v3), (4, .int s.1)] [] LY88 s.2 R := by
  refine loop_B (fun s => Jcs_reckon_L18 v3 s.1 s.2) (fun s : Int32 × Hp => Bg L xs 17 18 [(0, .ref 10), (1, .ref 29), (2, .ref 4), (3, .int v3), (4, .int s.1)] [] LY88 s.2 R) C (fun s o e => ?_) n s o e hC
  intro hK
  refine BJcs_reckon_L18_s L xs v3 R s.1 s.2 o (fun s q => by subst q; exact hK) (fun t q => by subst q; exact hE t hK) e
set_option maxRecDepth 100000 in
theorem BJcs_reckon (L : Nat) (xs : Nat → Int32) (v3 : Int32) (h : Hp) (o : Hp) (e : Jcs_reckon v3 h = some o) : Bg L xs 17 0 [(0, .ref 10), (1, .ref 29), (2, .ref 4), (3, .int v3)] [] LY88 h ([], LY88, o) := by
  obtain ⟨R, hR⟩ : ∃ R : List Value × Lay × Hp, R = ([], LY88, o) := ⟨_, rfl⟩
  rw [← hR]
  refine seg_Bg (pc' := 2) (lv' := [(0, .ref 10), (1, .ref 29), (2, .ref 4), (3, .int v3)]) (st' := [.ref 29, .ref 10]) (lay' := LY88) (h' := h) 2 rfl ?_
  refine call_Bg (a := 18) (la := [(0, .ref 10), (1, .ref 29)]) (np := 5) (lv' := [(0, .ref 10), (1, .ref 29), (2, .ref 4), (3, .int v3)]) (rest := []) (res := fun r => ([], LY88, r)) rfl e (fun r e => BJcs_start L xs h r e) (fun c1 e => ?_)
  show Bg L xs 17 5 [(0, .ref 10), (1, .ref 29), (2, .ref 4), (3, .int v3)] [] LY88 c1 R
  refine seg_Bg (pc' := 8) (lv' := [(0, .ref 10), (1, .ref 29), (2, .ref 4), (3, .int v3)]) (st' := [.int v3, .ref 4, .ref 10]) (lay' := LY88) (h' := c1) 3 rfl ?_
  refine call_Bg (a := 19) (la := [(0, .ref 10), (1, .ref 4), (2, .int v3)]) (np := 11) (lv' := [(0, .ref 10), (1, .ref 29), (2, .ref 4), (3, .int v3)]) (rest := []) (res := fun r => ([], LY88, r)) rfl e (fun r e => BJcs_miss L xs v3 c1 r e) (fun c2 e => ?_)
  show Bg L xs 17 11 [(0, .ref 10), (1, .ref 29), (2, .ref 4), (3, .int v3)] [] LY88 c2 R
  refine seg_Bg (pc' := 12) (lv' := [(0, .ref 10), (1, .ref 29), (2, .ref 4), (3, .int v3)]) (st' := [.ref 10]) (lay' := LY88) (h' := c2) 1 rfl ?_
  refine call_Bg (a := 21) (la := [(0, .ref 10)]) (np := 15) (lv' := [(0, .ref 10), (1, .ref 29), (2, .ref 4), (3, .int v3)]) (rest := []) (res := fun r => ([], LY88, r)) rfl e (fun r e => BJcs_settle L xs c2 r e) (fun c3 e => ?_)
  show Bg L xs 17 15 [(0, .ref 10), (1, .ref 29), (2, .ref 4), (3, .int v3)] [] LY88 c3 R
  refine seg_Bg (pc' := 18) (lv' := [(0, .ref 10), (1, .ref 29), (2, .ref 4), (3, .int v3), (4, .int 1)]) (st' := []) (lay' := LY88) (h' := c3) 2 rfl ?_
  obtain ⟨t11o, et11o, e⟩ := bd_s e
  refine BJcs_reckon_L18 L xs v3 R (fun (t11 : Int32 × Hp) => (some t11.2) = some o) (fun t11 e => ?_) 1000000 (1, c3) _ et11o e
  rw [hR, ← Option.some.inj e]; exact ret_Bg rfl

set_option maxRecDepth 100000 in
theorem BJwy_forget_L2_s (L : Nat) (xs : Nat → Int32) (R : List Value × Lay × Hp) (v1 : Int32) (h : Hp) (o : ((Int32 × Hp) ⊕ (Int32 × Hp))) (hH : ∀ s : Int32 × Hp, o = .inl s → Bg L xs 116 2 [(0, .ref 9), (1, .int s.1)] [] LY88 s.2 R) (hE : ∀ t : Int32 × Hp, o = .inr t → Bg L xs 116 29 [(0, .ref 9), (1, .int t.1)] [] LY88 t.2 R) (e : Jwy_forget_L2 v1 h = some o) : Bg L xs 116 2 [(0, .ref 9), (1, .int v1)] [] LY88 h R := by
  refine seg_Bg (pc' := (if v1 < 256 then 9 else 29)) (lv' := [(0, .ref 9), (1, .int v1)]) (st' := []) (lay' := LY88) (h' := h) 3 rfl ?_
  refine pc_ite e (fun e => ?_) (fun e => ?_)
  · refine seg_Bg (pc' := 15) (lv' := [(0, .ref 9), (1, .int v1)]) (st' := [.int 0, .int v1, .ref 23]) (lay' := LY88) (h' := h) 4 rfl ?_
    refine gp_Bg (pc' := 16) (lv' := [(0, .ref 9), (1, .int v1)]) (st' := []) (lay' := LY88) (x := hset h 23 (Int32.toNatClampNeg v1) (vp_nar .boolean 0)) (g := ibB v1 256) rfl e fun h1 e => ?_
    refine seg_Bg (pc' := 22) (lv' := [(0, .ref 9), (1, .int v1)]) (st' := [.int 0, .int v1, .ref 25]) (lay' := LY88) (h' := h1) 4 rfl ?_
    refine gp_Bg (pc' := 23) (lv' := [(0, .ref 9), (1, .int v1)]) (st' := []) (lay' := LY88) (x := hset h1 25 (Int32.toNatClampNeg v1) 0) (g := ibB v1 256) rfl e fun h2 e => ?_
    refine seg_Bg (pc' := 2) (lv' := [(0, .ref 9), (1, .int (v1 + 1))]) (st' := []) (lay' := LY88) (h' := h2) 2 rfl ?_
    exact hH (v1 + 1, h2) (Option.some.inj e).symm
  · exact hE (v1, h) (Option.some.inj e).symm
theorem BJwy_forget_L2 (L : Nat) (xs : Nat → Int32) (R : List Value × Lay × Hp) (C : (Int32 × Hp) → Prop) (hE : ∀ t : Int32 × Hp, C t → Bg L xs 116 29 [(0, .ref 9), (1, .int t.1)] [] LY88 t.2 R) (n : Nat) (s : Int32 × Hp) (o : (Int32 × Hp)) (e : loopN n (fun s => Jwy_forget_L2 s.1 s.2) s = some o) (hC : C o) : Bg L xs 116 2 [(0, .ref 9), (1, .int s.1)] [] LY88 s.2 R := by
  refine loop_B (fun s => Jwy_forget_L2 s.1 s.2) (fun s : Int32 × Hp => Bg L xs 116 2 [(0, .ref 9), (1, .int s.1)] [] LY88 s.2 R) C (fun s o e => ?_) n s o e hC
  intro hK
  refine BJwy_forget_L2_s L xs R s.1 s.2 o (fun s q => by subst q; exact hK) (fun t q => by subst q; exact hE t hK) e
set_option maxRecDepth 100000 in
theorem BJwy_forget (L : Nat) (xs : Nat → Int32) (h : Hp) (o : Hp) (e : Jwy_forget h = some o) : Bg L xs 116 0 [(0, .ref 9)] [] LY88 h ([], LY88, o) := by
  obtain ⟨R, hR⟩ : ∃ R : List Value × Lay × Hp, R = ([], LY88, o) := ⟨_, rfl⟩
  rw [← hR]
  refine seg_Bg (pc' := 2) (lv' := [(0, .ref 9), (1, .int 0)]) (st' := []) (lay' := LY88) (h' := h) 2 rfl ?_
  obtain ⟨t3o, et3o, e⟩ := bd_s e
  refine BJwy_forget_L2 L xs R (fun (t3 : Int32 × Hp) => (some t3.2) = some o) (fun t3 e => ?_) 1000000 (0, h) _ et3o e
  rw [hR, ← Option.some.inj e]; exact ret_Bg rfl

set_option maxRecDepth 100000 in
theorem BJyn_reckoned (L : Nat) (xs : Nat → Int32) (h : Hp) (o : Hp) (e : Jyn_reckoned h = some o) : Bg L xs 163 0 [(0, .ref 0)] [] LY88 h ([.ref 10], LY88, o) := by
  obtain ⟨R, hR⟩ : ∃ R : List Value × Lay × Hp, R = ([.ref 10], LY88, o) := ⟨_, rfl⟩
  rw [← hR]
  refine seg_Bg (pc' := 4) (lv' := [(0, .ref 0)]) (st' := [.ref 9]) (lay' := LY88) (h' := h) 2 rfl ?_
  refine call_Bg (a := 115) (la := [(0, .ref 9)]) (np := 7) (lv' := [(0, .ref 0)]) (rest := []) (res := fun r => ([.ref 10], LY88, h)) rfl e (fun r e => BJwy_costs L xs h r e) (fun c1 e => ?_)
  show Bg L xs 163 7 [(0, .ref 0)] [.ref 10] LY88 h R
  refine seg_Bg (pc' := 13) (lv' := [(0, .ref 0), (1, .ref 10)]) (st' := [.ref 29, .ref 10]) (lay' := LY88) (h' := h) 4 rfl ?_
  refine call_Bg (a := 16) (la := [(0, .ref 10), (1, .ref 29)]) (np := 16) (lv' := [(0, .ref 0), (1, .ref 10)]) (rest := []) (res := fun r => ([.int r], LY88, h)) rfl e (fun r e => BJcs_areOf L xs h r e) (fun c2 e => ?_)
  show Bg L xs 163 16 [(0, .ref 0), (1, .ref 10)] [.int c2] LY88 h R
  refine seg_Bg (pc' := (if c2 = 0 then 19 else 42)) (lv' := [(0, .ref 0), (1, .ref 10)]) (st' := []) (lay' := LY88) (h' := h) 1 rfl ?_
  refine pc_ite e (fun e => ?_) (fun e => ?_)
  · refine seg_Bg (pc' := 29) (lv' := [(0, .ref 0), (1, .ref 10)]) (st' := [.ref 0, .ref 4, .ref 29, .ref 10]) (lay' := LY88) (h' := h) 6 rfl ?_
    refine call_Bg (a := 160) (la := [(0, .ref 0)]) (np := 32) (lv' := [(0, .ref 0), (1, .ref 10)]) (rest := [.ref 4, .ref 29, .ref 10]) (res := fun r => ([.int r], LY88, h)) rfl e (fun r e => BJyn_common L xs h r e) (fun c3 e => ?_)
    show Bg L xs 163 32 [(0, .ref 0), (1, .ref 10)] [.int c3, .ref 4, .ref 29, .ref 10] LY88 h R
    refine call_Bg (a := 17) (la := [(0, .ref 10), (1, .ref 29), (2, .ref 4), (3, .int c3)]) (np := 35) (lv' := [(0, .ref 0), (1, .ref 10)]) (rest := []) (res := fun r => ([], LY88, r)) rfl e (fun r e => BJcs_reckon L xs c3 h r e) (fun c4 e => ?_)
    show Bg L xs 163 35 [(0, .ref 0), (1, .ref 10)] [] LY88 c4 R
    refine seg_Bg (pc' := 39) (lv' := [(0, .ref 0), (1, .ref 10)]) (st' := [.ref 9]) (lay' := LY88) (h' := c4) 2 rfl ?_
    refine call_Bg (a := 116) (la := [(0, .ref 9)]) (np := 42) (lv' := [(0, .ref 0), (1, .ref 10)]) (rest := []) (res := fun r => ([], LY88, r)) rfl e (fun r e => BJwy_forget L xs c4 r e) (fun c5 e => ?_)
    show Bg L xs 163 42 [(0, .ref 0), (1, .ref 10)] [] LY88 c5 R
    refine seg_Bg (pc' := 43) (lv' := [(0, .ref 0), (1, .ref 10)]) (st' := [.ref 10]) (lay' := LY88) (h' := c5) 1 rfl ?_
    rw [hR, ← Option.some.inj e]; exact ret_Bg rfl
  · refine seg_Bg (pc' := 43) (lv' := [(0, .ref 0), (1, .ref 10)]) (st' := [.ref 10]) (lay' := LY88) (h' := h) 1 rfl ?_
    rw [hR, ← Option.some.inj e]; exact ret_Bg rfl

set_option maxRecDepth 100000 in
theorem BJcs_madeCount (L : Nat) (xs : Nat → Int32) (h : Hp) (o : Int32) (e : Jcs_madeCount h = some o) : Bg L xs 31 0 [(0, .ref 10)] [] LY88 h ([.int o], LY88, h) := by
  obtain ⟨R, hR⟩ : ∃ R : List Value × Lay × Hp, R = ([.int o], LY88, h) := ⟨_, rfl⟩
  rw [← hR]
  refine seg_Bg (pc' := 4) (lv' := [(0, .ref 10)]) (st' := [.int (h 10 9)]) (lay' := LY88) (h' := h) 2 rfl ?_
  rw [hR, ← Option.some.inj e]; exact ret_Bg rfl

set_option maxRecDepth 100000 in
theorem BJcs_greatestCost (L : Nat) (xs : Nat → Int32) (h : Hp) (o : Int32) (e : Jcs_greatestCost h = some o) : Bg L xs 32 0 [(0, .ref 10)] [] LY88 h ([.int o], LY88, h) := by
  obtain ⟨R, hR⟩ : ∃ R : List Value × Lay × Hp, R = ([.int o], LY88, h) := ⟨_, rfl⟩
  rw [← hR]
  refine seg_Bg (pc' := 4) (lv' := [(0, .ref 10)]) (st' := [.int (h 10 13)]) (lay' := LY88) (h' := h) 2 rfl ?_
  rw [hR, ← Option.some.inj e]; exact ret_Bg rfl

set_option maxRecDepth 100000 in
theorem BJcs_madeAt (L : Nat) (xs : Nat → Int32) (v1 : Int32) (h : Hp) (o : Int32) (e : Jcs_madeAt v1 h = some o) : Bg L xs 30 0 [(0, .ref 10), (1, .int v1)] [] LY88 h ([.int o], LY88, h) := by
  obtain ⟨R, hR⟩ : ∃ R : List Value × Lay × Hp, R = ([.int o], LY88, h) := ⟨_, rfl⟩
  rw [← hR]
  refine seg_Bg (pc' := (if v1 < 0 then 28 else 4)) (lv' := [(0, .ref 10), (1, .int v1)]) (st' := []) (lay' := LY88) (h' := h) 2 rfl ?_
  refine pc_ite e (fun e => ?_) (fun e => ?_)
  · refine seg_Bg (pc' := 29) (lv' := [(0, .ref 10), (1, .int v1)]) (st' := [.int (-1)]) (lay' := LY88) (h' := h) 1 rfl ?_
    rw [hR, ← Option.some.inj e]; exact ret_Bg rfl
  · refine seg_Bg (pc' := (if v1 < (h 10 9) then 12 else 28)) (lv' := [(0, .ref 10), (1, .int v1)]) (st' := []) (lay' := LY88) (h' := h) 4 rfl ?_
    refine pc_ite e (fun e => ?_) (fun e => ?_)
    · refine seg_Bg (pc' := (if v1 < 256 then 19 else 28)) (lv' := [(0, .ref 10), (1, .int v1)]) (st' := []) (lay' := LY88) (h' := h) 3 rfl ?_
      refine pc_ite e (fun e => ?_) (fun e => ?_)
      · refine seg_Bg (pc' := 24) (lv' := [(0, .ref 10), (1, .int v1)]) (st' := [.int v1, .ref 13]) (lay' := LY88) (h' := h) 3 rfl ?_
        refine gd_Bg (pc' := 25) (lv' := [(0, .ref 10), (1, .int v1)]) (st' := [.int (h 13 (Int32.toNatClampNeg v1))]) (lay' := LY88) (h' := h) (g := ibB v1 256) rfl e fun e => ?_
        refine seg_Bg (pc' := 29) (lv' := [(0, .ref 10), (1, .int v1)]) (st' := [.int (h 13 (Int32.toNatClampNeg v1))]) (lay' := LY88) (h' := h) 1 rfl ?_
        rw [hR, ← Option.some.inj e]; exact ret_Bg rfl
      · refine seg_Bg (pc' := 29) (lv' := [(0, .ref 10), (1, .int v1)]) (st' := [.int (-1)]) (lay' := LY88) (h' := h) 1 rfl ?_
        rw [hR, ← Option.some.inj e]; exact ret_Bg rfl
    · refine seg_Bg (pc' := 29) (lv' := [(0, .ref 10), (1, .int v1)]) (st' := [.int (-1)]) (lay' := LY88) (h' := h) 1 rfl ?_
      rw [hR, ← Option.some.inj e]; exact ret_Bg rfl

set_option maxRecDepth 100000 in
theorem BJcs_leastCodeCosting (L : Nat) (xs : Nat → Int32) (v1 : Int32) (h : Hp) (o : Int32) (e : Jcs_leastCodeCosting v1 h = some o) : Bg L xs 33 0 [(0, .ref 10), (1, .int v1)] [] LY88 h ([.int o], LY88, h) := by
  obtain ⟨R, hR⟩ : ∃ R : List Value × Lay × Hp, R = ([.int o], LY88, h) := ⟨_, rfl⟩
  rw [← hR]
  refine seg_Bg (pc' := 4) (lv' := [(0, .ref 10), (1, .int v1)]) (st' := [.int 1, .int v1, .ref 10, .ref 10]) (lay' := LY88) (h' := h) 4 rfl ?_
  refine call_Bg (a := 28) (la := [(0, .ref 10), (1, .int v1), (2, .int 1)]) (np := 7) (lv' := [(0, .ref 10), (1, .int v1)]) (rest := [.ref 10]) (res := fun r => ([.int r], LY88, h)) rfl e (fun r e => BJcs_partsFrom L xs v1 1 h r e) (fun c1 e => ?_)
  show Bg L xs 33 7 [(0, .ref 10), (1, .int v1)] [.int c1, .ref 10] LY88 h R
  refine call_Bg (a := 30) (la := [(0, .ref 10), (1, .int c1)]) (np := 10) (lv' := [(0, .ref 10), (1, .int v1)]) (rest := []) (res := fun r => ([.int r], LY88, h)) rfl e (fun r e => BJcs_madeAt L xs c1 h r e) (fun c2 e => ?_)
  show Bg L xs 33 10 [(0, .ref 10), (1, .int v1)] [.int c2] LY88 h R
  rw [hR, ← Option.some.inj e]; exact ret_Bg rfl

set_option maxRecDepth 100000 in
theorem BJyn_spare_L18_s (L : Nat) (xs : Nat → Int32) (v1 v2 : Int32) (h : Hp) (R : List Value × Lay × Hp) (v3 v4 : Int32) (o : ((Int32 × Int32) ⊕ (Int32 × Int32))) (hH : ∀ s : Int32 × Int32, o = .inl s → Bg L xs 162 18 [(0, .ref 0), (1, .int v1), (2, .int v2), (3, .int s.1), (4, .int s.2)] [] LY88 h R) (hE : ∀ t : Int32 × Int32, o = .inr t → Bg L xs 162 68 [(0, .ref 0), (1, .int v1), (2, .int v2), (3, .int t.1), (4, .int t.2)] [] LY88 h R) (e : Jyn_spare_L18 v1 v2 h v3 v4 = some o) : Bg L xs 162 18 [(0, .ref 0), (1, .int v1), (2, .int v2), (3, .int v3), (4, .int v4)] [] LY88 h R := by
  refine seg_Bg (pc' := 24) (lv' := [(0, .ref 0), (1, .int v1), (2, .int v2), (3, .int v3), (4, .int v4)]) (st' := [.ref 29, .int v4]) (lay' := LY88) (h' := h) 3 rfl ?_
  refine call_Bg (a := 92) (la := [(0, .ref 29)]) (np := 27) (lv' := [(0, .ref 0), (1, .int v1), (2, .int v2), (3, .int v3), (4, .int v4)]) (rest := [.int v4]) (res := fun r => ([.int r], LY88, h)) rfl e (fun r e => BJsh_size L xs h r e) (fun c3 e => ?_)
  show Bg L xs 162 27 [(0, .ref 0), (1, .int v1), (2, .int v2), (3, .int v3), (4, .int v4)] [.int c3, .int v4] LY88 h R
  refine seg_Bg (pc' := (if v4 < c3 then 30 else 68)) (lv' := [(0, .ref 0), (1, .int v1), (2, .int v2), (3, .int v3), (4, .int v4)]) (st' := []) (lay' := LY88) (h' := h) 1 rfl ?_
  refine pc_ite e (fun e => ?_) (fun e => ?_)
  · refine seg_Bg (pc' := (if ((v1 >>> (v4 &&& 31) : Int32) &&& (1 : Int32)) = 0 then 62 else 39)) (lv' := [(0, .ref 0), (1, .int v1), (2, .int v2), (3, .int v3), (4, .int v4)]) (st' := []) (lay' := LY88) (h' := h) 6 rfl ?_
    refine pc_ite e (fun e => ?_) (fun e => ?_)
    · refine seg_Bg (pc' := 18) (lv' := [(0, .ref 0), (1, .int v1), (2, .int v2), (3, .int v3), (4, .int (v4 + 1))]) (st' := []) (lay' := LY88) (h' := h) 2 rfl ?_
      exact hH (v3, v4 + 1) (Option.some.inj e).symm
    · refine seg_Bg (pc' := 48) (lv' := [(0, .ref 0), (1, .int v1), (2, .int v2), (3, .int v3), (4, .int v4)]) (st' := [.int (v1 &&& (((1 : Int32) <<< (v4 &&& 31) : Int32) ^^^ (-1 : Int32))), .ref 0]) (lay' := LY88) (h' := h) 8 rfl ?_
      refine call_Bg (a := 161) (la := [(0, .ref 0), (1, .int (v1 &&& (((1 : Int32) <<< (v4 &&& 31) : Int32) ^^^ (-1 : Int32))))]) (np := 51) (lv' := [(0, .ref 0), (1, .int v1), (2, .int v2), (3, .int v3), (4, .int v4)]) (rest := []) (res := fun r => ([.int r], LY88, h)) rfl e (fun r e => BJyn_commonOf L xs (v1 &&& (((1 : Int32) <<< (v4 &&& 31) : Int32) ^^^ (-1 : Int32))) h r e) (fun c4 e => ?_)
      show Bg L xs 162 51 [(0, .ref 0), (1, .int v1), (2, .int v2), (3, .int v3), (4, .int v4)] [.int c4] LY88 h R
      refine seg_Bg (pc' := (if c4 = v2 then 55 else 62)) (lv' := [(0, .ref 0), (1, .int v1), (2, .int v2), (3, .int v3), (4, .int v4)]) (st' := []) (lay' := LY88) (h' := h) 2 rfl ?_
      refine pc_ite e (fun e => ?_) (fun e => ?_)
      · refine seg_Bg (pc' := 18) (lv' := [(0, .ref 0), (1, .int v1), (2, .int v2), (3, .int (v3 ||| ((1 : Int32) <<< (v4 &&& 31) : Int32))), (4, .int (v4 + 1))]) (st' := []) (lay' := LY88) (h' := h) 8 rfl ?_
        exact hH (v3 ||| ((1 : Int32) <<< (v4 &&& 31) : Int32), v4 + 1) (Option.some.inj e).symm
      · refine seg_Bg (pc' := 18) (lv' := [(0, .ref 0), (1, .int v1), (2, .int v2), (3, .int v3), (4, .int (v4 + 1))]) (st' := []) (lay' := LY88) (h' := h) 2 rfl ?_
        exact hH (v3, v4 + 1) (Option.some.inj e).symm
  · exact hE (v3, v4) (Option.some.inj e).symm
theorem BJyn_spare_L18 (L : Nat) (xs : Nat → Int32) (v1 v2 : Int32) (h : Hp) (R : List Value × Lay × Hp) (C : (Int32 × Int32) → Prop) (hE : ∀ t : Int32 × Int32, C t → Bg L xs 162 68 [(0, .ref 0), (1, .int v1), (2, .int v2), (3, .int t.1), (4, .int t.2)] [] LY88 h R) (n : Nat) (s : Int32 × Int32) (o : (Int32 × Int32)) (e : loopN n (fun s => Jyn_spare_L18 v1 v2 h s.1 s.2) s = some o) (hC : C o) : Bg L xs 162 18 [(0, .ref 0), (1, .int v1), (2, .int v2), (3, .int s.1), (4, .int s.2)] [] LY88 h R := by
  refine loop_B (fun s => Jyn_spare_L18 v1 v2 h s.1 s.2) (fun s : Int32 × Int32 => Bg L xs 162 18 [(0, .ref 0), (1, .int v1), (2, .int v2), (3, .int s.1), (4, .int s.2)] [] LY88 h R) C (fun s o e => ?_) n s o e hC
  intro hK
  refine BJyn_spare_L18_s L xs v1 v2 h R s.1 s.2 o (fun s q => by subst q; exact hK) (fun t q => by subst q; exact hE t hK) e
set_option maxRecDepth 100000 in
theorem BJyn_spare (L : Nat) (xs : Nat → Int32) (h : Hp) (o : Int32) (e : Jyn_spare h = some o) : Bg L xs 162 0 [(0, .ref 0)] [] LY88 h ([.int o], LY88, h) := by
  obtain ⟨R, hR⟩ : ∃ R : List Value × Lay × Hp, R = ([.int o], LY88, h) := ⟨_, rfl⟩
  rw [← hR]
  refine seg_Bg (pc' := 4) (lv' := [(0, .ref 0)]) (st' := [.ref 29]) (lay' := LY88) (h' := h) 2 rfl ?_
  refine call_Bg (a := 96) (la := [(0, .ref 29)]) (np := 7) (lv' := [(0, .ref 0)]) (rest := []) (res := fun r => ([.int r], LY88, h)) rfl e (fun r e => BJsh_chosenSet L xs h r e) (fun c1 e => ?_)
  show Bg L xs 162 7 [(0, .ref 0)] [.int c1] LY88 h R
  refine seg_Bg (pc' := 9) (lv' := [(0, .ref 0), (1, .int c1)]) (st' := [.ref 0]) (lay' := LY88) (h' := h) 2 rfl ?_
  refine call_Bg (a := 160) (la := [(0, .ref 0)]) (np := 12) (lv' := [(0, .ref 0), (1, .int c1)]) (rest := []) (res := fun r => ([.int r], LY88, h)) rfl e (fun r e => BJyn_common L xs h r e) (fun c2 e => ?_)
  show Bg L xs 162 12 [(0, .ref 0), (1, .int c1)] [.int c2] LY88 h R
  refine seg_Bg (pc' := 18) (lv' := [(0, .ref 0), (1, .int c1), (2, .int c2), (3, .int 0), (4, .int 0)]) (st' := []) (lay' := LY88) (h' := h) 5 rfl ?_
  obtain ⟨t5o, et5o, e⟩ := bd_s e
  refine BJyn_spare_L18 L xs c1 c2 h R (fun (t5 : Int32 × Int32) => (some t5.1) = some o) (fun t5 e => ?_) 1000000 (0, 0) _ et5o e
  refine seg_Bg (pc' := 69) (lv' := [(0, .ref 0), (1, .int c1), (2, .int c2), (3, .int t5.1), (4, .int t5.2)]) (st' := [.int t5.1]) (lay' := LY88) (h' := h) 1 rfl ?_
  rw [hR, ← Option.some.inj e]; exact ret_Bg rfl

set_option maxRecDepth 100000 in
theorem BJpl_count (L : Nat) (xs : Nat → Int32) (h : Hp) (o : Int32) (e : Jpl_count h = some o) : Bg L xs 63 0 [(0, .ref 4)] [] LY88 h ([.int o], LY88, h) := by
  obtain ⟨R, hR⟩ : ∃ R : List Value × Lay × Hp, R = ([.int o], LY88, h) := ⟨_, rfl⟩
  rw [← hR]
  refine seg_Bg (pc' := 4) (lv' := [(0, .ref 4)]) (st' := [.int (h 4 4)]) (lay' := LY88) (h' := h) 2 rfl ?_
  rw [hR, ← Option.some.inj e]; exact ret_Bg rfl

set_option maxRecDepth 100000 in
theorem BJbk_size (L : Nat) (xs : Nat → Int32) (h : Hp) (o : Int32) (e : Jbk_size h = some o) : Bg L xs 1 0 [(0, .ref 26)] [] LY88 h ([.int o], LY88, h) := by
  obtain ⟨R, hR⟩ : ∃ R : List Value × Lay × Hp, R = ([.int o], LY88, h) := ⟨_, rfl⟩
  rw [← hR]
  refine seg_Bg (pc' := 4) (lv' := [(0, .ref 26)]) (st' := [.int (h 26 2)]) (lay' := LY88) (h' := h) 2 rfl ?_
  rw [hR, ← Option.some.inj e]; exact ret_Bg rfl

set_option maxRecDepth 100000 in
theorem BJcs_costOf (L : Nat) (xs : Nat → Int32) (v1 : Int32) (h : Hp) (o : Int32) (e : Jcs_costOf v1 h = some o) : Bg L xs 36 0 [(0, .ref 10), (1, .int v1)] [] LY88 h ([.int o], LY88, h) := by
  obtain ⟨R, hR⟩ : ∃ R : List Value × Lay × Hp, R = ([.int o], LY88, h) := ⟨_, rfl⟩
  rw [← hR]
  refine seg_Bg (pc' := 1) (lv' := [(0, .ref 10), (1, .int v1)]) (st' := [.int v1]) (lay' := LY88) (h' := h) 1 rfl ?_
  refine call_Bg (a := 158) (la := [(0, .int v1)]) (np := 4) (lv' := [(0, .ref 10), (1, .int v1)]) (rest := []) (res := fun r => ([.int r], LY88, h)) rfl e (fun r e => BJyn_isCode L xs v1 LY88 h r e) (fun c1 e => ?_)
  show Bg L xs 36 4 [(0, .ref 10), (1, .int v1)] [.int c1] LY88 h R
  refine seg_Bg (pc' := (if c1 = 0 then 16 else 7)) (lv' := [(0, .ref 10), (1, .int v1)]) (st' := []) (lay' := LY88) (h' := h) 1 rfl ?_
  refine pc_ite e (fun e => ?_) (fun e => ?_)
  · refine seg_Bg (pc' := 17) (lv' := [(0, .ref 10), (1, .int v1)]) (st' := [.int (-1)]) (lay' := LY88) (h' := h) 1 rfl ?_
    rw [hR, ← Option.some.inj e]; exact ret_Bg rfl
  · refine seg_Bg (pc' := 12) (lv' := [(0, .ref 10), (1, .int v1)]) (st' := [.int v1, .ref 11]) (lay' := LY88) (h' := h) 3 rfl ?_
    refine gd_Bg (pc' := 13) (lv' := [(0, .ref 10), (1, .int v1)]) (st' := [.int (h 11 (Int32.toNatClampNeg v1))]) (lay' := LY88) (h' := h) (g := ibB v1 256) rfl e fun e => ?_
    refine seg_Bg (pc' := 17) (lv' := [(0, .ref 10), (1, .int v1)]) (st' := [.int (h 11 (Int32.toNatClampNeg v1))]) (lay' := LY88) (h' := h) 1 rfl ?_
    rw [hR, ← Option.some.inj e]; exact ret_Bg rfl

set_option maxRecDepth 100000 in
theorem BJbk_firstWrong_L2_s (L : Nat) (xs : Nat → Int32) (h : Hp) (R : List Value × Lay × Hp) (v2 : Int32) (o : ((Int32) ⊕ ((Int32) ⊕ (Int32)))) (hH : ∀ s : Int32, o = .inl s → Bg L xs 4 2 [(0, .ref 26), (1, .ref 10), (2, .int s)] [] LY88 h R) (hE : ∀ t : Int32, o = .inr (.inl t) → Bg L xs 4 43 [(0, .ref 26), (1, .ref 10), (2, .int t)] [] LY88 h R) (hR : ∀ r : Int32, o = .inr (.inr r) → R = ([.int r], LY88, h)) (e : Jbk_firstWrong_L2 h v2 = some o) : Bg L xs 4 2 [(0, .ref 26), (1, .ref 10), (2, .int v2)] [] LY88 h R := by
  refine seg_Bg (pc' := (if v2 < (h 26 2) then 10 else 43)) (lv' := [(0, .ref 26), (1, .ref 10), (2, .int v2)]) (st' := []) (lay' := LY88) (h' := h) 4 rfl ?_
  refine pc_ite e (fun e => ?_) (fun e => ?_)
  · refine seg_Bg (pc' := (if v2 < 20 then 16 else 43)) (lv' := [(0, .ref 26), (1, .ref 10), (2, .int v2)]) (st' := []) (lay' := LY88) (h' := h) 3 rfl ?_
    refine pc_ite e (fun e => ?_) (fun e => ?_)
    · refine seg_Bg (pc' := 22) (lv' := [(0, .ref 26), (1, .ref 10), (2, .int v2)]) (st' := [.int v2, .ref 27, .ref 10]) (lay' := LY88) (h' := h) 4 rfl ?_
      refine gd_Bg (pc' := 23) (lv' := [(0, .ref 26), (1, .ref 10), (2, .int v2)]) (st' := [.int (h 27 (Int32.toNatClampNeg v2)), .ref 10]) (lay' := LY88) (h' := h) (g := ibB v2 20) rfl e fun e => ?_
      refine call_Bg (a := 36) (la := [(0, .ref 10), (1, .int (h 27 (Int32.toNatClampNeg v2)))]) (np := 26) (lv' := [(0, .ref 26), (1, .ref 10), (2, .int v2)]) (rest := []) (res := fun r => ([.int r], LY88, h)) rfl e (fun r e => BJcs_costOf L xs (h 27 (Int32.toNatClampNeg v2)) h r e) (fun c1 e => ?_)
      show Bg L xs 4 26 [(0, .ref 26), (1, .ref 10), (2, .int v2)] [.int c1] LY88 h R
      refine seg_Bg (pc' := 31) (lv' := [(0, .ref 26), (1, .ref 10), (2, .int v2)]) (st' := [.int v2, .ref 28, .int c1]) (lay' := LY88) (h' := h) 3 rfl ?_
      refine gd_Bg (pc' := 32) (lv' := [(0, .ref 26), (1, .ref 10), (2, .int v2)]) (st' := [.int (h 28 (Int32.toNatClampNeg v2)), .int c1]) (lay' := LY88) (h' := h) (g := ibB v2 20) rfl e fun e => ?_
      refine seg_Bg (pc' := (if c1 = (h 28 (Int32.toNatClampNeg v2)) then 37 else 35)) (lv' := [(0, .ref 26), (1, .ref 10), (2, .int v2)]) (st' := []) (lay' := LY88) (h' := h) 1 rfl ?_
      refine pc_ite e (fun e => ?_) (fun e => ?_)
      · refine seg_Bg (pc' := 2) (lv' := [(0, .ref 26), (1, .ref 10), (2, .int (v2 + 1))]) (st' := []) (lay' := LY88) (h' := h) 2 rfl ?_
        exact hH (v2 + 1) (Option.some.inj e).symm
      · refine seg_Bg (pc' := 36) (lv' := [(0, .ref 26), (1, .ref 10), (2, .int v2)]) (st' := [.int v2]) (lay' := LY88) (h' := h) 1 rfl ?_
        rw [hR v2 (Option.some.inj e).symm]; exact ret_Bg rfl
    · exact hE v2 (Option.some.inj e).symm
  · exact hE v2 (Option.some.inj e).symm
theorem BJbk_firstWrong_L2 (L : Nat) (xs : Nat → Int32) (h : Hp) (R : List Value × Lay × Hp) (C : ((Int32) ⊕ (Int32)) → Prop) (hE : ∀ t : Int32, C (.inl t) → Bg L xs 4 43 [(0, .ref 26), (1, .ref 10), (2, .int t)] [] LY88 h R) (hR : ∀ r : Int32, C (.inr r) → R = ([.int r], LY88, h)) (n : Nat) (s : Int32) (o : ((Int32) ⊕ (Int32))) (e : loopN n (fun s => Jbk_firstWrong_L2 h s) s = some o) (hC : C o) : Bg L xs 4 2 [(0, .ref 26), (1, .ref 10), (2, .int s)] [] LY88 h R := by
  refine loop_B (fun s => Jbk_firstWrong_L2 h s) (fun s : Int32 => Bg L xs 4 2 [(0, .ref 26), (1, .ref 10), (2, .int s)] [] LY88 h R) C (fun s o e => ?_) n s o e hC
  intro hK
  refine BJbk_firstWrong_L2_s L xs h R s o (fun s q => by subst q; exact hK) (fun t q => by subst q; exact hE t hK) (fun r q => by subst q; exact hR r hK) e
set_option maxRecDepth 100000 in
theorem BJbk_firstWrong (L : Nat) (xs : Nat → Int32) (h : Hp) (o : Int32) (e : Jbk_firstWrong h = some o) : Bg L xs 4 0 [(0, .ref 26), (1, .ref 10)] [] LY88 h ([.int o], LY88, h) := by
  obtain ⟨R, hR⟩ : ∃ R : List Value × Lay × Hp, R = ([.int o], LY88, h) := ⟨_, rfl⟩
  rw [← hR]
  refine seg_Bg (pc' := 2) (lv' := [(0, .ref 26), (1, .ref 10), (2, .int 0)]) (st' := []) (lay' := LY88) (h' := h) 2 rfl ?_
  obtain ⟨t2o, et2o, e⟩ := bd_s e
  refine BJbk_firstWrong_L2 L xs h R (fun (t2x : (Int32) ⊕ (Int32)) => (sm t2x (fun t2 => some (-1)) (fun r2 => some r2)) = some o) (fun t2 e => ?_) (fun r2 e => ?_) 1000000 0 _ et2o e
  · refine seg_Bg (pc' := 44) (lv' := [(0, .ref 26), (1, .ref 10), (2, .int t2)]) (st' := [.int (-1)]) (lay' := LY88) (h' := h) 1 rfl ?_
    rw [hR, ← Option.some.inj e]; exact ret_Bg rfl
  · rw [hR]; exact congrArg (fun r => (([.int r], LY88, h) : List Value × Lay × Hp)) (Option.some.inj e).symm

set_option maxRecDepth 100000 in
theorem BJpa_size (L : Nat) (xs : Nat → Int32) (h : Hp) (o : Int32) (e : Jpa_size h = some o) : Bg L xs 53 0 [(0, .ref 31)] [] LY88 h ([.int o], LY88, h) := by
  obtain ⟨R, hR⟩ : ∃ R : List Value × Lay × Hp, R = ([.int o], LY88, h) := ⟨_, rfl⟩
  rw [← hR]
  refine seg_Bg (pc' := 4) (lv' := [(0, .ref 31)]) (st' := [.int (h 31 3)]) (lay' := LY88) (h' := h) 2 rfl ?_
  rw [hR, ← Option.some.inj e]; exact ret_Bg rfl

set_option maxRecDepth 100000 in
theorem BJyn_told (L : Nat) (xs : Nat → Int32) (v1 : Int32) (h : Hp) (o : Int32 × Hp) (e : Jyn_told v1 h = some o) : Bg L xs 134 0 [(0, .ref 0), (1, .int v1)] [] LY88 h ([.int o.1], LY88, o.2) := by
  obtain ⟨R, hR⟩ : ∃ R : List Value × Lay × Hp, R = ([.int o.1], LY88, o.2) := ⟨_, rfl⟩
  rw [← hR]
  refine seg_Bg (pc' := (if v1 = 0 then 68 else if v1 = 1 then 76 else if v1 = 2 then 84 else if v1 = 3 then 92 else if v1 = 4 then 97 else if v1 = 5 then 109 else if v1 = 6 then 117 else if v1 = 7 then 125 else if v1 = 8 then 140 else if v1 = 9 then 145 else if v1 = 10 then 153 else if v1 = 11 then 161 else if v1 = 12 then 173 else 181)) (lv' := [(0, .ref 0), (1, .int v1)]) (st' := []) (lay' := LY88) (h' := h) 2 rfl ?_
  refine pc_ite e (fun e => ?_) (fun e => ?_)
  · refine seg_Bg (pc' := 72) (lv' := [(0, .ref 0), (1, .int v1)]) (st' := [.ref 29]) (lay' := LY88) (h' := h) 2 rfl ?_
    refine call_Bg (a := 92) (la := [(0, .ref 29)]) (np := 75) (lv' := [(0, .ref 0), (1, .int v1)]) (rest := []) (res := fun r => ([.int r], LY88, h)) rfl e (fun r e => BJsh_size L xs h r e) (fun c1 e => ?_)
    show Bg L xs 134 75 [(0, .ref 0), (1, .int v1)] [.int c1] LY88 h R
    rw [hR, ← Option.some.inj e]; exact ret_Bg rfl
  · refine pc_ite e (fun e => ?_) (fun e => ?_)
    · refine seg_Bg (pc' := 80) (lv' := [(0, .ref 0), (1, .int v1)]) (st' := [.ref 1]) (lay' := LY88) (h' := h) 2 rfl ?_
      refine call_Bg (a := 40) (la := [(0, .ref 1)]) (np := 83) (lv' := [(0, .ref 0), (1, .int v1)]) (rest := []) (res := fun r => ([.int r], LY88, h)) rfl e (fun r e => BJfm_size L xs h r e) (fun c2 e => ?_)
      show Bg L xs 134 83 [(0, .ref 0), (1, .int v1)] [.int c2] LY88 h R
      rw [hR, ← Option.some.inj e]; exact ret_Bg rfl
    · refine pc_ite e (fun e => ?_) (fun e => ?_)
      · refine seg_Bg (pc' := 88) (lv' := [(0, .ref 0), (1, .int v1)]) (st' := [.ref 29]) (lay' := LY88) (h' := h) 2 rfl ?_
        refine call_Bg (a := 96) (la := [(0, .ref 29)]) (np := 91) (lv' := [(0, .ref 0), (1, .int v1)]) (rest := []) (res := fun r => ([.int r], LY88, h)) rfl e (fun r e => BJsh_chosenSet L xs h r e) (fun c3 e => ?_)
        show Bg L xs 134 91 [(0, .ref 0), (1, .int v1)] [.int c3] LY88 h R
        rw [hR, ← Option.some.inj e]; exact ret_Bg rfl
      · refine pc_ite e (fun e => ?_) (fun e => ?_)
        · refine seg_Bg (pc' := 93) (lv' := [(0, .ref 0), (1, .int v1)]) (st' := [.ref 0]) (lay' := LY88) (h' := h) 1 rfl ?_
          refine call_Bg (a := 160) (la := [(0, .ref 0)]) (np := 96) (lv' := [(0, .ref 0), (1, .int v1)]) (rest := []) (res := fun r => ([.int r], LY88, h)) rfl e (fun r e => BJyn_common L xs h r e) (fun c4 e => ?_)
          show Bg L xs 134 96 [(0, .ref 0), (1, .int v1)] [.int c4] LY88 h R
          rw [hR, ← Option.some.inj e]; exact ret_Bg rfl
        · refine pc_ite e (fun e => ?_) (fun e => ?_)
          · refine seg_Bg (pc' := 102) (lv' := [(0, .ref 0), (1, .int v1)]) (st' := [.ref 0, .ref 4]) (lay' := LY88) (h' := h) 3 rfl ?_
            refine call_Bg (a := 160) (la := [(0, .ref 0)]) (np := 105) (lv' := [(0, .ref 0), (1, .int v1)]) (rest := [.ref 4]) (res := fun r => ([.int r], LY88, h)) rfl e (fun r e => BJyn_common L xs h r e) (fun c5 e => ?_)
            show Bg L xs 134 105 [(0, .ref 0), (1, .int v1)] [.int c5, .ref 4] LY88 h R
            refine call_Bg (a := 67) (la := [(0, .ref 4), (1, .int c5)]) (np := 108) (lv' := [(0, .ref 0), (1, .int v1)]) (rest := []) (res := fun r => ([.int r], LY88, h)) rfl e (fun r e => BJpl_numberOf L xs c5 h r e) (fun c6 e => ?_)
            show Bg L xs 134 108 [(0, .ref 0), (1, .int v1)] [.int c6] LY88 h R
            rw [hR, ← Option.some.inj e]; exact ret_Bg rfl
          · refine pc_ite e (fun e => ?_) (fun e => ?_)
            · refine seg_Bg (pc' := 110) (lv' := [(0, .ref 0), (1, .int v1)]) (st' := [.ref 0]) (lay' := LY88) (h' := h) 1 rfl ?_
              refine call_Bg (a := 163) (la := [(0, .ref 0)]) (np := 113) (lv' := [(0, .ref 0), (1, .int v1)]) (rest := []) (res := fun r => ([.ref 10], LY88, r)) rfl e (fun r e => BJyn_reckoned L xs h r e) (fun c7 e => ?_)
              show Bg L xs 134 113 [(0, .ref 0), (1, .int v1)] [.ref 10] LY88 c7 R
              refine call_Bg (a := 31) (la := [(0, .ref 10)]) (np := 116) (lv' := [(0, .ref 0), (1, .int v1)]) (rest := []) (res := fun r => ([.int r], LY88, c7)) rfl e (fun r e => BJcs_madeCount L xs c7 r e) (fun c8 e => ?_)
              show Bg L xs 134 116 [(0, .ref 0), (1, .int v1)] [.int c8] LY88 c7 R
              rw [hR, ← Option.some.inj e]; exact ret_Bg rfl
            · refine pc_ite e (fun e => ?_) (fun e => ?_)
              · refine seg_Bg (pc' := 118) (lv' := [(0, .ref 0), (1, .int v1)]) (st' := [.ref 0]) (lay' := LY88) (h' := h) 1 rfl ?_
                refine call_Bg (a := 163) (la := [(0, .ref 0)]) (np := 121) (lv' := [(0, .ref 0), (1, .int v1)]) (rest := []) (res := fun r => ([.ref 10], LY88, r)) rfl e (fun r e => BJyn_reckoned L xs h r e) (fun c9 e => ?_)
                show Bg L xs 134 121 [(0, .ref 0), (1, .int v1)] [.ref 10] LY88 c9 R
                refine call_Bg (a := 32) (la := [(0, .ref 10)]) (np := 124) (lv' := [(0, .ref 0), (1, .int v1)]) (rest := []) (res := fun r => ([.int r], LY88, c9)) rfl e (fun r e => BJcs_greatestCost L xs c9 r e) (fun c10 e => ?_)
                show Bg L xs 134 124 [(0, .ref 0), (1, .int v1)] [.int c10] LY88 c9 R
                rw [hR, ← Option.some.inj e]; exact ret_Bg rfl
              · refine pc_ite e (fun e => ?_) (fun e => ?_)
                · refine seg_Bg (pc' := 126) (lv' := [(0, .ref 0), (1, .int v1)]) (st' := [.ref 0]) (lay' := LY88) (h' := h) 1 rfl ?_
                  refine call_Bg (a := 163) (la := [(0, .ref 0)]) (np := 129) (lv' := [(0, .ref 0), (1, .int v1)]) (rest := []) (res := fun r => ([.ref 10], LY88, r)) rfl e (fun r e => BJyn_reckoned L xs h r e) (fun c11 e => ?_)
                  show Bg L xs 134 129 [(0, .ref 0), (1, .int v1)] [.ref 10] LY88 c11 R
                  refine seg_Bg (pc' := 130) (lv' := [(0, .ref 0), (1, .int v1)]) (st' := [.ref 0, .ref 10]) (lay' := LY88) (h' := c11) 1 rfl ?_
                  refine call_Bg (a := 163) (la := [(0, .ref 0)]) (np := 133) (lv' := [(0, .ref 0), (1, .int v1)]) (rest := [.ref 10]) (res := fun r => ([.ref 10], LY88, r)) rfl e (fun r e => BJyn_reckoned L xs c11 r e) (fun c12 e => ?_)
                  show Bg L xs 134 133 [(0, .ref 0), (1, .int v1)] [.ref 10, .ref 10] LY88 c12 R
                  refine call_Bg (a := 32) (la := [(0, .ref 10)]) (np := 136) (lv' := [(0, .ref 0), (1, .int v1)]) (rest := [.ref 10]) (res := fun r => ([.int r], LY88, c12)) rfl e (fun r e => BJcs_greatestCost L xs c12 r e) (fun c13 e => ?_)
                  show Bg L xs 134 136 [(0, .ref 0), (1, .int v1)] [.int c13, .ref 10] LY88 c12 R
                  refine call_Bg (a := 33) (la := [(0, .ref 10), (1, .int c13)]) (np := 139) (lv' := [(0, .ref 0), (1, .int v1)]) (rest := []) (res := fun r => ([.int r], LY88, c12)) rfl e (fun r e => BJcs_leastCodeCosting L xs c13 c12 r e) (fun c14 e => ?_)
                  show Bg L xs 134 139 [(0, .ref 0), (1, .int v1)] [.int c14] LY88 c12 R
                  rw [hR, ← Option.some.inj e]; exact ret_Bg rfl
                · refine pc_ite e (fun e => ?_) (fun e => ?_)
                  · refine seg_Bg (pc' := 141) (lv' := [(0, .ref 0), (1, .int v1)]) (st' := [.ref 0]) (lay' := LY88) (h' := h) 1 rfl ?_
                    refine call_Bg (a := 162) (la := [(0, .ref 0)]) (np := 144) (lv' := [(0, .ref 0), (1, .int v1)]) (rest := []) (res := fun r => ([.int r], LY88, h)) rfl e (fun r e => BJyn_spare L xs h r e) (fun c15 e => ?_)
                    show Bg L xs 134 144 [(0, .ref 0), (1, .int v1)] [.int c15] LY88 h R
                    rw [hR, ← Option.some.inj e]; exact ret_Bg rfl
                  · refine pc_ite e (fun e => ?_) (fun e => ?_)
                    · refine seg_Bg (pc' := 149) (lv' := [(0, .ref 0), (1, .int v1)]) (st' := [.ref 4]) (lay' := LY88) (h' := h) 2 rfl ?_
                      refine call_Bg (a := 63) (la := [(0, .ref 4)]) (np := 152) (lv' := [(0, .ref 0), (1, .int v1)]) (rest := []) (res := fun r => ([.int r], LY88, h)) rfl e (fun r e => BJpl_count L xs h r e) (fun c16 e => ?_)
                      show Bg L xs 134 152 [(0, .ref 0), (1, .int v1)] [.int c16] LY88 h R
                      rw [hR, ← Option.some.inj e]; exact ret_Bg rfl
                    · refine pc_ite e (fun e => ?_) (fun e => ?_)
                      · refine seg_Bg (pc' := 157) (lv' := [(0, .ref 0), (1, .int v1)]) (st' := [.ref 26]) (lay' := LY88) (h' := h) 2 rfl ?_
                        refine call_Bg (a := 1) (la := [(0, .ref 26)]) (np := 160) (lv' := [(0, .ref 0), (1, .int v1)]) (rest := []) (res := fun r => ([.int r], LY88, h)) rfl e (fun r e => BJbk_size L xs h r e) (fun c17 e => ?_)
                        show Bg L xs 134 160 [(0, .ref 0), (1, .int v1)] [.int c17] LY88 h R
                        rw [hR, ← Option.some.inj e]; exact ret_Bg rfl
                      · refine pc_ite e (fun e => ?_) (fun e => ?_)
                        · refine seg_Bg (pc' := 166) (lv' := [(0, .ref 0), (1, .int v1)]) (st' := [.ref 0, .ref 26]) (lay' := LY88) (h' := h) 3 rfl ?_
                          refine call_Bg (a := 163) (la := [(0, .ref 0)]) (np := 169) (lv' := [(0, .ref 0), (1, .int v1)]) (rest := [.ref 26]) (res := fun r => ([.ref 10], LY88, r)) rfl e (fun r e => BJyn_reckoned L xs h r e) (fun c18 e => ?_)
                          show Bg L xs 134 169 [(0, .ref 0), (1, .int v1)] [.ref 10, .ref 26] LY88 c18 R
                          refine call_Bg (a := 4) (la := [(0, .ref 26), (1, .ref 10)]) (np := 172) (lv' := [(0, .ref 0), (1, .int v1)]) (rest := []) (res := fun r => ([.int r], LY88, c18)) rfl e (fun r e => BJbk_firstWrong L xs c18 r e) (fun c19 e => ?_)
                          show Bg L xs 134 172 [(0, .ref 0), (1, .int v1)] [.int c19] LY88 c18 R
                          rw [hR, ← Option.some.inj e]; exact ret_Bg rfl
                        · refine pc_ite e (fun e => ?_) (fun e => ?_)
                          · refine seg_Bg (pc' := 177) (lv' := [(0, .ref 0), (1, .int v1)]) (st' := [.ref 31]) (lay' := LY88) (h' := h) 2 rfl ?_
                            refine call_Bg (a := 53) (la := [(0, .ref 31)]) (np := 180) (lv' := [(0, .ref 0), (1, .int v1)]) (rest := []) (res := fun r => ([.int r], LY88, h)) rfl e (fun r e => BJpa_size L xs h r e) (fun c20 e => ?_)
                            show Bg L xs 134 180 [(0, .ref 0), (1, .int v1)] [.int c20] LY88 h R
                            rw [hR, ← Option.some.inj e]; exact ret_Bg rfl
                          · refine seg_Bg (pc' := 183) (lv' := [(0, .ref 0), (1, .int v1)]) (st' := [.int (-1000000002)]) (lay' := LY88) (h' := h) 1 rfl ?_
                            rw [hR, ← Option.some.inj e]; exact ret_Bg rfl

set_option maxRecDepth 100000 in
theorem BJm_within (L : Nat) (xs : Nat → Int32) (v0 : Int32) (v1 : Int32) (lay : Lay) (h : Hp) (o : Int32) (e : Jm_within v0 v1 = some o) : Bg L xs 175 0 [(0, .int v0), (1, .int v1)] [] lay h ([.int o], lay, h) := by
  obtain ⟨R, hR⟩ : ∃ R : List Value × Lay × Hp, R = ([.int o], lay, h) := ⟨_, rfl⟩
  rw [← hR]
  refine seg_Bg (pc' := (if (v0 &&& v1) = v0 then 7 else 11)) (lv' := [(0, .int v0), (1, .int v1)]) (st' := []) (lay' := lay) (h' := h) 5 rfl ?_
  refine pc_ite e (fun e => ?_) (fun e => ?_)
  · refine seg_Bg (pc' := 12) (lv' := [(0, .int v0), (1, .int v1)]) (st' := [.int 1]) (lay' := lay) (h' := h) 2 rfl ?_
    rw [hR, ← Option.some.inj e]; exact ret_Bg rfl
  · refine seg_Bg (pc' := 12) (lv' := [(0, .int v0), (1, .int v1)]) (st' := [.int 0]) (lay' := lay) (h' := h) 1 rfl ?_
    rw [hR, ← Option.some.inj e]; exact ret_Bg rfl

set_option maxRecDepth 100000 in
theorem BJm_failsAt (L : Nat) (xs : Nat → Int32) (v0 : Int32) (v1 : Int32) (v2 : Int32) (v3 : Int32) (lay : Lay) (h : Hp) (o : Int32) (e : Jm_failsAt v0 v1 v2 v3 = some o) : Bg L xs 178 0 [(0, .int v0), (1, .int v1), (2, .int v2), (3, .int v3)] [] lay h ([.int o], lay, h) := by
  obtain ⟨R, hR⟩ : ∃ R : List Value × Lay × Hp, R = ([.int o], lay, h) := ⟨_, rfl⟩
  rw [← hR]
  refine seg_Bg (pc' := 2) (lv' := [(0, .int v0), (1, .int v1), (2, .int v2), (3, .int v3)]) (st' := [.int v2, .int v0]) (lay' := lay) (h' := h) 2 rfl ?_
  refine call_Bg (a := 170) (la := [(0, .int v0), (1, .int v2)]) (np := 5) (lv' := [(0, .int v0), (1, .int v1), (2, .int v2), (3, .int v3)]) (rest := []) (res := fun r => ([.int r], lay, h)) rfl e (fun r e => BJm_tells L xs v0 v2 lay h r e) (fun c1 e => ?_)
  show Bg L xs 178 5 [(0, .int v0), (1, .int v1), (2, .int v2), (3, .int v3)] [.int c1] lay h R
  refine seg_Bg (pc' := 9) (lv' := [(0, .int v0), (1, .int v1), (2, .int v2), (3, .int v3), (4, .int c1)]) (st' := [.int v3, .int v0]) (lay' := lay) (h' := h) 3 rfl ?_
  refine call_Bg (a := 170) (la := [(0, .int v0), (1, .int v3)]) (np := 12) (lv' := [(0, .int v0), (1, .int v1), (2, .int v2), (3, .int v3), (4, .int c1)]) (rest := []) (res := fun r => ([.int r], lay, h)) rfl e (fun r e => BJm_tells L xs v0 v3 lay h r e) (fun c2 e => ?_)
  show Bg L xs 178 12 [(0, .int v0), (1, .int v1), (2, .int v2), (3, .int v3), (4, .int c1)] [.int c2] lay h R
  refine seg_Bg (pc' := (if v1 = 2 then 56 else if v1 = 3 then 145 else if v1 = 4 then 145 else if v1 = 5 then 77 else if v1 = 6 then 98 else if v1 = 7 then 145 else if v1 = 8 then 119 else 145)) (lv' := [(0, .int v0), (1, .int v1), (2, .int v2), (3, .int v3), (4, .int c1), (5, .int c2)]) (st' := []) (lay' := lay) (h' := h) 3 rfl ?_
  refine pc_ite e (fun e => ?_) (fun e => ?_)
  · refine seg_Bg (pc' := 58) (lv' := [(0, .int v0), (1, .int v1), (2, .int v2), (3, .int v3), (4, .int c1), (5, .int c2)]) (st' := [.int v3, .int v2]) (lay' := lay) (h' := h) 2 rfl ?_
    refine call_Bg (a := 175) (la := [(0, .int v2), (1, .int v3)]) (np := 61) (lv' := [(0, .int v0), (1, .int v1), (2, .int v2), (3, .int v3), (4, .int c1), (5, .int c2)]) (rest := []) (res := fun r => ([.int r], lay, h)) rfl e (fun r e => BJm_within L xs v2 v3 lay h r e) (fun c3 e => ?_)
    show Bg L xs 178 61 [(0, .int v0), (1, .int v1), (2, .int v2), (3, .int v3), (4, .int c1), (5, .int c2)] [.int c3] lay h R
    refine seg_Bg (pc' := (if c3 = 0 then 75 else 64)) (lv' := [(0, .int v0), (1, .int v1), (2, .int v2), (3, .int v3), (4, .int c1), (5, .int c2)]) (st' := []) (lay' := lay) (h' := h) 1 rfl ?_
    refine pc_ite e (fun e => ?_) (fun e => ?_)
    · refine seg_Bg (pc' := 76) (lv' := [(0, .int v0), (1, .int v1), (2, .int v2), (3, .int v3), (4, .int c1), (5, .int c2)]) (st' := [.int 0]) (lay' := lay) (h' := h) 1 rfl ?_
      rw [hR, ← Option.some.inj e]; exact ret_Bg rfl
    · refine seg_Bg (pc' := (if c2 < c1 then 71 else 75)) (lv' := [(0, .int v0), (1, .int v1), (2, .int v2), (3, .int v3), (4, .int c1), (5, .int c2)]) (st' := []) (lay' := lay) (h' := h) 3 rfl ?_
      refine pc_ite e (fun e => ?_) (fun e => ?_)
      · refine seg_Bg (pc' := 76) (lv' := [(0, .int v0), (1, .int v1), (2, .int v2), (3, .int v3), (4, .int c1), (5, .int c2)]) (st' := [.int 1]) (lay' := lay) (h' := h) 2 rfl ?_
        rw [hR, ← Option.some.inj e]; exact ret_Bg rfl
      · refine seg_Bg (pc' := 76) (lv' := [(0, .int v0), (1, .int v1), (2, .int v2), (3, .int v3), (4, .int c1), (5, .int c2)]) (st' := [.int 0]) (lay' := lay) (h' := h) 1 rfl ?_
        rw [hR, ← Option.some.inj e]; exact ret_Bg rfl
  · refine pc_ite e (fun e => ?_) (fun e => ?_)
    · refine seg_Bg (pc' := (if v3 < v2 then 170 else 150)) (lv' := [(0, .int v0), (1, .int v1), (2, .int v2), (3, .int v3), (4, .int c1), (5, .int c2)]) (st' := []) (lay' := lay) (h' := h) 3 rfl ?_
      refine pc_ite e (fun e => ?_) (fun e => ?_)
      · refine seg_Bg (pc' := 171) (lv' := [(0, .int v0), (1, .int v1), (2, .int v2), (3, .int v3), (4, .int c1), (5, .int c2)]) (st' := [.int 0]) (lay' := lay) (h' := h) 1 rfl ?_
        rw [hR, ← Option.some.inj e]; exact ret_Bg rfl
      · refine seg_Bg (pc' := (if (c1 ||| c2) = 0 then 158 else 170)) (lv' := [(0, .int v0), (1, .int v1), (2, .int v2), (3, .int v3), (4, .int c1), (5, .int c2)]) (st' := []) (lay' := lay) (h' := h) 4 rfl ?_
        refine pc_ite e (fun e => ?_) (fun e => ?_)
        · refine seg_Bg (pc' := (if (v2 ||| v3) = 7 then 166 else 170)) (lv' := [(0, .int v0), (1, .int v1), (2, .int v2), (3, .int v3), (4, .int c1), (5, .int c2)]) (st' := []) (lay' := lay) (h' := h) 5 rfl ?_
          refine pc_ite e (fun e => ?_) (fun e => ?_)
          · refine seg_Bg (pc' := 171) (lv' := [(0, .int v0), (1, .int v1), (2, .int v2), (3, .int v3), (4, .int c1), (5, .int c2)]) (st' := [.int 1]) (lay' := lay) (h' := h) 2 rfl ?_
            rw [hR, ← Option.some.inj e]; exact ret_Bg rfl
          · refine seg_Bg (pc' := 171) (lv' := [(0, .int v0), (1, .int v1), (2, .int v2), (3, .int v3), (4, .int c1), (5, .int c2)]) (st' := [.int 0]) (lay' := lay) (h' := h) 1 rfl ?_
            rw [hR, ← Option.some.inj e]; exact ret_Bg rfl
        · refine seg_Bg (pc' := 171) (lv' := [(0, .int v0), (1, .int v1), (2, .int v2), (3, .int v3), (4, .int c1), (5, .int c2)]) (st' := [.int 0]) (lay' := lay) (h' := h) 1 rfl ?_
          rw [hR, ← Option.some.inj e]; exact ret_Bg rfl
    · refine pc_ite e (fun e => ?_) (fun e => ?_)
      · refine seg_Bg (pc' := (if v3 < v2 then 170 else 150)) (lv' := [(0, .int v0), (1, .int v1), (2, .int v2), (3, .int v3), (4, .int c1), (5, .int c2)]) (st' := []) (lay' := lay) (h' := h) 3 rfl ?_
        refine pc_ite e (fun e => ?_) (fun e => ?_)
        · refine seg_Bg (pc' := 171) (lv' := [(0, .int v0), (1, .int v1), (2, .int v2), (3, .int v3), (4, .int c1), (5, .int c2)]) (st' := [.int 0]) (lay' := lay) (h' := h) 1 rfl ?_
          rw [hR, ← Option.some.inj e]; exact ret_Bg rfl
        · refine seg_Bg (pc' := (if (c1 ||| c2) = 0 then 158 else 170)) (lv' := [(0, .int v0), (1, .int v1), (2, .int v2), (3, .int v3), (4, .int c1), (5, .int c2)]) (st' := []) (lay' := lay) (h' := h) 4 rfl ?_
          refine pc_ite e (fun e => ?_) (fun e => ?_)
          · refine seg_Bg (pc' := (if (v2 ||| v3) = 7 then 166 else 170)) (lv' := [(0, .int v0), (1, .int v1), (2, .int v2), (3, .int v3), (4, .int c1), (5, .int c2)]) (st' := []) (lay' := lay) (h' := h) 5 rfl ?_
            refine pc_ite e (fun e => ?_) (fun e => ?_)
            · refine seg_Bg (pc' := 171) (lv' := [(0, .int v0), (1, .int v1), (2, .int v2), (3, .int v3), (4, .int c1), (5, .int c2)]) (st' := [.int 1]) (lay' := lay) (h' := h) 2 rfl ?_
              rw [hR, ← Option.some.inj e]; exact ret_Bg rfl
            · refine seg_Bg (pc' := 171) (lv' := [(0, .int v0), (1, .int v1), (2, .int v2), (3, .int v3), (4, .int c1), (5, .int c2)]) (st' := [.int 0]) (lay' := lay) (h' := h) 1 rfl ?_
              rw [hR, ← Option.some.inj e]; exact ret_Bg rfl
          · refine seg_Bg (pc' := 171) (lv' := [(0, .int v0), (1, .int v1), (2, .int v2), (3, .int v3), (4, .int c1), (5, .int c2)]) (st' := [.int 0]) (lay' := lay) (h' := h) 1 rfl ?_
            rw [hR, ← Option.some.inj e]; exact ret_Bg rfl
      · refine pc_ite e (fun e => ?_) (fun e => ?_)
        · refine seg_Bg (pc' := 81) (lv' := [(0, .int v0), (1, .int v1), (2, .int v2), (3, .int v3), (4, .int c1), (5, .int c2)]) (st' := [.int (v2 &&& v3), .int v0]) (lay' := lay) (h' := h) 4 rfl ?_
          refine call_Bg (a := 170) (la := [(0, .int v0), (1, .int (v2 &&& v3))]) (np := 84) (lv' := [(0, .int v0), (1, .int v1), (2, .int v2), (3, .int v3), (4, .int c1), (5, .int c2)]) (rest := []) (res := fun r => ([.int r], lay, h)) rfl e (fun r e => BJm_tells L xs v0 (v2 &&& v3) lay h r e) (fun c4 e => ?_)
          show Bg L xs 178 84 [(0, .int v0), (1, .int v1), (2, .int v2), (3, .int v3), (4, .int c1), (5, .int c2)] [.int c4] lay h R
          refine seg_Bg (pc' := (if c4 = (c1 &&& c2) then 96 else 92)) (lv' := [(0, .int v0), (1, .int v1), (2, .int v2), (3, .int v3), (4, .int c1), (5, .int c2)]) (st' := []) (lay' := lay) (h' := h) 4 rfl ?_
          refine pc_ite e (fun e => ?_) (fun e => ?_)
          · refine seg_Bg (pc' := 97) (lv' := [(0, .int v0), (1, .int v1), (2, .int v2), (3, .int v3), (4, .int c1), (5, .int c2)]) (st' := [.int 0]) (lay' := lay) (h' := h) 1 rfl ?_
            rw [hR, ← Option.some.inj e]; exact ret_Bg rfl
          · refine seg_Bg (pc' := 97) (lv' := [(0, .int v0), (1, .int v1), (2, .int v2), (3, .int v3), (4, .int c1), (5, .int c2)]) (st' := [.int 1]) (lay' := lay) (h' := h) 2 rfl ?_
            rw [hR, ← Option.some.inj e]; exact ret_Bg rfl
        · refine pc_ite e (fun e => ?_) (fun e => ?_)
          · refine seg_Bg (pc' := 102) (lv' := [(0, .int v0), (1, .int v1), (2, .int v2), (3, .int v3), (4, .int c1), (5, .int c2)]) (st' := [.int (v2 ||| v3), .int v0]) (lay' := lay) (h' := h) 4 rfl ?_
            refine call_Bg (a := 170) (la := [(0, .int v0), (1, .int (v2 ||| v3))]) (np := 105) (lv' := [(0, .int v0), (1, .int v1), (2, .int v2), (3, .int v3), (4, .int c1), (5, .int c2)]) (rest := []) (res := fun r => ([.int r], lay, h)) rfl e (fun r e => BJm_tells L xs v0 (v2 ||| v3) lay h r e) (fun c5 e => ?_)
            show Bg L xs 178 105 [(0, .int v0), (1, .int v1), (2, .int v2), (3, .int v3), (4, .int c1), (5, .int c2)] [.int c5] lay h R
            refine seg_Bg (pc' := (if c5 = (c1 ||| c2) then 117 else 113)) (lv' := [(0, .int v0), (1, .int v1), (2, .int v2), (3, .int v3), (4, .int c1), (5, .int c2)]) (st' := []) (lay' := lay) (h' := h) 4 rfl ?_
            refine pc_ite e (fun e => ?_) (fun e => ?_)
            · refine seg_Bg (pc' := 118) (lv' := [(0, .int v0), (1, .int v1), (2, .int v2), (3, .int v3), (4, .int c1), (5, .int c2)]) (st' := [.int 0]) (lay' := lay) (h' := h) 1 rfl ?_
              rw [hR, ← Option.some.inj e]; exact ret_Bg rfl
            · refine seg_Bg (pc' := 118) (lv' := [(0, .int v0), (1, .int v1), (2, .int v2), (3, .int v3), (4, .int c1), (5, .int c2)]) (st' := [.int 1]) (lay' := lay) (h' := h) 2 rfl ?_
              rw [hR, ← Option.some.inj e]; exact ret_Bg rfl
          · refine pc_ite e (fun e => ?_) (fun e => ?_)
            · refine seg_Bg (pc' := (if v3 < v2 then 170 else 150)) (lv' := [(0, .int v0), (1, .int v1), (2, .int v2), (3, .int v3), (4, .int c1), (5, .int c2)]) (st' := []) (lay' := lay) (h' := h) 3 rfl ?_
              refine pc_ite e (fun e => ?_) (fun e => ?_)
              · refine seg_Bg (pc' := 171) (lv' := [(0, .int v0), (1, .int v1), (2, .int v2), (3, .int v3), (4, .int c1), (5, .int c2)]) (st' := [.int 0]) (lay' := lay) (h' := h) 1 rfl ?_
                rw [hR, ← Option.some.inj e]; exact ret_Bg rfl
              · refine seg_Bg (pc' := (if (c1 ||| c2) = 0 then 158 else 170)) (lv' := [(0, .int v0), (1, .int v1), (2, .int v2), (3, .int v3), (4, .int c1), (5, .int c2)]) (st' := []) (lay' := lay) (h' := h) 4 rfl ?_
                refine pc_ite e (fun e => ?_) (fun e => ?_)
                · refine seg_Bg (pc' := (if (v2 ||| v3) = 7 then 166 else 170)) (lv' := [(0, .int v0), (1, .int v1), (2, .int v2), (3, .int v3), (4, .int c1), (5, .int c2)]) (st' := []) (lay' := lay) (h' := h) 5 rfl ?_
                  refine pc_ite e (fun e => ?_) (fun e => ?_)
                  · refine seg_Bg (pc' := 171) (lv' := [(0, .int v0), (1, .int v1), (2, .int v2), (3, .int v3), (4, .int c1), (5, .int c2)]) (st' := [.int 1]) (lay' := lay) (h' := h) 2 rfl ?_
                    rw [hR, ← Option.some.inj e]; exact ret_Bg rfl
                  · refine seg_Bg (pc' := 171) (lv' := [(0, .int v0), (1, .int v1), (2, .int v2), (3, .int v3), (4, .int c1), (5, .int c2)]) (st' := [.int 0]) (lay' := lay) (h' := h) 1 rfl ?_
                    rw [hR, ← Option.some.inj e]; exact ret_Bg rfl
                · refine seg_Bg (pc' := 171) (lv' := [(0, .int v0), (1, .int v1), (2, .int v2), (3, .int v3), (4, .int c1), (5, .int c2)]) (st' := [.int 0]) (lay' := lay) (h' := h) 1 rfl ?_
                  rw [hR, ← Option.some.inj e]; exact ret_Bg rfl
            · refine pc_ite e (fun e => ?_) (fun e => ?_)
              · refine seg_Bg (pc' := (if v3 < v2 then 143 else 124)) (lv' := [(0, .int v0), (1, .int v1), (2, .int v2), (3, .int v3), (4, .int c1), (5, .int c2)]) (st' := []) (lay' := lay) (h' := h) 3 rfl ?_
                refine pc_ite e (fun e => ?_) (fun e => ?_)
                · refine seg_Bg (pc' := 144) (lv' := [(0, .int v0), (1, .int v1), (2, .int v2), (3, .int v3), (4, .int c1), (5, .int c2)]) (st' := [.int 0]) (lay' := lay) (h' := h) 1 rfl ?_
                  rw [hR, ← Option.some.inj e]; exact ret_Bg rfl
                · refine seg_Bg (pc' := (if (c1 &&& c2) = 1 then 133 else 143)) (lv' := [(0, .int v0), (1, .int v1), (2, .int v2), (3, .int v3), (4, .int c1), (5, .int c2)]) (st' := []) (lay' := lay) (h' := h) 5 rfl ?_
                  refine pc_ite e (fun e => ?_) (fun e => ?_)
                  · refine seg_Bg (pc' := (if (v2 &&& v3) = 0 then 139 else 143)) (lv' := [(0, .int v0), (1, .int v1), (2, .int v2), (3, .int v3), (4, .int c1), (5, .int c2)]) (st' := []) (lay' := lay) (h' := h) 4 rfl ?_
                    refine pc_ite e (fun e => ?_) (fun e => ?_)
                    · refine seg_Bg (pc' := 144) (lv' := [(0, .int v0), (1, .int v1), (2, .int v2), (3, .int v3), (4, .int c1), (5, .int c2)]) (st' := [.int 1]) (lay' := lay) (h' := h) 2 rfl ?_
                      rw [hR, ← Option.some.inj e]; exact ret_Bg rfl
                    · refine seg_Bg (pc' := 144) (lv' := [(0, .int v0), (1, .int v1), (2, .int v2), (3, .int v3), (4, .int c1), (5, .int c2)]) (st' := [.int 0]) (lay' := lay) (h' := h) 1 rfl ?_
                      rw [hR, ← Option.some.inj e]; exact ret_Bg rfl
                  · refine seg_Bg (pc' := 144) (lv' := [(0, .int v0), (1, .int v1), (2, .int v2), (3, .int v3), (4, .int c1), (5, .int c2)]) (st' := [.int 0]) (lay' := lay) (h' := h) 1 rfl ?_
                    rw [hR, ← Option.some.inj e]; exact ret_Bg rfl
              · refine seg_Bg (pc' := (if v3 < v2 then 170 else 150)) (lv' := [(0, .int v0), (1, .int v1), (2, .int v2), (3, .int v3), (4, .int c1), (5, .int c2)]) (st' := []) (lay' := lay) (h' := h) 3 rfl ?_
                refine pc_ite e (fun e => ?_) (fun e => ?_)
                · refine seg_Bg (pc' := 171) (lv' := [(0, .int v0), (1, .int v1), (2, .int v2), (3, .int v3), (4, .int c1), (5, .int c2)]) (st' := [.int 0]) (lay' := lay) (h' := h) 1 rfl ?_
                  rw [hR, ← Option.some.inj e]; exact ret_Bg rfl
                · refine seg_Bg (pc' := (if (c1 ||| c2) = 0 then 158 else 170)) (lv' := [(0, .int v0), (1, .int v1), (2, .int v2), (3, .int v3), (4, .int c1), (5, .int c2)]) (st' := []) (lay' := lay) (h' := h) 4 rfl ?_
                  refine pc_ite e (fun e => ?_) (fun e => ?_)
                  · refine seg_Bg (pc' := (if (v2 ||| v3) = 7 then 166 else 170)) (lv' := [(0, .int v0), (1, .int v1), (2, .int v2), (3, .int v3), (4, .int c1), (5, .int c2)]) (st' := []) (lay' := lay) (h' := h) 5 rfl ?_
                    refine pc_ite e (fun e => ?_) (fun e => ?_)
                    · refine seg_Bg (pc' := 171) (lv' := [(0, .int v0), (1, .int v1), (2, .int v2), (3, .int v3), (4, .int c1), (5, .int c2)]) (st' := [.int 1]) (lay' := lay) (h' := h) 2 rfl ?_
                      rw [hR, ← Option.some.inj e]; exact ret_Bg rfl
                    · refine seg_Bg (pc' := 171) (lv' := [(0, .int v0), (1, .int v1), (2, .int v2), (3, .int v3), (4, .int c1), (5, .int c2)]) (st' := [.int 0]) (lay' := lay) (h' := h) 1 rfl ?_
                      rw [hR, ← Option.some.inj e]; exact ret_Bg rfl
                  · refine seg_Bg (pc' := 171) (lv' := [(0, .int v0), (1, .int v1), (2, .int v2), (3, .int v3), (4, .int c1), (5, .int c2)]) (st' := [.int 0]) (lay' := lay) (h' := h) 1 rfl ?_
                    rw [hR, ← Option.some.inj e]; exact ret_Bg rfl

set_option maxRecDepth 100000 in
theorem BJm_failsOfTwo_L2_s (L : Nat) (xs : Nat → Int32) (v0 v1 : Int32) (lay : Lay) (h : Hp) (R : List Value × Lay × Hp) (v2 : Int32) (o : ((Int32) ⊕ ((Int32) ⊕ (Int32)))) (hH : ∀ s : Int32, o = .inl s → Bg L xs 179 2 [(0, .int v0), (1, .int v1), (2, .int s)] [] lay h R) (hE : ∀ t : Int32, o = .inr (.inl t) → Bg L xs 179 32 [(0, .int v0), (1, .int v1), (2, .int t)] [] lay h R) (hR : ∀ r : Int32, o = .inr (.inr r) → R = ([.int r], lay, h)) (e : Jm_failsOfTwo_L2 v0 v1 v2 = some o) : Bg L xs 179 2 [(0, .int v0), (1, .int v1), (2, .int v2)] [] lay h R := by
  refine seg_Bg (pc' := (if v2 < 64 then 8 else 32)) (lv' := [(0, .int v0), (1, .int v1), (2, .int v2)]) (st' := []) (lay' := lay) (h' := h) 3 rfl ?_
  refine pc_ite e (fun e => ?_) (fun e => ?_)
  · refine seg_Bg (pc' := 18) (lv' := [(0, .int v0), (1, .int v1), (2, .int v2)]) (st' := [.int (v2 - v2 / 8 * 8), .int (v2 / 8), .int v1, .int v0]) (lay' := lay) (h' := h) 8 rfl ?_
    refine call_Bg (a := 178) (la := [(0, .int v0), (1, .int v1), (2, .int (v2 / 8)), (3, .int (v2 - v2 / 8 * 8))]) (np := 21) (lv' := [(0, .int v0), (1, .int v1), (2, .int v2)]) (rest := []) (res := fun r => ([.int r], lay, h)) rfl e (fun r e => BJm_failsAt L xs v0 v1 (v2 / 8) (v2 - v2 / 8 * 8) lay h r e) (fun c1 e => ?_)
    show Bg L xs 179 21 [(0, .int v0), (1, .int v1), (2, .int v2)] [.int c1] lay h R
    refine seg_Bg (pc' := (if c1 = 0 then 26 else 24)) (lv' := [(0, .int v0), (1, .int v1), (2, .int v2)]) (st' := []) (lay' := lay) (h' := h) 1 rfl ?_
    refine pc_ite e (fun e => ?_) (fun e => ?_)
    · refine seg_Bg (pc' := 2) (lv' := [(0, .int v0), (1, .int v1), (2, .int (v2 + 1))]) (st' := []) (lay' := lay) (h' := h) 2 rfl ?_
      exact hH (v2 + 1) (Option.some.inj e).symm
    · refine seg_Bg (pc' := 25) (lv' := [(0, .int v0), (1, .int v1), (2, .int v2)]) (st' := [.int v2]) (lay' := lay) (h' := h) 1 rfl ?_
      rw [hR v2 (Option.some.inj e).symm]; exact ret_Bg rfl
  · exact hE v2 (Option.some.inj e).symm
theorem BJm_failsOfTwo_L2 (L : Nat) (xs : Nat → Int32) (v0 v1 : Int32) (lay : Lay) (h : Hp) (R : List Value × Lay × Hp) (C : ((Int32) ⊕ (Int32)) → Prop) (hE : ∀ t : Int32, C (.inl t) → Bg L xs 179 32 [(0, .int v0), (1, .int v1), (2, .int t)] [] lay h R) (hR : ∀ r : Int32, C (.inr r) → R = ([.int r], lay, h)) (n : Nat) (s : Int32) (o : ((Int32) ⊕ (Int32))) (e : loopN n (fun s => Jm_failsOfTwo_L2 v0 v1 s) s = some o) (hC : C o) : Bg L xs 179 2 [(0, .int v0), (1, .int v1), (2, .int s)] [] lay h R := by
  refine loop_B (fun s => Jm_failsOfTwo_L2 v0 v1 s) (fun s : Int32 => Bg L xs 179 2 [(0, .int v0), (1, .int v1), (2, .int s)] [] lay h R) C (fun s o e => ?_) n s o e hC
  intro hK
  refine BJm_failsOfTwo_L2_s L xs v0 v1 lay h R s o (fun s q => by subst q; exact hK) (fun t q => by subst q; exact hE t hK) (fun r q => by subst q; exact hR r hK) e
set_option maxRecDepth 100000 in
theorem BJm_failsOfTwo (L : Nat) (xs : Nat → Int32) (v0 : Int32) (v1 : Int32) (lay : Lay) (h : Hp) (o : Int32) (e : Jm_failsOfTwo v0 v1 = some o) : Bg L xs 179 0 [(0, .int v0), (1, .int v1)] [] lay h ([.int o], lay, h) := by
  obtain ⟨R, hR⟩ : ∃ R : List Value × Lay × Hp, R = ([.int o], lay, h) := ⟨_, rfl⟩
  rw [← hR]
  refine seg_Bg (pc' := 2) (lv' := [(0, .int v0), (1, .int v1), (2, .int 0)]) (st' := []) (lay' := lay) (h' := h) 2 rfl ?_
  obtain ⟨t2o, et2o, e⟩ := bd_s e
  refine BJm_failsOfTwo_L2 L xs v0 v1 lay h R (fun (t2x : (Int32) ⊕ (Int32)) => (sm t2x (fun t2 => some (-1)) (fun r2 => some r2)) = some o) (fun t2 e => ?_) (fun r2 e => ?_) 1000000 0 _ et2o e
  · refine seg_Bg (pc' := 33) (lv' := [(0, .int v0), (1, .int v1), (2, .int t2)]) (st' := [.int (-1)]) (lay' := lay) (h' := h) 1 rfl ?_
    rw [hR, ← Option.some.inj e]; exact ret_Bg rfl
  · rw [hR]; exact congrArg (fun r => (([.int r], lay, h) : List Value × Lay × Hp)) (Option.some.inj e).symm

set_option maxRecDepth 100000 in
theorem BJm_sumOf_L15_s (L : Nat) (xs : Nat → Int32) (v0 v1 v2 : Int32) (lay : Lay) (h : Hp) (R : List Value × Lay × Hp) (v3 v4 : Int32) (o : ((Int32 × Int32) ⊕ (Int32 × Int32))) (hH : ∀ s : Int32 × Int32, o = .inl s → Bg L xs 176 15 [(0, .int v0), (1, .int v1), (2, .int v2), (3, .int s.1), (4, .int s.2)] [] lay h R) (hE : ∀ t : Int32 × Int32, o = .inr t → Bg L xs 176 50 [(0, .int v0), (1, .int v1), (2, .int v2), (3, .int t.1), (4, .int t.2)] [] lay h R) (e : Jm_sumOf_L15 v0 v1 v2 v3 v4 = some o) : Bg L xs 176 15 [(0, .int v0), (1, .int v1), (2, .int v2), (3, .int v3), (4, .int v4)] [] lay h R := by
  refine seg_Bg (pc' := (if v4 < 8 then 22 else 50)) (lv' := [(0, .int v0), (1, .int v1), (2, .int v2), (3, .int v3), (4, .int v4)]) (st' := []) (lay' := lay) (h' := h) 3 rfl ?_
  refine pc_ite e (fun e => ?_) (fun e => ?_)
  · refine seg_Bg (pc' := 26) (lv' := [(0, .int v0), (1, .int v1), (2, .int v2), (3, .int v3), (4, .int v4)]) (st' := [.int v2, .int v4, .int v3]) (lay' := lay) (h' := h) 3 rfl ?_
    refine call_Bg (a := 175) (la := [(0, .int v4), (1, .int v2)]) (np := 29) (lv' := [(0, .int v0), (1, .int v1), (2, .int v2), (3, .int v3), (4, .int v4)]) (rest := [.int v3]) (res := fun r => ([.int r], lay, h)) rfl e (fun r e => BJm_within L xs v4 v2 lay h r e) (fun c1 e => ?_)
    show Bg L xs 176 29 [(0, .int v0), (1, .int v1), (2, .int v2), (3, .int v3), (4, .int v4)] [.int c1, .int v3] lay h R
    refine seg_Bg (pc' := (if c1 = 0 then 41 else 32)) (lv' := [(0, .int v0), (1, .int v1), (2, .int v2), (3, .int v3), (4, .int v4)]) (st' := [.int v3]) (lay' := lay) (h' := h) 1 rfl ?_
    refine pc_ite e (fun e => ?_) (fun e => ?_)
    · refine seg_Bg (pc' := 15) (lv' := [(0, .int v0), (1, .int v1), (2, .int v2), (3, .int (v3 ^^^ (0 : Int32))), (4, .int (v4 + 1))]) (st' := []) (lay' := lay) (h' := h) 5 rfl ?_
      exact hH (v3 ^^^ (0 : Int32), v4 + 1) (Option.some.inj e).symm
    · refine seg_Bg (pc' := 35) (lv' := [(0, .int v0), (1, .int v1), (2, .int v2), (3, .int v3), (4, .int v4)]) (st' := [.int v4, .int v0, .int v3]) (lay' := lay) (h' := h) 2 rfl ?_
      refine call_Bg (a := 170) (la := [(0, .int v0), (1, .int v4)]) (np := 38) (lv' := [(0, .int v0), (1, .int v1), (2, .int v2), (3, .int v3), (4, .int v4)]) (rest := [.int v3]) (res := fun r => ([.int r], lay, h)) rfl e (fun r e => BJm_tells L xs v0 v4 lay h r e) (fun c2 e => ?_)
      show Bg L xs 176 38 [(0, .int v0), (1, .int v1), (2, .int v2), (3, .int v3), (4, .int v4)] [.int c2, .int v3] lay h R
      refine seg_Bg (pc' := 15) (lv' := [(0, .int v0), (1, .int v1), (2, .int v2), (3, .int (v3 ^^^ c2)), (4, .int (v4 + 1))]) (st' := []) (lay' := lay) (h' := h) 5 rfl ?_
      exact hH (v3 ^^^ c2, v4 + 1) (Option.some.inj e).symm
  · exact hE (v3, v4) (Option.some.inj e).symm
theorem BJm_sumOf_L15 (L : Nat) (xs : Nat → Int32) (v0 v1 v2 : Int32) (lay : Lay) (h : Hp) (R : List Value × Lay × Hp) (C : (Int32 × Int32) → Prop) (hE : ∀ t : Int32 × Int32, C t → Bg L xs 176 50 [(0, .int v0), (1, .int v1), (2, .int v2), (3, .int t.1), (4, .int t.2)] [] lay h R) (n : Nat) (s : Int32 × Int32) (o : (Int32 × Int32)) (e : loopN n (fun s => Jm_sumOf_L15 v0 v1 v2 s.1 s.2) s = some o) (hC : C o) : Bg L xs 176 15 [(0, .int v0), (1, .int v1), (2, .int v2), (3, .int s.1), (4, .int s.2)] [] lay h R := by
  refine loop_B (fun s => Jm_sumOf_L15 v0 v1 v2 s.1 s.2) (fun s : Int32 × Int32 => Bg L xs 176 15 [(0, .int v0), (1, .int v1), (2, .int v2), (3, .int s.1), (4, .int s.2)] [] lay h R) C (fun s o e => ?_) n s o e hC
  intro hK
  refine BJm_sumOf_L15_s L xs v0 v1 v2 lay h R s.1 s.2 o (fun s q => by subst q; exact hK) (fun t q => by subst q; exact hE t hK) e
set_option maxRecDepth 100000 in
theorem BJm_sumOf_L4_s (L : Nat) (xs : Nat → Int32) (v0 : Int32) (lay : Lay) (h : Hp) (R : List Value × Lay × Hp) (v1 v2 : Int32) (o : ((Int32 × Int32) ⊕ (Int32 × Int32))) (hH : ∀ s : Int32 × Int32, o = .inl s → Bg L xs 176 4 [(0, .int v0), (1, .int s.1), (2, .int s.2)] [] lay h R) (hE : ∀ t : Int32 × Int32, o = .inr t → Bg L xs 176 62 [(0, .int v0), (1, .int t.1), (2, .int t.2)] [] lay h R) (e : Jm_sumOf_L4 v0 v1 v2 = some o) : Bg L xs 176 4 [(0, .int v0), (1, .int v1), (2, .int v2)] [] lay h R := by
  refine seg_Bg (pc' := (if v2 < 8 then 10 else 62)) (lv' := [(0, .int v0), (1, .int v1), (2, .int v2)]) (st' := []) (lay' := lay) (h' := h) 3 rfl ?_
  refine pc_ite e (fun e => ?_) (fun e => ?_)
  · refine seg_Bg (pc' := 15) (lv' := [(0, .int v0), (1, .int v1), (2, .int v2), (3, .int 0), (4, .int 0)]) (st' := []) (lay' := lay) (h' := h) 4 rfl ?_
    obtain ⟨t3o, et3o, e⟩ := bd_s e
    refine BJm_sumOf_L15 L xs v0 v1 v2 lay h R (fun (t3 : Int32 × Int32) => (some (.inl (v1 ||| (t3.1 <<< (v2 &&& 31) : Int32), v2 + 1))) = some o) (fun t3 e => ?_) 1000000 (0, 0) _ et3o e
    refine seg_Bg (pc' := 4) (lv' := [(0, .int v0), (1, .int (v1 ||| (t3.1 <<< (v2 &&& 31) : Int32))), (2, .int (v2 + 1)), (3, .int t3.1), (4, .int t3.2)]) (st' := []) (lay' := lay) (h' := h) 8 rfl ?_
    refine kp_Bg (lv' := [(0, .int v0), (1, .int (v1 ||| (t3.1 <<< (v2 &&& 31) : Int32))), (2, .int (v2 + 1))]) rfl rfl ?_
    exact hH (v1 ||| (t3.1 <<< (v2 &&& 31) : Int32), v2 + 1) (Option.some.inj e).symm
  · exact hE (v1, v2) (Option.some.inj e).symm
theorem BJm_sumOf_L4 (L : Nat) (xs : Nat → Int32) (v0 : Int32) (lay : Lay) (h : Hp) (R : List Value × Lay × Hp) (C : (Int32 × Int32) → Prop) (hE : ∀ t : Int32 × Int32, C t → Bg L xs 176 62 [(0, .int v0), (1, .int t.1), (2, .int t.2)] [] lay h R) (n : Nat) (s : Int32 × Int32) (o : (Int32 × Int32)) (e : loopN n (fun s => Jm_sumOf_L4 v0 s.1 s.2) s = some o) (hC : C o) : Bg L xs 176 4 [(0, .int v0), (1, .int s.1), (2, .int s.2)] [] lay h R := by
  refine loop_B (fun s => Jm_sumOf_L4 v0 s.1 s.2) (fun s : Int32 × Int32 => Bg L xs 176 4 [(0, .int v0), (1, .int s.1), (2, .int s.2)] [] lay h R) C (fun s o e => ?_) n s o e hC
  intro hK
  refine BJm_sumOf_L4_s L xs v0 lay h R s.1 s.2 o (fun s q => by subst q; exact hK) (fun t q => by subst q; exact hE t hK) e
set_option maxRecDepth 100000 in
theorem BJm_sumOf (L : Nat) (xs : Nat → Int32) (v0 : Int32) (lay : Lay) (h : Hp) (o : Int32) (e : Jm_sumOf v0 = some o) : Bg L xs 176 0 [(0, .int v0)] [] lay h ([.int o], lay, h) := by
  obtain ⟨R, hR⟩ : ∃ R : List Value × Lay × Hp, R = ([.int o], lay, h) := ⟨_, rfl⟩
  rw [← hR]
  refine seg_Bg (pc' := 4) (lv' := [(0, .int v0), (1, .int 0), (2, .int 0)]) (st' := []) (lay' := lay) (h' := h) 4 rfl ?_
  obtain ⟨t4o, et4o, e⟩ := bd_s e
  refine BJm_sumOf_L4 L xs v0 lay h R (fun (t4 : Int32 × Int32) => (some t4.1) = some o) (fun t4 e => ?_) 1000000 (0, 0) _ et4o e
  refine seg_Bg (pc' := 63) (lv' := [(0, .int v0), (1, .int t4.1), (2, .int t4.2)]) (st' := [.int t4.1]) (lay' := lay) (h' := h) 1 rfl ?_
  rw [hR, ← Option.some.inj e]; exact ret_Bg rfl

set_option maxRecDepth 100000 in
theorem BJm_failsOfOne_L2_s (L : Nat) (xs : Nat → Int32) (v0 v1 : Int32) (lay : Lay) (h : Hp) (R : List Value × Lay × Hp) (v2 : Int32) (o : ((Int32) ⊕ ((Int32) ⊕ (Int32)))) (hH : ∀ s : Int32, o = .inl s → Bg L xs 181 2 [(0, .int v0), (1, .int v1), (2, .int s)] [] lay h R) (hE : ∀ t : Int32, o = .inr (.inl t) → Bg L xs 181 77 [(0, .int v0), (1, .int v1), (2, .int t)] [] lay h R) (hR : ∀ r : Int32, o = .inr (.inr r) → R = ([.int r], lay, h)) (e : Jm_failsOfOne_L2 v0 v1 v2 = some o) : Bg L xs 181 2 [(0, .int v0), (1, .int v1), (2, .int v2)] [] lay h R := by
  refine seg_Bg (pc' := (if v2 < 8 then 8 else 77)) (lv' := [(0, .int v0), (1, .int v1), (2, .int v2)]) (st' := []) (lay' := lay) (h' := h) 3 rfl ?_
  refine pc_ite e (fun e => ?_) (fun e => ?_)
  · refine seg_Bg (pc' := (if v1 = 3 then 13 else 37)) (lv' := [(0, .int v0), (1, .int v1), (2, .int v2)]) (st' := []) (lay' := lay) (h' := h) 3 rfl ?_
    refine pc_ite e (fun e => ?_) (fun e => ?_)
    · refine seg_Bg (pc' := 15) (lv' := [(0, .int v0), (1, .int v1), (2, .int v2)]) (st' := [.int v2, .int v0]) (lay' := lay) (h' := h) 2 rfl ?_
      refine call_Bg (a := 170) (la := [(0, .int v0), (1, .int v2)]) (np := 18) (lv' := [(0, .int v0), (1, .int v1), (2, .int v2)]) (rest := []) (res := fun r => ([.int r], lay, h)) rfl e (fun r e => BJm_tells L xs v0 v2 lay h r e) (fun c1 e => ?_)
      show Bg L xs 181 18 [(0, .int v0), (1, .int v1), (2, .int v2)] [.int c1] lay h R
      refine seg_Bg (pc' := 23) (lv' := [(0, .int v0), (1, .int v1), (2, .int v2)]) (st' := [.int ((7 : Int32) - v2), .int v0, .int c1]) (lay' := lay) (h' := h) 4 rfl ?_
      refine call_Bg (a := 170) (la := [(0, .int v0), (1, .int ((7 : Int32) - v2))]) (np := 26) (lv' := [(0, .int v0), (1, .int v1), (2, .int v2)]) (rest := [.int c1]) (res := fun r => ([.int r], lay, h)) rfl e (fun r e => BJm_tells L xs v0 ((7 : Int32) - v2) lay h r e) (fun c2 e => ?_)
      show Bg L xs 181 26 [(0, .int v0), (1, .int v1), (2, .int v2)] [.int c2, .int c1] lay h R
      refine seg_Bg (pc' := (if c1 = c2 then 29 else 33)) (lv' := [(0, .int v0), (1, .int v1), (2, .int v2)]) (st' := []) (lay' := lay) (h' := h) 1 rfl ?_
      refine pc_ite e (fun e => ?_) (fun e => ?_)
      · refine seg_Bg (pc' := (if (1 : Int32) = 0 then 71 else 69)) (lv' := [(0, .int v0), (1, .int v1), (2, .int v2), (3, .int 1)]) (st' := []) (lay' := lay) (h' := h) 5 rfl ?_
        refine pc_ite e (fun e => ?_) (fun e => ?_)
        · refine seg_Bg (pc' := 2) (lv' := [(0, .int v0), (1, .int v1), (2, .int (v2 + 1)), (3, .int 1)]) (st' := []) (lay' := lay) (h' := h) 2 rfl ?_
          refine kp_Bg (lv' := [(0, .int v0), (1, .int v1), (2, .int (v2 + 1))]) rfl rfl ?_
          exact hH (v2 + 1) (Option.some.inj e).symm
        · refine seg_Bg (pc' := 70) (lv' := [(0, .int v0), (1, .int v1), (2, .int v2), (3, .int 1)]) (st' := [.int v2]) (lay' := lay) (h' := h) 1 rfl ?_
          rw [hR v2 (Option.some.inj e).symm]; exact ret_Bg rfl
      · refine seg_Bg (pc' := (if (0 : Int32) = 0 then 71 else 69)) (lv' := [(0, .int v0), (1, .int v1), (2, .int v2), (3, .int 0)]) (st' := []) (lay' := lay) (h' := h) 5 rfl ?_
        refine pc_ite e (fun e => ?_) (fun e => ?_)
        · refine seg_Bg (pc' := 2) (lv' := [(0, .int v0), (1, .int v1), (2, .int (v2 + 1)), (3, .int 0)]) (st' := []) (lay' := lay) (h' := h) 2 rfl ?_
          refine kp_Bg (lv' := [(0, .int v0), (1, .int v1), (2, .int (v2 + 1))]) rfl rfl ?_
          exact hH (v2 + 1) (Option.some.inj e).symm
        · refine seg_Bg (pc' := 70) (lv' := [(0, .int v0), (1, .int v1), (2, .int v2), (3, .int 0)]) (st' := [.int v2]) (lay' := lay) (h' := h) 1 rfl ?_
          rw [hR v2 (Option.some.inj e).symm]; exact ret_Bg rfl
    · refine seg_Bg (pc' := (if v2 = 3 then 47 else 42)) (lv' := [(0, .int v0), (1, .int v1), (2, .int v2)]) (st' := []) (lay' := lay) (h' := h) 3 rfl ?_
      refine pc_ite e (fun e => ?_) (fun e => ?_)
      · refine seg_Bg (pc' := 48) (lv' := [(0, .int v0), (1, .int v1), (2, .int v2)]) (st' := [.int v0]) (lay' := lay) (h' := h) 1 rfl ?_
        refine call_Bg (a := 176) (la := [(0, .int v0)]) (np := 51) (lv' := [(0, .int v0), (1, .int v1), (2, .int v2)]) (rest := []) (res := fun r => ([.int r], lay, h)) rfl e (fun r e => BJm_sumOf L xs v0 lay h r e) (fun c3 e => ?_)
        show Bg L xs 181 51 [(0, .int v0), (1, .int v1), (2, .int v2)] [.int c3] lay h R
        refine seg_Bg (pc' := 52) (lv' := [(0, .int v0), (1, .int v1), (2, .int v2)]) (st' := [.int v2, .int c3]) (lay' := lay) (h' := h) 1 rfl ?_
        refine call_Bg (a := 170) (la := [(0, .int c3), (1, .int v2)]) (np := 55) (lv' := [(0, .int v0), (1, .int v1), (2, .int v2)]) (rest := []) (res := fun r => ([.int r], lay, h)) rfl e (fun r e => BJm_tells L xs c3 v2 lay h r e) (fun c4 e => ?_)
        show Bg L xs 181 55 [(0, .int v0), (1, .int v1), (2, .int v2)] [.int c4] lay h R
        refine seg_Bg (pc' := (if c4 = 1 then 59 else 63)) (lv' := [(0, .int v0), (1, .int v1), (2, .int v2)]) (st' := []) (lay' := lay) (h' := h) 2 rfl ?_
        refine pc_ite e (fun e => ?_) (fun e => ?_)
        · refine seg_Bg (pc' := (if (1 : Int32) = 0 then 71 else 69)) (lv' := [(0, .int v0), (1, .int v1), (2, .int v2), (3, .int 1)]) (st' := []) (lay' := lay) (h' := h) 5 rfl ?_
          refine pc_ite e (fun e => ?_) (fun e => ?_)
          · refine seg_Bg (pc' := 2) (lv' := [(0, .int v0), (1, .int v1), (2, .int (v2 + 1)), (3, .int 1)]) (st' := []) (lay' := lay) (h' := h) 2 rfl ?_
            refine kp_Bg (lv' := [(0, .int v0), (1, .int v1), (2, .int (v2 + 1))]) rfl rfl ?_
            exact hH (v2 + 1) (Option.some.inj e).symm
          · refine seg_Bg (pc' := 70) (lv' := [(0, .int v0), (1, .int v1), (2, .int v2), (3, .int 1)]) (st' := [.int v2]) (lay' := lay) (h' := h) 1 rfl ?_
            rw [hR v2 (Option.some.inj e).symm]; exact ret_Bg rfl
        · refine seg_Bg (pc' := (if (0 : Int32) = 0 then 71 else 69)) (lv' := [(0, .int v0), (1, .int v1), (2, .int v2), (3, .int 0)]) (st' := []) (lay' := lay) (h' := h) 4 rfl ?_
          refine pc_ite e (fun e => ?_) (fun e => ?_)
          · refine seg_Bg (pc' := 2) (lv' := [(0, .int v0), (1, .int v1), (2, .int (v2 + 1)), (3, .int 0)]) (st' := []) (lay' := lay) (h' := h) 2 rfl ?_
            refine kp_Bg (lv' := [(0, .int v0), (1, .int v1), (2, .int (v2 + 1))]) rfl rfl ?_
            exact hH (v2 + 1) (Option.some.inj e).symm
          · refine seg_Bg (pc' := 70) (lv' := [(0, .int v0), (1, .int v1), (2, .int v2), (3, .int 0)]) (st' := [.int v2]) (lay' := lay) (h' := h) 1 rfl ?_
            rw [hR v2 (Option.some.inj e).symm]; exact ret_Bg rfl
      · refine seg_Bg (pc' := (if 4 < v2 then 47 else 63)) (lv' := [(0, .int v0), (1, .int v1), (2, .int v2)]) (st' := []) (lay' := lay) (h' := h) 3 rfl ?_
        refine pc_ite e (fun e => ?_) (fun e => ?_)
        · refine seg_Bg (pc' := 48) (lv' := [(0, .int v0), (1, .int v1), (2, .int v2)]) (st' := [.int v0]) (lay' := lay) (h' := h) 1 rfl ?_
          refine call_Bg (a := 176) (la := [(0, .int v0)]) (np := 51) (lv' := [(0, .int v0), (1, .int v1), (2, .int v2)]) (rest := []) (res := fun r => ([.int r], lay, h)) rfl e (fun r e => BJm_sumOf L xs v0 lay h r e) (fun c5 e => ?_)
          show Bg L xs 181 51 [(0, .int v0), (1, .int v1), (2, .int v2)] [.int c5] lay h R
          refine seg_Bg (pc' := 52) (lv' := [(0, .int v0), (1, .int v1), (2, .int v2)]) (st' := [.int v2, .int c5]) (lay' := lay) (h' := h) 1 rfl ?_
          refine call_Bg (a := 170) (la := [(0, .int c5), (1, .int v2)]) (np := 55) (lv' := [(0, .int v0), (1, .int v1), (2, .int v2)]) (rest := []) (res := fun r => ([.int r], lay, h)) rfl e (fun r e => BJm_tells L xs c5 v2 lay h r e) (fun c6 e => ?_)
          show Bg L xs 181 55 [(0, .int v0), (1, .int v1), (2, .int v2)] [.int c6] lay h R
          refine seg_Bg (pc' := (if c6 = 1 then 59 else 63)) (lv' := [(0, .int v0), (1, .int v1), (2, .int v2)]) (st' := []) (lay' := lay) (h' := h) 2 rfl ?_
          refine pc_ite e (fun e => ?_) (fun e => ?_)
          · refine seg_Bg (pc' := (if (1 : Int32) = 0 then 71 else 69)) (lv' := [(0, .int v0), (1, .int v1), (2, .int v2), (3, .int 1)]) (st' := []) (lay' := lay) (h' := h) 5 rfl ?_
            refine pc_ite e (fun e => ?_) (fun e => ?_)
            · refine seg_Bg (pc' := 2) (lv' := [(0, .int v0), (1, .int v1), (2, .int (v2 + 1)), (3, .int 1)]) (st' := []) (lay' := lay) (h' := h) 2 rfl ?_
              refine kp_Bg (lv' := [(0, .int v0), (1, .int v1), (2, .int (v2 + 1))]) rfl rfl ?_
              exact hH (v2 + 1) (Option.some.inj e).symm
            · refine seg_Bg (pc' := 70) (lv' := [(0, .int v0), (1, .int v1), (2, .int v2), (3, .int 1)]) (st' := [.int v2]) (lay' := lay) (h' := h) 1 rfl ?_
              rw [hR v2 (Option.some.inj e).symm]; exact ret_Bg rfl
          · refine seg_Bg (pc' := (if (0 : Int32) = 0 then 71 else 69)) (lv' := [(0, .int v0), (1, .int v1), (2, .int v2), (3, .int 0)]) (st' := []) (lay' := lay) (h' := h) 4 rfl ?_
            refine pc_ite e (fun e => ?_) (fun e => ?_)
            · refine seg_Bg (pc' := 2) (lv' := [(0, .int v0), (1, .int v1), (2, .int (v2 + 1)), (3, .int 0)]) (st' := []) (lay' := lay) (h' := h) 2 rfl ?_
              refine kp_Bg (lv' := [(0, .int v0), (1, .int v1), (2, .int (v2 + 1))]) rfl rfl ?_
              exact hH (v2 + 1) (Option.some.inj e).symm
            · refine seg_Bg (pc' := 70) (lv' := [(0, .int v0), (1, .int v1), (2, .int v2), (3, .int 0)]) (st' := [.int v2]) (lay' := lay) (h' := h) 1 rfl ?_
              rw [hR v2 (Option.some.inj e).symm]; exact ret_Bg rfl
        · refine seg_Bg (pc' := (if (0 : Int32) = 0 then 71 else 69)) (lv' := [(0, .int v0), (1, .int v1), (2, .int v2), (3, .int 0)]) (st' := []) (lay' := lay) (h' := h) 4 rfl ?_
          refine pc_ite e (fun e => ?_) (fun e => ?_)
          · refine seg_Bg (pc' := 2) (lv' := [(0, .int v0), (1, .int v1), (2, .int (v2 + 1)), (3, .int 0)]) (st' := []) (lay' := lay) (h' := h) 2 rfl ?_
            refine kp_Bg (lv' := [(0, .int v0), (1, .int v1), (2, .int (v2 + 1))]) rfl rfl ?_
            exact hH (v2 + 1) (Option.some.inj e).symm
          · refine seg_Bg (pc' := 70) (lv' := [(0, .int v0), (1, .int v1), (2, .int v2), (3, .int 0)]) (st' := [.int v2]) (lay' := lay) (h' := h) 1 rfl ?_
            rw [hR v2 (Option.some.inj e).symm]; exact ret_Bg rfl
  · exact hE v2 (Option.some.inj e).symm
theorem BJm_failsOfOne_L2 (L : Nat) (xs : Nat → Int32) (v0 v1 : Int32) (lay : Lay) (h : Hp) (R : List Value × Lay × Hp) (C : ((Int32) ⊕ (Int32)) → Prop) (hE : ∀ t : Int32, C (.inl t) → Bg L xs 181 77 [(0, .int v0), (1, .int v1), (2, .int t)] [] lay h R) (hR : ∀ r : Int32, C (.inr r) → R = ([.int r], lay, h)) (n : Nat) (s : Int32) (o : ((Int32) ⊕ (Int32))) (e : loopN n (fun s => Jm_failsOfOne_L2 v0 v1 s) s = some o) (hC : C o) : Bg L xs 181 2 [(0, .int v0), (1, .int v1), (2, .int s)] [] lay h R := by
  refine loop_B (fun s => Jm_failsOfOne_L2 v0 v1 s) (fun s : Int32 => Bg L xs 181 2 [(0, .int v0), (1, .int v1), (2, .int s)] [] lay h R) C (fun s o e => ?_) n s o e hC
  intro hK
  refine BJm_failsOfOne_L2_s L xs v0 v1 lay h R s o (fun s q => by subst q; exact hK) (fun t q => by subst q; exact hE t hK) (fun r q => by subst q; exact hR r hK) e
set_option maxRecDepth 100000 in
theorem BJm_failsOfOne (L : Nat) (xs : Nat → Int32) (v0 : Int32) (v1 : Int32) (lay : Lay) (h : Hp) (o : Int32) (e : Jm_failsOfOne v0 v1 = some o) : Bg L xs 181 0 [(0, .int v0), (1, .int v1)] [] lay h ([.int o], lay, h) := by
  obtain ⟨R, hR⟩ : ∃ R : List Value × Lay × Hp, R = ([.int o], lay, h) := ⟨_, rfl⟩
  rw [← hR]
  refine seg_Bg (pc' := 2) (lv' := [(0, .int v0), (1, .int v1), (2, .int 0)]) (st' := []) (lay' := lay) (h' := h) 2 rfl ?_
  obtain ⟨t7o, et7o, e⟩ := bd_s e
  refine BJm_failsOfOne_L2 L xs v0 v1 lay h R (fun (t7x : (Int32) ⊕ (Int32)) => (sm t7x (fun t7 => some (-1)) (fun r7 => some r7)) = some o) (fun t7 e => ?_) (fun r7 e => ?_) 1000000 0 _ et7o e
  · refine seg_Bg (pc' := 78) (lv' := [(0, .int v0), (1, .int v1), (2, .int t7)]) (st' := [.int (-1)]) (lay' := lay) (h' := h) 1 rfl ?_
    rw [hR, ← Option.some.inj e]; exact ret_Bg rfl
  · rw [hR]; exact congrArg (fun r => (([.int r], lay, h) : List Value × Lay × Hp)) (Option.some.inj e).symm

set_option maxRecDepth 100000 in
theorem BJm_bitOf (L : Nat) (xs : Nat → Int32) (v0 : Int32) (lay : Lay) (h : Hp) (o : Int32) (e : Jm_bitOf v0 = some o) : Bg L xs 171 0 [(0, .int v0)] [] lay h ([.int o], lay, h) := by
  obtain ⟨R, hR⟩ : ∃ R : List Value × Lay × Hp, R = ([.int o], lay, h) := ⟨_, rfl⟩
  rw [← hR]
  refine seg_Bg (pc' := 3) (lv' := [(0, .int v0)]) (st' := [.int ((4 : Int32) >>> (v0 &&& 31) : Int32)]) (lay' := lay) (h' := h) 3 rfl ?_
  rw [hR, ← Option.some.inj e]; exact ret_Bg rfl

set_option maxRecDepth 100000 in
theorem BJm_hangs_L11_s (L : Nat) (xs : Nat → Int32) (v0 v2 : Int32) (lay : Lay) (h : Hp) (R : List Value × Lay × Hp) (v1 v3 : Int32) (o : ((Int32 × Int32) ⊕ (Int32 × Int32))) (hH : ∀ s : Int32 × Int32, o = .inl s → Bg L xs 172 11 [(0, .int v0), (1, .int s.1), (2, .int v2), (3, .int s.2)] [] lay h R) (hE : ∀ t : Int32 × Int32, o = .inr t → Bg L xs 172 51 [(0, .int v0), (1, .int t.1), (2, .int v2), (3, .int t.2)] [] lay h R) (e : Jm_hangs_L11 v0 v2 v1 v3 = some o) : Bg L xs 172 11 [(0, .int v0), (1, .int v1), (2, .int v2), (3, .int v3)] [] lay h R := by
  refine seg_Bg (pc' := (if v3 < 8 then 17 else 51)) (lv' := [(0, .int v0), (1, .int v1), (2, .int v2), (3, .int v3)]) (st' := []) (lay' := lay) (h' := h) 3 rfl ?_
  refine pc_ite e (fun e => ?_) (fun e => ?_)
  · refine seg_Bg (pc' := 20) (lv' := [(0, .int v0), (1, .int v1), (2, .int v2), (3, .int v3)]) (st' := [.int v3, .int v0, .int v1]) (lay' := lay) (h' := h) 3 rfl ?_
    refine call_Bg (a := 170) (la := [(0, .int v0), (1, .int v3)]) (np := 23) (lv' := [(0, .int v0), (1, .int v1), (2, .int v2), (3, .int v3)]) (rest := [.int v1]) (res := fun r => ([.int r], lay, h)) rfl e (fun r e => BJm_tells L xs v0 v3 lay h r e) (fun c1 e => ?_)
    show Bg L xs 172 23 [(0, .int v0), (1, .int v1), (2, .int v2), (3, .int v3)] [.int c1, .int v1] lay h R
    refine seg_Bg (pc' := 26) (lv' := [(0, .int v0), (1, .int v1), (2, .int v2), (3, .int v3)]) (st' := [.int v2, .int v3, .int v0, .int c1, .int v1]) (lay' := lay) (h' := h) 3 rfl ?_
    refine call_Bg (a := 171) (la := [(0, .int v2)]) (np := 29) (lv' := [(0, .int v0), (1, .int v1), (2, .int v2), (3, .int v3)]) (rest := [.int v3, .int v0, .int c1, .int v1]) (res := fun r => ([.int r], lay, h)) rfl e (fun r e => BJm_bitOf L xs v2 lay h r e) (fun c2 e => ?_)
    show Bg L xs 172 29 [(0, .int v0), (1, .int v1), (2, .int v2), (3, .int v3)] [.int c2, .int v3, .int v0, .int c1, .int v1] lay h R
    refine seg_Bg (pc' := 30) (lv' := [(0, .int v0), (1, .int v1), (2, .int v2), (3, .int v3)]) (st' := [.int (v3 ^^^ c2), .int v0, .int c1, .int v1]) (lay' := lay) (h' := h) 1 rfl ?_
    refine call_Bg (a := 170) (la := [(0, .int v0), (1, .int (v3 ^^^ c2))]) (np := 33) (lv' := [(0, .int v0), (1, .int v1), (2, .int v2), (3, .int v3)]) (rest := [.int c1, .int v1]) (res := fun r => ([.int r], lay, h)) rfl e (fun r e => BJm_tells L xs v0 (v3 ^^^ c2) lay h r e) (fun c3 e => ?_)
    show Bg L xs 172 33 [(0, .int v0), (1, .int v1), (2, .int v2), (3, .int v3)] [.int c3, .int c1, .int v1] lay h R
    refine seg_Bg (pc' := (if c1 = c3 then 42 else 36)) (lv' := [(0, .int v0), (1, .int v1), (2, .int v2), (3, .int v3)]) (st' := [.int v1]) (lay' := lay) (h' := h) 1 rfl ?_
    refine pc_ite e (fun e => ?_) (fun e => ?_)
    · refine seg_Bg (pc' := 11) (lv' := [(0, .int v0), (1, .int (v1 ||| (0 : Int32))), (2, .int v2), (3, .int (v3 + 1))]) (st' := []) (lay' := lay) (h' := h) 5 rfl ?_
      exact hH (v1 ||| (0 : Int32), v3 + 1) (Option.some.inj e).symm
    · refine seg_Bg (pc' := 11) (lv' := [(0, .int v0), (1, .int (v1 ||| ((1 : Int32) <<< (v2 &&& 31) : Int32))), (2, .int v2), (3, .int (v3 + 1))]) (st' := []) (lay' := lay) (h' := h) 8 rfl ?_
      exact hH (v1 ||| ((1 : Int32) <<< (v2 &&& 31) : Int32), v3 + 1) (Option.some.inj e).symm
  · exact hE (v1, v3) (Option.some.inj e).symm
theorem BJm_hangs_L11 (L : Nat) (xs : Nat → Int32) (v0 v2 : Int32) (lay : Lay) (h : Hp) (R : List Value × Lay × Hp) (C : (Int32 × Int32) → Prop) (hE : ∀ t : Int32 × Int32, C t → Bg L xs 172 51 [(0, .int v0), (1, .int t.1), (2, .int v2), (3, .int t.2)] [] lay h R) (n : Nat) (s : Int32 × Int32) (o : (Int32 × Int32)) (e : loopN n (fun s => Jm_hangs_L11 v0 v2 s.1 s.2) s = some o) (hC : C o) : Bg L xs 172 11 [(0, .int v0), (1, .int s.1), (2, .int v2), (3, .int s.2)] [] lay h R := by
  refine loop_B (fun s => Jm_hangs_L11 v0 v2 s.1 s.2) (fun s : Int32 × Int32 => Bg L xs 172 11 [(0, .int v0), (1, .int s.1), (2, .int v2), (3, .int s.2)] [] lay h R) C (fun s o e => ?_) n s o e hC
  intro hK
  refine BJm_hangs_L11_s L xs v0 v2 lay h R s.1 s.2 o (fun s q => by subst q; exact hK) (fun t q => by subst q; exact hE t hK) e
set_option maxRecDepth 100000 in
theorem BJm_hangs_L4_s (L : Nat) (xs : Nat → Int32) (v0 : Int32) (lay : Lay) (h : Hp) (R : List Value × Lay × Hp) (v1 v2 : Int32) (o : ((Int32 × Int32) ⊕ (Int32 × Int32))) (hH : ∀ s : Int32 × Int32, o = .inl s → Bg L xs 172 4 [(0, .int v0), (1, .int s.1), (2, .int s.2)] [] lay h R) (hE : ∀ t : Int32 × Int32, o = .inr t → Bg L xs 172 57 [(0, .int v0), (1, .int t.1), (2, .int t.2)] [] lay h R) (e : Jm_hangs_L4 v0 v1 v2 = some o) : Bg L xs 172 4 [(0, .int v0), (1, .int v1), (2, .int v2)] [] lay h R := by
  refine seg_Bg (pc' := (if v2 < 3 then 9 else 57)) (lv' := [(0, .int v0), (1, .int v1), (2, .int v2)]) (st' := []) (lay' := lay) (h' := h) 3 rfl ?_
  refine pc_ite e (fun e => ?_) (fun e => ?_)
  · refine seg_Bg (pc' := 11) (lv' := [(0, .int v0), (1, .int v1), (2, .int v2), (3, .int 0)]) (st' := []) (lay' := lay) (h' := h) 2 rfl ?_
    obtain ⟨t4o, et4o, e⟩ := bd_s e
    refine BJm_hangs_L11 L xs v0 v2 lay h R (fun (t4 : Int32 × Int32) => (some (.inl (t4.1, v2 + 1))) = some o) (fun t4 e => ?_) 1000000 (v1, 0) _ et4o e
    refine seg_Bg (pc' := 4) (lv' := [(0, .int v0), (1, .int t4.1), (2, .int (v2 + 1)), (3, .int t4.2)]) (st' := []) (lay' := lay) (h' := h) 2 rfl ?_
    refine kp_Bg (lv' := [(0, .int v0), (1, .int t4.1), (2, .int (v2 + 1))]) rfl rfl ?_
    exact hH (t4.1, v2 + 1) (Option.some.inj e).symm
  · exact hE (v1, v2) (Option.some.inj e).symm
theorem BJm_hangs_L4 (L : Nat) (xs : Nat → Int32) (v0 : Int32) (lay : Lay) (h : Hp) (R : List Value × Lay × Hp) (C : (Int32 × Int32) → Prop) (hE : ∀ t : Int32 × Int32, C t → Bg L xs 172 57 [(0, .int v0), (1, .int t.1), (2, .int t.2)] [] lay h R) (n : Nat) (s : Int32 × Int32) (o : (Int32 × Int32)) (e : loopN n (fun s => Jm_hangs_L4 v0 s.1 s.2) s = some o) (hC : C o) : Bg L xs 172 4 [(0, .int v0), (1, .int s.1), (2, .int s.2)] [] lay h R := by
  refine loop_B (fun s => Jm_hangs_L4 v0 s.1 s.2) (fun s : Int32 × Int32 => Bg L xs 172 4 [(0, .int v0), (1, .int s.1), (2, .int s.2)] [] lay h R) C (fun s o e => ?_) n s o e hC
  intro hK
  refine BJm_hangs_L4_s L xs v0 lay h R s.1 s.2 o (fun s q => by subst q; exact hK) (fun t q => by subst q; exact hE t hK) e
set_option maxRecDepth 100000 in
theorem BJm_hangs (L : Nat) (xs : Nat → Int32) (v0 : Int32) (lay : Lay) (h : Hp) (o : Int32) (e : Jm_hangs v0 = some o) : Bg L xs 172 0 [(0, .int v0)] [] lay h ([.int o], lay, h) := by
  obtain ⟨R, hR⟩ : ∃ R : List Value × Lay × Hp, R = ([.int o], lay, h) := ⟨_, rfl⟩
  rw [← hR]
  refine seg_Bg (pc' := 4) (lv' := [(0, .int v0), (1, .int 0), (2, .int 0)]) (st' := []) (lay' := lay) (h' := h) 4 rfl ?_
  obtain ⟨t5o, et5o, e⟩ := bd_s e
  refine BJm_hangs_L4 L xs v0 lay h R (fun (t5 : Int32 × Int32) => (some t5.1) = some o) (fun t5 e => ?_) 1000000 (0, 0) _ et5o e
  refine seg_Bg (pc' := 58) (lv' := [(0, .int v0), (1, .int t5.1), (2, .int t5.2)]) (st' := [.int t5.1]) (lay' := lay) (h' := h) 1 rfl ?_
  rw [hR, ← Option.some.inj e]; exact ret_Bg rfl

set_option maxRecDepth 100000 in
theorem BJm_has (L : Nat) (xs : Nat → Int32) (v0 : Int32) (v1 : Int32) (lay : Lay) (h : Hp) (o : Int32) (e : Jm_has v0 v1 = some o) : Bg L xs 167 0 [(0, .int v0), (1, .int v1)] [] lay h ([.int o], lay, h) := by
  obtain ⟨R, hR⟩ : ∃ R : List Value × Lay × Hp, R = ([.int o], lay, h) := ⟨_, rfl⟩
  rw [← hR]
  refine seg_Bg (pc' := (if ((v0 >>> (v1 &&& 31) : Int32) &&& (1 : Int32)) = 1 then 9 else 13)) (lv' := [(0, .int v0), (1, .int v1)]) (st' := []) (lay' := lay) (h' := h) 7 rfl ?_
  refine pc_ite e (fun e => ?_) (fun e => ?_)
  · refine seg_Bg (pc' := 14) (lv' := [(0, .int v0), (1, .int v1)]) (st' := [.int 1]) (lay' := lay) (h' := h) 2 rfl ?_
    rw [hR, ← Option.some.inj e]; exact ret_Bg rfl
  · refine seg_Bg (pc' := 14) (lv' := [(0, .int v0), (1, .int v1)]) (st' := [.int 0]) (lay' := lay) (h' := h) 1 rfl ?_
    rw [hR, ← Option.some.inj e]; exact ret_Bg rfl

set_option maxRecDepth 100000 in
theorem BJm_failsOfHanging_J36 (L : Nat) (xs : Nat → Int32) (v0 v1 v2 s0 : Int32) (lay : Lay) (h : Hp) (o : (Int32)) (e : Jm_failsOfHanging_J36 v0 v1 v2 s0 = some o) (R : List Value × Lay × Hp) (hR : R = ([.int o], lay, h)) : Bg L xs 182 36 [(0, .int v0), (1, .int v1), (2, .int v2)] [.int s0] lay h R := by
  refine seg_Bg (pc' := 39) (lv' := [(0, .int v0), (1, .int v1), (2, .int v2), (3, .int s0)]) (st' := [.int v2, .int v1]) (lay' := lay) (h' := h) 3 rfl ?_
  refine call_Bg (a := 167) (la := [(0, .int v1), (1, .int v2)]) (np := 42) (lv' := [(0, .int v0), (1, .int v1), (2, .int v2), (3, .int s0)]) (rest := []) (res := fun r => ([.int r], lay, h)) rfl e (fun r e => BJm_has L xs v1 v2 lay h r e) (fun c4 e => ?_)
  show Bg L xs 182 42 [(0, .int v0), (1, .int v1), (2, .int v2), (3, .int s0)] [.int c4] lay h R
  refine seg_Bg (pc' := (if c4 = 0 then 62 else 45)) (lv' := [(0, .int v0), (1, .int v1), (2, .int v2), (3, .int s0)]) (st' := []) (lay' := lay) (h' := h) 1 rfl ?_
  refine pc_ite e (fun e => ?_) (fun e => ?_)
  · refine seg_Bg (pc' := 63) (lv' := [(0, .int v0), (1, .int v1), (2, .int v2), (3, .int s0)]) (st' := [.int (-1)]) (lay' := lay) (h' := h) 1 rfl ?_
    rw [hR, ← Option.some.inj e]; exact ret_Bg rfl
  · refine seg_Bg (pc' := 47) (lv' := [(0, .int v0), (1, .int v1), (2, .int v2), (3, .int s0)]) (st' := [.int s0, .int v1]) (lay' := lay) (h' := h) 2 rfl ?_
    refine call_Bg (a := 167) (la := [(0, .int v1), (1, .int s0)]) (np := 50) (lv' := [(0, .int v0), (1, .int v1), (2, .int v2), (3, .int s0)]) (rest := []) (res := fun r => ([.int r], lay, h)) rfl e (fun r e => BJm_has L xs v1 s0 lay h r e) (fun c5 e => ?_)
    show Bg L xs 182 50 [(0, .int v0), (1, .int v1), (2, .int v2), (3, .int s0)] [.int c5] lay h R
    refine seg_Bg (pc' := (if c5 = 0 then 62 else 53)) (lv' := [(0, .int v0), (1, .int v1), (2, .int v2), (3, .int s0)]) (st' := []) (lay' := lay) (h' := h) 1 rfl ?_
    refine pc_ite e (fun e => ?_) (fun e => ?_)
    · refine seg_Bg (pc' := 63) (lv' := [(0, .int v0), (1, .int v1), (2, .int v2), (3, .int s0)]) (st' := [.int (-1)]) (lay' := lay) (h' := h) 1 rfl ?_
      rw [hR, ← Option.some.inj e]; exact ret_Bg rfl
    · refine seg_Bg (pc' := 63) (lv' := [(0, .int v0), (1, .int v1), (2, .int v2), (3, .int s0)]) (st' := [.int (((8 : Int32) * v2) + s0)]) (lay' := lay) (h' := h) 6 rfl ?_
      rw [hR, ← Option.some.inj e]; exact ret_Bg rfl
set_option maxRecDepth 100000 in
theorem BJm_failsOfHanging_J18 (L : Nat) (xs : Nat → Int32) (v0 v1 s0 : Int32) (lay : Lay) (h : Hp) (o : (Int32)) (e : Jm_failsOfHanging_J18 v0 v1 s0 = some o) (R : List Value × Lay × Hp) (hR : R = ([.int o], lay, h)) : Bg L xs 182 18 [(0, .int v0), (1, .int v1)] [.int s0] lay h R := by
  refine seg_Bg (pc' := (if s0 = 0 then 23 else 35)) (lv' := [(0, .int v0), (1, .int v1), (2, .int s0)]) (st' := []) (lay' := lay) (h' := h) 3 rfl ?_
  refine pc_ite e (fun e => ?_) (fun e => ?_)
  · refine seg_Bg (pc' := 25) (lv' := [(0, .int v0), (1, .int v1), (2, .int s0)]) (st' := [.int 1, .int v1]) (lay' := lay) (h' := h) 2 rfl ?_
    refine call_Bg (a := 167) (la := [(0, .int v1), (1, .int 1)]) (np := 28) (lv' := [(0, .int v0), (1, .int v1), (2, .int s0)]) (rest := []) (res := fun r => ([.int r], lay, h)) rfl e (fun r e => BJm_has L xs v1 1 lay h r e) (fun c3 e => ?_)
    show Bg L xs 182 28 [(0, .int v0), (1, .int v1), (2, .int s0)] [.int c3] lay h R
    refine seg_Bg (pc' := (if c3 = 0 then 35 else 31)) (lv' := [(0, .int v0), (1, .int v1), (2, .int s0)]) (st' := []) (lay' := lay) (h' := h) 1 rfl ?_
    refine pc_ite e (fun e => ?_) (fun e => ?_)
    · refine seg_Bg (pc' := 36) (lv' := [(0, .int v0), (1, .int v1), (2, .int s0)]) (st' := [.int 2]) (lay' := lay) (h' := h) 1 rfl ?_
      exact BJm_failsOfHanging_J36 L xs v0 v1 s0 2 lay h o e R hR
    · refine seg_Bg (pc' := 36) (lv' := [(0, .int v0), (1, .int v1), (2, .int s0)]) (st' := [.int 1]) (lay' := lay) (h' := h) 2 rfl ?_
      exact BJm_failsOfHanging_J36 L xs v0 v1 s0 1 lay h o e R hR
  · refine seg_Bg (pc' := 36) (lv' := [(0, .int v0), (1, .int v1), (2, .int s0)]) (st' := [.int 2]) (lay' := lay) (h' := h) 1 rfl ?_
    exact BJm_failsOfHanging_J36 L xs v0 v1 s0 2 lay h o e R hR
set_option maxRecDepth 100000 in
theorem BJm_failsOfHanging (L : Nat) (xs : Nat → Int32) (v0 : Int32) (lay : Lay) (h : Hp) (o : Int32) (e : Jm_failsOfHanging v0 = some o) : Bg L xs 182 0 [(0, .int v0)] [] lay h ([.int o], lay, h) := by
  obtain ⟨R, hR⟩ : ∃ R : List Value × Lay × Hp, R = ([.int o], lay, h) := ⟨_, rfl⟩
  rw [← hR]
  refine seg_Bg (pc' := 1) (lv' := [(0, .int v0)]) (st' := [.int v0]) (lay' := lay) (h' := h) 1 rfl ?_
  refine call_Bg (a := 172) (la := [(0, .int v0)]) (np := 4) (lv' := [(0, .int v0)]) (rest := []) (res := fun r => ([.int r], lay, h)) rfl e (fun r e => BJm_hangs L xs v0 lay h r e) (fun c1 e => ?_)
  show Bg L xs 182 4 [(0, .int v0)] [.int c1] lay h R
  refine seg_Bg (pc' := 7) (lv' := [(0, .int v0), (1, .int c1)]) (st' := [.int 0, .int c1]) (lay' := lay) (h' := h) 3 rfl ?_
  refine call_Bg (a := 167) (la := [(0, .int c1), (1, .int 0)]) (np := 10) (lv' := [(0, .int v0), (1, .int c1)]) (rest := []) (res := fun r => ([.int r], lay, h)) rfl e (fun r e => BJm_has L xs c1 0 lay h r e) (fun c2 e => ?_)
  show Bg L xs 182 10 [(0, .int v0), (1, .int c1)] [.int c2] lay h R
  refine seg_Bg (pc' := (if c2 = 0 then 17 else 13)) (lv' := [(0, .int v0), (1, .int c1)]) (st' := []) (lay' := lay) (h' := h) 1 rfl ?_
  refine pc_ite e (fun e => ?_) (fun e => ?_)
  · refine seg_Bg (pc' := 18) (lv' := [(0, .int v0), (1, .int c1)]) (st' := [.int 1]) (lay' := lay) (h' := h) 1 rfl ?_
    exact BJm_failsOfHanging_J18 L xs v0 c1 1 lay h o e R hR
  · refine seg_Bg (pc' := 18) (lv' := [(0, .int v0), (1, .int c1)]) (st' := [.int 0]) (lay' := lay) (h' := h) 2 rfl ?_
    exact BJm_failsOfHanging_J18 L xs v0 c1 0 lay h o e R hR

set_option maxRecDepth 100000 in
theorem BJm_failsOfThree_J105 (L : Nat) (xs : Nat → Int32) (v0 v1 v2 v3 v4 v5 v6 s0 : Int32) (lay : Lay) (h : Hp) (o : ((Int32) ⊕ ((Int32) ⊕ (Int32)))) (e : Jm_failsOfThree_J105 v0 v1 v2 v3 v4 v5 v6 s0 = some o) (R : List Value × Lay × Hp) (hH : ∀ s : Int32, o = .inl s → Bg L xs 180 2 [(0, .int v0), (1, .int v1), (2, .int s)] [] lay h R) (hE : ∀ t : Int32, o = .inr (.inl t) → Bg L xs 180 138 [(0, .int v0), (1, .int v1), (2, .int t)] [] lay h R) (hR : ∀ r : Int32, o = .inr (.inr r) → R = ([.int r], lay, h)) : Bg L xs 180 105 [(0, .int v0), (1, .int v1), (2, .int v2), (3, .int v3), (4, .int v4), (5, .int v5), (6, .int v6)] [.int s0] lay h R := by
  refine seg_Bg (pc' := (if v4 < v3 then 132 else 113)) (lv' := [(0, .int v0), (1, .int v1), (2, .int v2), (3, .int v3), (4, .int v4), (5, .int v5), (6, .int v6), (7, .int s0)]) (st' := []) (lay' := lay) (h' := h) 4 rfl ?_
  refine pc_ite e (fun e => ?_) (fun e => ?_)
  · refine seg_Bg (pc' := 2) (lv' := [(0, .int v0), (1, .int v1), (2, .int (v2 + 1)), (3, .int v3), (4, .int v4), (5, .int v5), (6, .int v6), (7, .int s0)]) (st' := []) (lay' := lay) (h' := h) 2 rfl ?_
    refine kp_Bg (lv' := [(0, .int v0), (1, .int v1), (2, .int (v2 + 1))]) rfl rfl ?_
    exact hH (v2 + 1) (Option.some.inj e).symm
  · refine seg_Bg (pc' := (if v5 < v4 then 132 else 120)) (lv' := [(0, .int v0), (1, .int v1), (2, .int v2), (3, .int v3), (4, .int v4), (5, .int v5), (6, .int v6), (7, .int s0)]) (st' := []) (lay' := lay) (h' := h) 3 rfl ?_
    refine pc_ite e (fun e => ?_) (fun e => ?_)
    · refine seg_Bg (pc' := 2) (lv' := [(0, .int v0), (1, .int v1), (2, .int (v2 + 1)), (3, .int v3), (4, .int v4), (5, .int v5), (6, .int v6), (7, .int s0)]) (st' := []) (lay' := lay) (h' := h) 2 rfl ?_
      refine kp_Bg (lv' := [(0, .int v0), (1, .int v1), (2, .int (v2 + 1))]) rfl rfl ?_
      exact hH (v2 + 1) (Option.some.inj e).symm
    · refine seg_Bg (pc' := (if v6 = 0 then 132 else 125)) (lv' := [(0, .int v0), (1, .int v1), (2, .int v2), (3, .int v3), (4, .int v4), (5, .int v5), (6, .int v6), (7, .int s0)]) (st' := []) (lay' := lay) (h' := h) 2 rfl ?_
      refine pc_ite e (fun e => ?_) (fun e => ?_)
      · refine seg_Bg (pc' := 2) (lv' := [(0, .int v0), (1, .int v1), (2, .int (v2 + 1)), (3, .int v3), (4, .int v4), (5, .int v5), (6, .int v6), (7, .int s0)]) (st' := []) (lay' := lay) (h' := h) 2 rfl ?_
        refine kp_Bg (lv' := [(0, .int v0), (1, .int v1), (2, .int (v2 + 1))]) rfl rfl ?_
        exact hH (v2 + 1) (Option.some.inj e).symm
      · refine seg_Bg (pc' := (if s0 = 0 then 132 else 130)) (lv' := [(0, .int v0), (1, .int v1), (2, .int v2), (3, .int v3), (4, .int v4), (5, .int v5), (6, .int v6), (7, .int s0)]) (st' := []) (lay' := lay) (h' := h) 2 rfl ?_
        refine pc_ite e (fun e => ?_) (fun e => ?_)
        · refine seg_Bg (pc' := 2) (lv' := [(0, .int v0), (1, .int v1), (2, .int (v2 + 1)), (3, .int v3), (4, .int v4), (5, .int v5), (6, .int v6), (7, .int s0)]) (st' := []) (lay' := lay) (h' := h) 2 rfl ?_
          refine kp_Bg (lv' := [(0, .int v0), (1, .int v1), (2, .int (v2 + 1))]) rfl rfl ?_
          exact hH (v2 + 1) (Option.some.inj e).symm
        · refine seg_Bg (pc' := 131) (lv' := [(0, .int v0), (1, .int v1), (2, .int v2), (3, .int v3), (4, .int v4), (5, .int v5), (6, .int v6), (7, .int s0)]) (st' := [.int v2]) (lay' := lay) (h' := h) 1 rfl ?_
          rw [hR v2 (Option.some.inj e).symm]; exact ret_Bg rfl
set_option maxRecDepth 100000 in
theorem BJm_failsOfThree_J63 (L : Nat) (xs : Nat → Int32) (v0 v1 v2 v3 v4 v5 s0 : Int32) (lay : Lay) (h : Hp) (o : ((Int32) ⊕ ((Int32) ⊕ (Int32)))) (e : Jm_failsOfThree_J63 v0 v1 v2 v3 v4 v5 s0 = some o) (R : List Value × Lay × Hp) (hH : ∀ s : Int32, o = .inl s → Bg L xs 180 2 [(0, .int v0), (1, .int v1), (2, .int s)] [] lay h R) (hE : ∀ t : Int32, o = .inr (.inl t) → Bg L xs 180 138 [(0, .int v0), (1, .int v1), (2, .int t)] [] lay h R) (hR : ∀ r : Int32, o = .inr (.inr r) → R = ([.int r], lay, h)) : Bg L xs 180 63 [(0, .int v0), (1, .int v1), (2, .int v2), (3, .int v3), (4, .int v4), (5, .int v5)] [.int s0] lay h R := by
  refine seg_Bg (pc' := (if v1 = 1 then 70 else 88)) (lv' := [(0, .int v0), (1, .int v1), (2, .int v2), (3, .int v3), (4, .int v4), (5, .int v5), (6, .int s0)]) (st' := []) (lay' := lay) (h' := h) 4 rfl ?_
  refine pc_ite e (fun e => ?_) (fun e => ?_)
  · refine seg_Bg (pc' := (if ((v3 &&& v4) &&& v5) = 0 then 80 else 84)) (lv' := [(0, .int v0), (1, .int v1), (2, .int v2), (3, .int v3), (4, .int v4), (5, .int v5), (6, .int s0)]) (st' := []) (lay' := lay) (h' := h) 6 rfl ?_
    refine pc_ite e (fun e => ?_) (fun e => ?_)
    · refine seg_Bg (pc' := 105) (lv' := [(0, .int v0), (1, .int v1), (2, .int v2), (3, .int v3), (4, .int v4), (5, .int v5), (6, .int s0)]) (st' := [.int 1]) (lay' := lay) (h' := h) 2 rfl ?_
      exact BJm_failsOfThree_J105 L xs v0 v1 v2 v3 v4 v5 s0 1 lay h o e R hH hE hR
    · refine seg_Bg (pc' := 105) (lv' := [(0, .int v0), (1, .int v1), (2, .int v2), (3, .int v3), (4, .int v4), (5, .int v5), (6, .int s0)]) (st' := [.int 0]) (lay' := lay) (h' := h) 2 rfl ?_
      exact BJm_failsOfThree_J105 L xs v0 v1 v2 v3 v4 v5 s0 0 lay h o e R hH hE hR
  · refine seg_Bg (pc' := (if ((v3 ||| v4) ||| v5) = 7 then 100 else 104)) (lv' := [(0, .int v0), (1, .int v1), (2, .int v2), (3, .int v3), (4, .int v4), (5, .int v5), (6, .int s0)]) (st' := []) (lay' := lay) (h' := h) 7 rfl ?_
    refine pc_ite e (fun e => ?_) (fun e => ?_)
    · refine seg_Bg (pc' := 105) (lv' := [(0, .int v0), (1, .int v1), (2, .int v2), (3, .int v3), (4, .int v4), (5, .int v5), (6, .int s0)]) (st' := [.int 1]) (lay' := lay) (h' := h) 2 rfl ?_
      exact BJm_failsOfThree_J105 L xs v0 v1 v2 v3 v4 v5 s0 1 lay h o e R hH hE hR
    · refine seg_Bg (pc' := 105) (lv' := [(0, .int v0), (1, .int v1), (2, .int v2), (3, .int v3), (4, .int v4), (5, .int v5), (6, .int s0)]) (st' := [.int 0]) (lay' := lay) (h' := h) 1 rfl ?_
      exact BJm_failsOfThree_J105 L xs v0 v1 v2 v3 v4 v5 s0 0 lay h o e R hH hE hR
set_option maxRecDepth 100000 in
theorem BJm_failsOfThree_L2_s (L : Nat) (xs : Nat → Int32) (v0 v1 : Int32) (lay : Lay) (h : Hp) (R : List Value × Lay × Hp) (v2 : Int32) (o : ((Int32) ⊕ ((Int32) ⊕ (Int32)))) (hH : ∀ s : Int32, o = .inl s → Bg L xs 180 2 [(0, .int v0), (1, .int v1), (2, .int s)] [] lay h R) (hE : ∀ t : Int32, o = .inr (.inl t) → Bg L xs 180 138 [(0, .int v0), (1, .int v1), (2, .int t)] [] lay h R) (hR : ∀ r : Int32, o = .inr (.inr r) → R = ([.int r], lay, h)) (e : Jm_failsOfThree_L2 v0 v1 v2 = some o) : Bg L xs 180 2 [(0, .int v0), (1, .int v1), (2, .int v2)] [] lay h R := by
  refine seg_Bg (pc' := (if v2 < 512 then 9 else 138)) (lv' := [(0, .int v0), (1, .int v1), (2, .int v2)]) (st' := []) (lay' := lay) (h' := h) 3 rfl ?_
  refine pc_ite e (fun e => ?_) (fun e => ?_)
  · refine seg_Bg (pc' := 31) (lv' := [(0, .int v0), (1, .int v1), (2, .int v2), (3, .int (v2 / 64)), (4, .int ((v2 / 8) - (v2 / 8) / 8 * 8)), (5, .int (v2 - v2 / 8 * 8))]) (st' := [.int (v2 / 64), .int v0]) (lay' := lay) (h' := h) 16 rfl ?_
    refine call_Bg (a := 170) (la := [(0, .int v0), (1, .int (v2 / 64))]) (np := 34) (lv' := [(0, .int v0), (1, .int v1), (2, .int v2), (3, .int (v2 / 64)), (4, .int ((v2 / 8) - (v2 / 8) / 8 * 8)), (5, .int (v2 - v2 / 8 * 8))]) (rest := []) (res := fun r => ([.int r], lay, h)) rfl e (fun r e => BJm_tells L xs v0 (v2 / 64) lay h r e) (fun c1 e => ?_)
    show Bg L xs 180 34 [(0, .int v0), (1, .int v1), (2, .int v2), (3, .int (v2 / 64)), (4, .int ((v2 / 8) - (v2 / 8) / 8 * 8)), (5, .int (v2 - v2 / 8 * 8))] [.int c1] lay h R
    refine seg_Bg (pc' := (if c1 = v1 then 38 else 62)) (lv' := [(0, .int v0), (1, .int v1), (2, .int v2), (3, .int (v2 / 64)), (4, .int ((v2 / 8) - (v2 / 8) / 8 * 8)), (5, .int (v2 - v2 / 8 * 8))]) (st' := []) (lay' := lay) (h' := h) 2 rfl ?_
    refine pc_ite e (fun e => ?_) (fun e => ?_)
    · refine seg_Bg (pc' := 41) (lv' := [(0, .int v0), (1, .int v1), (2, .int v2), (3, .int (v2 / 64)), (4, .int ((v2 / 8) - (v2 / 8) / 8 * 8)), (5, .int (v2 - v2 / 8 * 8))]) (st' := [.int ((v2 / 8) - (v2 / 8) / 8 * 8), .int v0]) (lay' := lay) (h' := h) 2 rfl ?_
      refine call_Bg (a := 170) (la := [(0, .int v0), (1, .int ((v2 / 8) - (v2 / 8) / 8 * 8))]) (np := 44) (lv' := [(0, .int v0), (1, .int v1), (2, .int v2), (3, .int (v2 / 64)), (4, .int ((v2 / 8) - (v2 / 8) / 8 * 8)), (5, .int (v2 - v2 / 8 * 8))]) (rest := []) (res := fun r => ([.int r], lay, h)) rfl e (fun r e => BJm_tells L xs v0 ((v2 / 8) - (v2 / 8) / 8 * 8) lay h r e) (fun c2 e => ?_)
      show Bg L xs 180 44 [(0, .int v0), (1, .int v1), (2, .int v2), (3, .int (v2 / 64)), (4, .int ((v2 / 8) - (v2 / 8) / 8 * 8)), (5, .int (v2 - v2 / 8 * 8))] [.int c2] lay h R
      refine seg_Bg (pc' := (if c2 = v1 then 48 else 62)) (lv' := [(0, .int v0), (1, .int v1), (2, .int v2), (3, .int (v2 / 64)), (4, .int ((v2 / 8) - (v2 / 8) / 8 * 8)), (5, .int (v2 - v2 / 8 * 8))]) (st' := []) (lay' := lay) (h' := h) 2 rfl ?_
      refine pc_ite e (fun e => ?_) (fun e => ?_)
      · refine seg_Bg (pc' := 51) (lv' := [(0, .int v0), (1, .int v1), (2, .int v2), (3, .int (v2 / 64)), (4, .int ((v2 / 8) - (v2 / 8) / 8 * 8)), (5, .int (v2 - v2 / 8 * 8))]) (st' := [.int (v2 - v2 / 8 * 8), .int v0]) (lay' := lay) (h' := h) 2 rfl ?_
        refine call_Bg (a := 170) (la := [(0, .int v0), (1, .int (v2 - v2 / 8 * 8))]) (np := 54) (lv' := [(0, .int v0), (1, .int v1), (2, .int v2), (3, .int (v2 / 64)), (4, .int ((v2 / 8) - (v2 / 8) / 8 * 8)), (5, .int (v2 - v2 / 8 * 8))]) (rest := []) (res := fun r => ([.int r], lay, h)) rfl e (fun r e => BJm_tells L xs v0 (v2 - v2 / 8 * 8) lay h r e) (fun c3 e => ?_)
        show Bg L xs 180 54 [(0, .int v0), (1, .int v1), (2, .int v2), (3, .int (v2 / 64)), (4, .int ((v2 / 8) - (v2 / 8) / 8 * 8)), (5, .int (v2 - v2 / 8 * 8))] [.int c3] lay h R
        refine seg_Bg (pc' := (if c3 = v1 then 58 else 62)) (lv' := [(0, .int v0), (1, .int v1), (2, .int v2), (3, .int (v2 / 64)), (4, .int ((v2 / 8) - (v2 / 8) / 8 * 8)), (5, .int (v2 - v2 / 8 * 8))]) (st' := []) (lay' := lay) (h' := h) 2 rfl ?_
        refine pc_ite e (fun e => ?_) (fun e => ?_)
        · refine seg_Bg (pc' := 63) (lv' := [(0, .int v0), (1, .int v1), (2, .int v2), (3, .int (v2 / 64)), (4, .int ((v2 / 8) - (v2 / 8) / 8 * 8)), (5, .int (v2 - v2 / 8 * 8))]) (st' := [.int 1]) (lay' := lay) (h' := h) 2 rfl ?_
          exact BJm_failsOfThree_J63 L xs v0 v1 v2 (v2 / 64) ((v2 / 8) - (v2 / 8) / 8 * 8) (v2 - v2 / 8 * 8) 1 lay h o e R hH hE hR
        · refine seg_Bg (pc' := 63) (lv' := [(0, .int v0), (1, .int v1), (2, .int v2), (3, .int (v2 / 64)), (4, .int ((v2 / 8) - (v2 / 8) / 8 * 8)), (5, .int (v2 - v2 / 8 * 8))]) (st' := [.int 0]) (lay' := lay) (h' := h) 1 rfl ?_
          exact BJm_failsOfThree_J63 L xs v0 v1 v2 (v2 / 64) ((v2 / 8) - (v2 / 8) / 8 * 8) (v2 - v2 / 8 * 8) 0 lay h o e R hH hE hR
      · refine seg_Bg (pc' := 63) (lv' := [(0, .int v0), (1, .int v1), (2, .int v2), (3, .int (v2 / 64)), (4, .int ((v2 / 8) - (v2 / 8) / 8 * 8)), (5, .int (v2 - v2 / 8 * 8))]) (st' := [.int 0]) (lay' := lay) (h' := h) 1 rfl ?_
        exact BJm_failsOfThree_J63 L xs v0 v1 v2 (v2 / 64) ((v2 / 8) - (v2 / 8) / 8 * 8) (v2 - v2 / 8 * 8) 0 lay h o e R hH hE hR
    · refine seg_Bg (pc' := 63) (lv' := [(0, .int v0), (1, .int v1), (2, .int v2), (3, .int (v2 / 64)), (4, .int ((v2 / 8) - (v2 / 8) / 8 * 8)), (5, .int (v2 - v2 / 8 * 8))]) (st' := [.int 0]) (lay' := lay) (h' := h) 1 rfl ?_
      exact BJm_failsOfThree_J63 L xs v0 v1 v2 (v2 / 64) ((v2 / 8) - (v2 / 8) / 8 * 8) (v2 - v2 / 8 * 8) 0 lay h o e R hH hE hR
  · exact hE v2 (Option.some.inj e).symm
theorem BJm_failsOfThree_L2 (L : Nat) (xs : Nat → Int32) (v0 v1 : Int32) (lay : Lay) (h : Hp) (R : List Value × Lay × Hp) (C : ((Int32) ⊕ (Int32)) → Prop) (hE : ∀ t : Int32, C (.inl t) → Bg L xs 180 138 [(0, .int v0), (1, .int v1), (2, .int t)] [] lay h R) (hR : ∀ r : Int32, C (.inr r) → R = ([.int r], lay, h)) (n : Nat) (s : Int32) (o : ((Int32) ⊕ (Int32))) (e : loopN n (fun s => Jm_failsOfThree_L2 v0 v1 s) s = some o) (hC : C o) : Bg L xs 180 2 [(0, .int v0), (1, .int v1), (2, .int s)] [] lay h R := by
  refine loop_B (fun s => Jm_failsOfThree_L2 v0 v1 s) (fun s : Int32 => Bg L xs 180 2 [(0, .int v0), (1, .int v1), (2, .int s)] [] lay h R) C (fun s o e => ?_) n s o e hC
  intro hK
  refine BJm_failsOfThree_L2_s L xs v0 v1 lay h R s o (fun s q => by subst q; exact hK) (fun t q => by subst q; exact hE t hK) (fun r q => by subst q; exact hR r hK) e
set_option maxRecDepth 100000 in
theorem BJm_failsOfThree (L : Nat) (xs : Nat → Int32) (v0 : Int32) (v1 : Int32) (lay : Lay) (h : Hp) (o : Int32) (e : Jm_failsOfThree v0 v1 = some o) : Bg L xs 180 0 [(0, .int v0), (1, .int v1)] [] lay h ([.int o], lay, h) := by
  obtain ⟨R, hR⟩ : ∃ R : List Value × Lay × Hp, R = ([.int o], lay, h) := ⟨_, rfl⟩
  rw [← hR]
  refine seg_Bg (pc' := 2) (lv' := [(0, .int v0), (1, .int v1), (2, .int 0)]) (st' := []) (lay' := lay) (h' := h) 2 rfl ?_
  obtain ⟨t4o, et4o, e⟩ := bd_s e
  refine BJm_failsOfThree_L2 L xs v0 v1 lay h R (fun (t4x : (Int32) ⊕ (Int32)) => (sm t4x (fun t4 => some (-1)) (fun r4 => some r4)) = some o) (fun t4 e => ?_) (fun r4 e => ?_) 1000000 0 _ et4o e
  · refine seg_Bg (pc' := 139) (lv' := [(0, .int v0), (1, .int v1), (2, .int t4)]) (st' := [.int (-1)]) (lay' := lay) (h' := h) 1 rfl ?_
    rw [hR, ← Option.some.inj e]; exact ret_Bg rfl
  · rw [hR]; exact congrArg (fun r => (([.int r], lay, h) : List Value × Lay × Hp)) (Option.some.inj e).symm

